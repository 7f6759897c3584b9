def R_P : String := "ExactMesh$Points"
def T_P : u_T := fun k => match k with
  | 0 => ("ExactMesh$Points", "x", "[I", true)
  | 1 => ("ExactMesh$Points", "y", "[I", true)
  | _ => ("ExactMesh$Points", "count", "I", false)
def t_P : Nat → FieldType := fun k => match k with
  | 0 => .array .int
  | 1 => .array .int
  | _ => .int
theorem nm_P : ∀ a, a < 3 → ∀ b, b < 3 → a ≠ b → (T_P a).2.1 ≠ (T_P b).2.1 := by decide +kernel
theorem ty_P : ∀ k, k < 3 → parseFieldDescriptor (T_P k).2.2.1 = some (t_P k) := by decide +kernel
theorem in_P : ∀ w ∈ u_ws R_P T_P 3, w ∈ ec_tbl := fun w h => ec_in ((by decide +kernel : ∀ w ∈ u_ws R_P T_P 3, w ∈ lw_tbl) w h) ((by decide +kernel : ∀ w ∈ u_ws R_P T_P 3, ec_okw w = true) w h)
def R_L : String := "ExactMesh$Links"
def T_L : u_T := fun k => match k with
  | 0 => ("ExactMesh$Links", "from", "[I", true)
  | 1 => ("ExactMesh$Links", "to", "[I", true)
  | 2 => ("ExactMesh$Links", "reach", "[I", true)
  | _ => ("ExactMesh$Links", "count", "I", false)
def t_L : Nat → FieldType := fun k => match k with
  | 0 => .array .int
  | 1 => .array .int
  | 2 => .array .int
  | _ => .int
theorem nm_L : ∀ a, a < 4 → ∀ b, b < 4 → a ≠ b → (T_L a).2.1 ≠ (T_L b).2.1 := by decide +kernel
theorem ty_L : ∀ k, k < 4 → parseFieldDescriptor (T_L k).2.2.1 = some (t_L k) := by decide +kernel
theorem in_L : ∀ w ∈ u_ws R_L T_L 4, w ∈ ec_tbl := fun w h => ec_in ((by decide +kernel : ∀ w ∈ u_ws R_L T_L 4, w ∈ lw_tbl) w h) ((by decide +kernel : ∀ w ∈ u_ws R_L T_L 4, ec_okw w = true) w h)
def R_F : String := "ExactMesh$FullMesh"
def T_F : u_T := fun k => match k with
  | 0 => ("ExactMesh$FullMesh", "points", "LExactMesh$Points;", true)
  | 1 => ("ExactMesh$FullMesh", "links", "LExactMesh$Links;", true)
  | 2 => ("ExactMesh$FullMesh", "sides", "LExactMesh$Links;", true)
  | _ => ("ExactMesh$FullMesh", "third", "[I", true)
def t_F : Nat → FieldType := fun k => match k with
  | 0 => .object "ExactMesh$Points"
  | 1 => .object "ExactMesh$Links"
  | 2 => .object "ExactMesh$Links"
  | _ => .array .int
theorem nm_F : ∀ a, a < 4 → ∀ b, b < 4 → a ≠ b → (T_F a).2.1 ≠ (T_F b).2.1 := by decide +kernel
theorem ty_F : ∀ k, k < 4 → parseFieldDescriptor (T_F k).2.2.1 = some (t_F k) := by decide +kernel
theorem in_F : ∀ w ∈ u_ws R_F T_F 4, w ∈ ec_tbl := fun w h => ec_in ((by decide +kernel : ∀ w ∈ u_ws R_F T_F 4, w ∈ lw_tbl) w h) ((by decide +kernel : ∀ w ∈ u_ws R_F T_F 4, ec_okw w = true) w h)
def R_M : String := "ExactMesh$CarvedMesh"
def T_M : u_T := fun k => match k with
  | 0 => ("ExactMesh$CarvedMesh", "corners", "[I", true)
  | 1 => ("ExactMesh$CarvedMesh", "marked", "[Z", true)
  | 2 => ("ExactMesh$CarvedMesh", "owner", "[I", true)
  | 3 => ("ExactMesh$CarvedMesh", "segmentReach", "[I", true)
  | _ => ("ExactMesh$CarvedMesh", "count", "I", false)
def t_M : Nat → FieldType := fun k => match k with
  | 0 => .array .int
  | 1 => .array .boolean
  | 2 => .array .int
  | 3 => .array .int
  | _ => .int
theorem nm_M : ∀ a, a < 5 → ∀ b, b < 5 → a ≠ b → (T_M a).2.1 ≠ (T_M b).2.1 := by decide +kernel
theorem ty_M : ∀ k, k < 5 → parseFieldDescriptor (T_M k).2.2.1 = some (t_M k) := by decide +kernel
theorem in_M : ∀ w ∈ u_ws R_M T_M 5, w ∈ ec_tbl := fun w h => ec_in ((by decide +kernel : ∀ w ∈ u_ws R_M T_M 5, w ∈ lw_tbl) w h) ((by decide +kernel : ∀ w ∈ u_ws R_M T_M 5, ec_okw w = true) w h)
def R_X : String := "ExactMesh"
def T_X : u_T := fun k => match k with
  | 0 => ("ExactMesh", "full", "LExactMesh$FullMesh;", true)
  | 1 => ("ExactMesh", "points", "LExactMesh$Points;", true)
  | 2 => ("ExactMesh", "links", "LExactMesh$Links;", true)
  | 3 => ("ExactMesh", "holePoints", "LExactMesh$Points;", true)
  | _ => ("ExactMesh", "mesh", "LExactMesh$CarvedMesh;", true)
def t_X : Nat → FieldType := fun k => match k with
  | 0 => .object "ExactMesh$FullMesh"
  | 1 => .object "ExactMesh$Points"
  | 2 => .object "ExactMesh$Links"
  | 3 => .object "ExactMesh$Points"
  | _ => .object "ExactMesh$CarvedMesh"
theorem nm_X : ∀ a, a < 5 → ∀ b, b < 5 → a ≠ b → (T_X a).2.1 ≠ (T_X b).2.1 := by decide +kernel
theorem ty_X : ∀ k, k < 5 → parseFieldDescriptor (T_X k).2.2.1 = some (t_X k) := by decide +kernel
theorem in_X : ∀ w ∈ u_ws R_X T_X 5, w ∈ ec_tbl := fun w h => ec_in ((by decide +kernel : ∀ w ∈ u_ws R_X T_X 5, w ∈ lw_tbl) w h) ((by decide +kernel : ∀ w ∈ u_ws R_X T_X 5, ec_okw w = true) w h)
def R_R : String := "ExactMeshModel"
def T_R : u_T := fun k => match k with
  | 0 => ("ExactMeshModel", "points", "I", false)
  | 1 => ("ExactMeshModel", "px", "[I", true)
  | 2 => ("ExactMeshModel", "py", "[I", true)
  | 3 => ("ExactMeshModel", "lines", "I", false)
  | 4 => ("ExactMeshModel", "from", "[I", true)
  | 5 => ("ExactMeshModel", "to", "[I", true)
  | 6 => ("ExactMeshModel", "holes", "I", false)
  | 7 => ("ExactMeshModel", "hx", "[I", true)
  | 8 => ("ExactMeshModel", "hy", "[I", true)
  | 9 => ("ExactMeshModel", "count", "I", false)
  | 10 => ("ExactMeshModel", "one", "[I", true)
  | 11 => ("ExactMeshModel", "two", "[I", true)
  | 12 => ("ExactMeshModel", "three", "[I", true)
  | 13 => ("ExactMeshModel", "gone", "[Z", true)
  | 14 => ("ExactMeshModel", "left", "I", false)
  | 15 => ("ExactMeshModel", "corner", "[I", true)
  | 16 => ("ExactMeshModel", "fixed", "[Z", true)
  | _ => ("ExactMeshModel", "part", "[J", true)
def t_R : Nat → FieldType := fun k => match k with
  | 0 => .int
  | 1 => .array .int
  | 2 => .array .int
  | 3 => .int
  | 4 => .array .int
  | 5 => .array .int
  | 6 => .int
  | 7 => .array .int
  | 8 => .array .int
  | 9 => .int
  | 10 => .array .int
  | 11 => .array .int
  | 12 => .array .int
  | 13 => .array .boolean
  | 14 => .int
  | 15 => .array .int
  | 16 => .array .boolean
  | _ => .array .long
theorem nm_R : ∀ a, a < 18 → ∀ b, b < 18 → a ≠ b → (T_R a).2.1 ≠ (T_R b).2.1 := by decide +kernel
theorem ty_R : ∀ k, k < 18 → parseFieldDescriptor (T_R k).2.2.1 = some (t_R k) := by decide +kernel
theorem in_R : ∀ w ∈ u_ws R_R T_R 18, w ∈ ec_tbl := fun w h => ec_in ((by decide +kernel : ∀ w ∈ u_ws R_R T_R 18, w ∈ lw_tbl) w h) ((by decide +kernel : ∀ w ∈ u_ws R_R T_R 18, ec_okw w = true) w h)
def R_E : String := "ExactMesh$Exact"
def R_JA : String := "java/util/Arrays"
abbrev vwCl : List vw_C := [(R_P, T_P, 3), (R_L, T_L, 4), (R_F, T_F, 4), (R_M, T_M, 5), (R_X, T_X, 5), (R_R, T_R, 18)]
def y_X_init : MethodName := ⟨"ExactMesh", "<init>", "()V"⟩
abbrev b_X_init : ByteArray := prog_1_method_1_code
def y_O_init : MethodName := ⟨"java/lang/Object", "<init>", "()V"⟩
abbrev b_O_init : ByteArray := object_method_1_code
def y_F_init : MethodName := ⟨"ExactMesh$FullMesh", "<init>", "()V"⟩
abbrev b_F_init : ByteArray := prog_4_method_1_code
def y_P_init : MethodName := ⟨"ExactMesh$Points", "<init>", "(I)V"⟩
abbrev b_P_init : ByteArray := prog_6_method_1_code
def y_L_init : MethodName := ⟨"ExactMesh$Links", "<init>", "(I)V"⟩
abbrev b_L_init : ByteArray := prog_5_method_1_code
def y_M_init : MethodName := ⟨"ExactMesh$CarvedMesh", "<init>", "()V"⟩
abbrev b_M_init : ByteArray := prog_2_method_1_code
def y_X_vertex : MethodName := ⟨"ExactMesh", "vertex", "(II)I"⟩
abbrev b_X_vertex : ByteArray := prog_1_method_2_code
def y_X_isNear : MethodName := ⟨"ExactMesh", "isNear", "(II)Z"⟩
abbrev b_X_isNear : ByteArray := prog_1_method_19_code
def y_P_numberAt : MethodName := ⟨"ExactMesh$Points", "numberAt", "(II)I"⟩
abbrev b_P_numberAt : ByteArray := prog_6_method_5_code
def y_P_isFull : MethodName := ⟨"ExactMesh$Points", "isFull", "()Z"⟩
abbrev b_P_isFull : ByteArray := prog_6_method_3_code
def y_L_anyThrough : MethodName := ⟨"ExactMesh$Links", "anyThrough", "(LExactMesh$Points;II)Z"⟩
abbrev b_L_anyThrough : ByteArray := prog_5_method_7_code
def y_P_isBetween : MethodName := ⟨"ExactMesh$Points", "isBetween", "(IIII)Z"⟩
abbrev b_P_isBetween : ByteArray := prog_6_method_10_code
def y_JM_min : MethodName := ⟨"java/lang/Math", "min", "(II)I"⟩
abbrev b_JM_min : ByteArray := prog_9_method_69_code
def y_JM_max : MethodName := ⟨"java/lang/Math", "max", "(II)I"⟩
abbrev b_JM_max : ByteArray := prog_9_method_65_code
def y_P_leftness : MethodName := ⟨"ExactMesh$Points", "leftness", "(IIII)J"⟩
abbrev b_P_leftness : ByteArray := prog_6_method_6_code
def y_P_add : MethodName := ⟨"ExactMesh$Points", "add", "(II)V"⟩
abbrev b_P_add : ByteArray := prog_6_method_4_code
def y_X_segment : MethodName := ⟨"ExactMesh", "segment", "(II)I"⟩
abbrev b_X_segment : ByteArray := prog_1_method_3_code
def y_P_has : MethodName := ⟨"ExactMesh$Points", "has", "(I)Z"⟩
abbrev b_P_has : ByteArray := prog_6_method_2_code
def y_L_join : MethodName := ⟨"ExactMesh$Links", "join", "(II)Z"⟩
abbrev b_L_join : ByteArray := prog_5_method_6_code
def y_L_isFull : MethodName := ⟨"ExactMesh$Links", "isFull", "()Z"⟩
abbrev b_L_isFull : ByteArray := prog_5_method_2_code
def y_P_anyBetween : MethodName := ⟨"ExactMesh$Points", "anyBetween", "(II)Z"⟩
abbrev b_P_anyBetween : ByteArray := prog_6_method_11_code
def y_L_anyCrossing : MethodName := ⟨"ExactMesh$Links", "anyCrossing", "(LExactMesh$Points;II)Z"⟩
abbrev b_L_anyCrossing : ByteArray := prog_5_method_8_code
def y_P_areCrossing : MethodName := ⟨"ExactMesh$Points", "areCrossing", "(IIII)Z"⟩
abbrev b_P_areCrossing : ByteArray := prog_6_method_13_code
def y_P_sideOfLine : MethodName := ⟨"ExactMesh$Points", "sideOfLine", "(III)I"⟩
abbrev b_P_sideOfLine : ByteArray := prog_6_method_7_code
def y_E_signOf : MethodName := ⟨"ExactMesh$Exact", "signOf", "(J)I"⟩
abbrev b_E_signOf : ByteArray := prog_3_method_2_code
def y_L_add : MethodName := ⟨"ExactMesh$Links", "add", "(II)V"⟩
abbrev b_L_add : ByteArray := prog_5_method_4_code
def y_X_hole : MethodName := ⟨"ExactMesh", "hole", "(II)I"⟩
abbrev b_X_hole : ByteArray := prog_1_method_4_code
def y_X_turn : MethodName := ⟨"ExactMesh", "turn", "(III)I"⟩
abbrev b_X_turn : ByteArray := prog_1_method_5_code
def y_X_inCircle : MethodName := ⟨"ExactMesh", "inCircle", "(IIII)I"⟩
abbrev b_X_inCircle : ByteArray := prog_1_method_6_code
def y_P_sideOfCircle : MethodName := ⟨"ExactMesh$Points", "sideOfCircle", "(IIII)I"⟩
abbrev b_P_sideOfCircle : ByteArray := prog_6_method_8_code
def y_P_squareDistance : MethodName := ⟨"ExactMesh$Points", "squareDistance", "(II)J"⟩
abbrev b_P_squareDistance : ByteArray := prog_6_method_9_code
def y_E_signOfProducts : MethodName := ⟨"ExactMesh$Exact", "signOfProducts", "(JJJJJJ)I"⟩
abbrev b_E_signOfProducts : ByteArray := prog_3_method_3_code
def y_E_upper : MethodName := ⟨"ExactMesh$Exact", "upper", "(J)J"⟩
abbrev b_E_upper : ByteArray := prog_3_method_5_code
def y_E_mixed : MethodName := ⟨"ExactMesh$Exact", "mixed", "(JJ)J"⟩
abbrev b_E_mixed : ByteArray := prog_3_method_4_code
def y_E_lower : MethodName := ⟨"ExactMesh$Exact", "lower", "(J)J"⟩
abbrev b_E_lower : ByteArray := prog_3_method_6_code
def y_X_build : MethodName := ⟨"ExactMesh", "build", "(ZZ)I"⟩
abbrev b_X_build : ByteArray := prog_1_method_7_code
def y_F_drawSides : MethodName := ⟨"ExactMesh$FullMesh", "drawSides", "()V"⟩
abbrev b_F_drawSides : ByteArray := prog_4_method_5_code
def y_L_clear : MethodName := ⟨"ExactMesh$Links", "clear", "()V"⟩
abbrev b_L_clear : ByteArray := prog_5_method_3_code
def y_JA_fill : MethodName := ⟨"java/util/Arrays", "fill", "([II)V"⟩
abbrev b_JA_fill : ByteArray := prog_11_method_103_code
def y_L_addAll : MethodName := ⟨"ExactMesh$Links", "addAll", "(LExactMesh$Links;)V"⟩
abbrev b_L_addAll : ByteArray := prog_5_method_5_code
def y_F_hasRoom : MethodName := ⟨"ExactMesh$FullMesh", "hasRoom", "(II)Z"⟩
abbrev b_F_hasRoom : ByteArray := prog_4_method_6_code
def y_F_findTriangles : MethodName := ⟨"ExactMesh$FullMesh", "findTriangles", "()V"⟩
abbrev b_F_findTriangles : ByteArray := prog_4_method_7_code
def y_F_findTrianglesAt : MethodName := ⟨"ExactMesh$FullMesh", "findTrianglesAt", "(II)V"⟩
abbrev b_F_findTrianglesAt : ByteArray := prog_4_method_8_code
def y_F_setIfEmpty : MethodName := ⟨"ExactMesh$FullMesh", "setIfEmpty", "(III)V"⟩
abbrev b_F_setIfEmpty : ByteArray := prog_4_method_9_code
def y_P_anyInside : MethodName := ⟨"ExactMesh$Points", "anyInside", "(III)Z"⟩
abbrev b_P_anyInside : ByteArray := prog_6_method_12_code
def y_F_setTriangle : MethodName := ⟨"ExactMesh$FullMesh", "setTriangle", "(III)V"⟩
abbrev b_F_setTriangle : ByteArray := prog_4_method_4_code
def y_F_setThird : MethodName := ⟨"ExactMesh$FullMesh", "setThird", "(III)V"⟩
abbrev b_F_setThird : ByteArray := prog_4_method_3_code
def y_F_makeSidesGood : MethodName := ⟨"ExactMesh$FullMesh", "makeSidesGood", "()V"⟩
abbrev b_F_makeSidesGood : ByteArray := prog_4_method_10_code
def y_F_flipBadSides : MethodName := ⟨"ExactMesh$FullMesh", "flipBadSides", "()Z"⟩
abbrev b_F_flipBadSides : ByteArray := prog_4_method_11_code
def y_F_isBad : MethodName := ⟨"ExactMesh$FullMesh", "isBad", "(II)Z"⟩
abbrev b_F_isBad : ByteArray := prog_4_method_12_code
def y_F_thirdOf : MethodName := ⟨"ExactMesh$FullMesh", "thirdOf", "(II)I"⟩
abbrev b_F_thirdOf : ByteArray := prog_4_method_2_code
def y_F_flip : MethodName := ⟨"ExactMesh$FullMesh", "flip", "(II)V"⟩
abbrev b_F_flip : ByteArray := prog_4_method_13_code
def y_M_copyFrom : MethodName := ⟨"ExactMesh$CarvedMesh", "copyFrom", "(LExactMesh$FullMesh;)V"⟩
abbrev b_M_copyFrom : ByteArray := prog_2_method_11_code
def y_JS_arraycopy : MethodName := ⟨"java/lang/System", "arraycopy", "(Ljava/lang/Object;ILjava/lang/Object;II)V"⟩
def y_M_clear : MethodName := ⟨"ExactMesh$CarvedMesh", "clear", "()V"⟩
abbrev b_M_clear : ByteArray := prog_2_method_12_code
def y_M_add : MethodName := ⟨"ExactMesh$CarvedMesh", "add", "(III)V"⟩
abbrev b_M_add : ByteArray := prog_2_method_13_code
def y_M_markHoles : MethodName := ⟨"ExactMesh$CarvedMesh", "markHoles", "(LExactMesh$Points;LExactMesh$Points;)V"⟩
abbrev b_M_markHoles : ByteArray := prog_2_method_14_code
def y_M_holds : MethodName := ⟨"ExactMesh$CarvedMesh", "holds", "(LExactMesh$Points;III)Z"⟩
abbrev b_M_holds : ByteArray := prog_2_method_7_code
def y_M_cornerOf : MethodName := ⟨"ExactMesh$CarvedMesh", "cornerOf", "(II)I"⟩
abbrev b_M_cornerOf : ByteArray := prog_2_method_3_code
def y_M_endOf : MethodName := ⟨"ExactMesh$CarvedMesh", "endOf", "(II)I"⟩
abbrev b_M_endOf : ByteArray := prog_2_method_4_code
def y_M_markOutside : MethodName := ⟨"ExactMesh$CarvedMesh", "markOutside", "()V"⟩
abbrev b_M_markOutside : ByteArray := prog_2_method_15_code
def y_M_beyond : MethodName := ⟨"ExactMesh$CarvedMesh", "beyond", "(II)I"⟩
abbrev b_M_beyond : ByteArray := prog_2_method_5_code
def y_M_isFixed : MethodName := ⟨"ExactMesh$CarvedMesh", "isFixed", "(II)Z"⟩
abbrev b_M_isFixed : ByteArray := prog_2_method_6_code
def y_M_spreadMarks : MethodName := ⟨"ExactMesh$CarvedMesh", "spreadMarks", "()V"⟩
abbrev b_M_spreadMarks : ByteArray := prog_2_method_16_code
def y_M_isBesideMarked : MethodName := ⟨"ExactMesh$CarvedMesh", "isBesideMarked", "(I)Z"⟩
abbrev b_M_isBesideMarked : ByteArray := prog_2_method_17_code
def y_M_dropMarked : MethodName := ⟨"ExactMesh$CarvedMesh", "dropMarked", "()V"⟩
abbrev b_M_dropMarked : ByteArray := prog_2_method_18_code
def y_X_triangles : MethodName := ⟨"ExactMesh", "triangles", "()I"⟩
abbrev b_X_triangles : ByteArray := prog_1_method_8_code
def y_X_corner : MethodName := ⟨"ExactMesh", "corner", "(II)I"⟩
abbrev b_X_corner : ByteArray := prog_1_method_9_code
def y_M_hasSide : MethodName := ⟨"ExactMesh$CarvedMesh", "hasSide", "(II)Z"⟩
abbrev b_M_hasSide : ByteArray := prog_2_method_2_code
def y_X_across : MethodName := ⟨"ExactMesh", "across", "(II)I"⟩
abbrev b_X_across : ByteArray := prog_1_method_10_code
def y_X_fixed : MethodName := ⟨"ExactMesh", "fixed", "(II)Z"⟩
abbrev b_X_fixed : ByteArray := prog_1_method_11_code
def y_X_locate : MethodName := ⟨"ExactMesh", "locate", "(II)I"⟩
abbrev b_X_locate : ByteArray := prog_1_method_12_code
def y_X_degree : MethodName := ⟨"ExactMesh", "degree", "(I)I"⟩
abbrev b_X_degree : ByteArray := prog_1_method_13_code
def y_M_trianglesAt : MethodName := ⟨"ExactMesh$CarvedMesh", "trianglesAt", "(I)I"⟩
abbrev b_M_trianglesAt : ByteArray := prog_2_method_9_code
def y_X_area : MethodName := ⟨"ExactMesh", "area", "()J"⟩
abbrev b_X_area : ByteArray := prog_1_method_14_code
def y_M_doubleArea : MethodName := ⟨"ExactMesh$CarvedMesh", "doubleArea", "(LExactMesh$Points;I)J"⟩
abbrev b_M_doubleArea : ByteArray := prog_2_method_8_code
def y_X_border : MethodName := ⟨"ExactMesh", "border", "()I"⟩
abbrev b_X_border : ByteArray := prog_1_method_15_code
def y_M_openSides : MethodName := ⟨"ExactMesh$CarvedMesh", "openSides", "()I"⟩
abbrev b_M_openSides : ByteArray := prog_2_method_10_code
def y_X_vertices : MethodName := ⟨"ExactMesh", "vertices", "()I"⟩
abbrev b_X_vertices : ByteArray := prog_1_method_16_code
def y_X_segments : MethodName := ⟨"ExactMesh", "segments", "()I"⟩
abbrev b_X_segments : ByteArray := prog_1_method_17_code
def y_X_place : MethodName := ⟨"ExactMesh", "place", "(II)I"⟩
abbrev b_X_place : ByteArray := prog_1_method_18_code
def y_R_init : MethodName := ⟨"ExactMeshModel", "<init>", "()V"⟩
abbrev b_R_init : ByteArray := prog_8_method_1_code
def y_R_vertex : MethodName := ⟨"ExactMeshModel", "vertex", "(II)I"⟩
abbrev b_R_vertex : ByteArray := prog_8_method_14_code
def y_R_far : MethodName := ⟨"ExactMeshModel", "far", "(II)Z"⟩
abbrev b_R_far : ByteArray := prog_8_method_10_code
def y_R_on : MethodName := ⟨"ExactMeshModel", "on", "(IIJJ)Z"⟩
abbrev b_R_on : ByteArray := prog_8_method_11_code
def y_R_side : MethodName := ⟨"ExactMeshModel", "side", "(IIJJ)J"⟩
abbrev b_R_side : ByteArray := prog_8_method_3_code
def y_R_cross : MethodName := ⟨"ExactMeshModel", "cross", "(JJJJJJ)J"⟩
abbrev b_R_cross : ByteArray := prog_8_method_2_code
def y_R_segment : MethodName := ⟨"ExactMeshModel", "segment", "(II)I"⟩
abbrev b_R_segment : ByteArray := prog_8_method_15_code
def y_R_isPoint : MethodName := ⟨"ExactMeshModel", "isPoint", "(I)Z"⟩
abbrev b_R_isPoint : ByteArray := prog_8_method_9_code
def y_R_isLine : MethodName := ⟨"ExactMeshModel", "isLine", "(II)Z"⟩
abbrev b_R_isLine : ByteArray := prog_8_method_13_code
def y_R_crosses : MethodName := ⟨"ExactMeshModel", "crosses", "(IIII)Z"⟩
abbrev b_R_crosses : ByteArray := prog_8_method_12_code
def y_R_of : MethodName := ⟨"ExactMeshModel", "of", "(III)J"⟩
abbrev b_R_of : ByteArray := prog_8_method_4_code
def y_R_sign : MethodName := ⟨"ExactMeshModel", "sign", "(J)I"⟩
abbrev b_R_sign : ByteArray := prog_8_method_5_code
def y_R_hole : MethodName := ⟨"ExactMeshModel", "hole", "(II)I"⟩
abbrev b_R_hole : ByteArray := prog_8_method_16_code
def y_R_turn : MethodName := ⟨"ExactMeshModel", "turn", "(III)I"⟩
abbrev b_R_turn : ByteArray := prog_8_method_17_code
def y_R_inCircle : MethodName := ⟨"ExactMeshModel", "inCircle", "(IIII)I"⟩
abbrev b_R_inCircle : ByteArray := prog_8_method_18_code
def y_R_circle : MethodName := ⟨"ExactMeshModel", "circle", "(IIII)I"⟩
abbrev b_R_circle : ByteArray := prog_8_method_8_code
def y_R_addProduct : MethodName := ⟨"ExactMeshModel", "addProduct", "(JJ)V"⟩
abbrev b_R_addProduct : ByteArray := prog_8_method_6_code
def y_R_signOfSum : MethodName := ⟨"ExactMeshModel", "signOfSum", "()I"⟩
abbrev b_R_signOfSum : ByteArray := prog_8_method_7_code
def y_R_build : MethodName := ⟨"ExactMeshModel", "build", "(ZZ)I"⟩
abbrev b_R_build : ByteArray := prog_8_method_31_code
def y_R_fill : MethodName := ⟨"ExactMeshModel", "fill", "()V"⟩
abbrev b_R_fill : ByteArray := prog_8_method_25_code
def y_R_onHull : MethodName := ⟨"ExactMeshModel", "onHull", "(II)Z"⟩
abbrev b_R_onHull : ByteArray := prog_8_method_24_code
def y_R_grow : MethodName := ⟨"ExactMeshModel", "grow", "(II)V"⟩
abbrev b_R_grow : ByteArray := prog_8_method_23_code
def y_R_third : MethodName := ⟨"ExactMeshModel", "third", "(II)I"⟩
abbrev b_R_third : ByteArray := prog_8_method_21_code
def y_R_canBe : MethodName := ⟨"ExactMeshModel", "canBe", "(III)Z"⟩
abbrev b_R_canBe : ByteArray := prog_8_method_20_code
def y_R_clear : MethodName := ⟨"ExactMeshModel", "clear", "(III)Z"⟩
abbrev b_R_clear : ByteArray := prog_8_method_19_code
def y_R_has : MethodName := ⟨"ExactMeshModel", "has", "(III)Z"⟩
abbrev b_R_has : ByteArray := prog_8_method_22_code
def y_R_carve : MethodName := ⟨"ExactMeshModel", "carve", "(ZZ)V"⟩
abbrev b_R_carve : ByteArray := prog_8_method_30_code
def y_R_inside : MethodName := ⟨"ExactMeshModel", "inside", "(IIIJJ)Z"⟩
abbrev b_R_inside : ByteArray := prog_8_method_26_code
def y_R_open : MethodName := ⟨"ExactMeshModel", "open", "(II)Z"⟩
abbrev b_R_open : ByteArray := prog_8_method_28_code
def y_R_leftOf : MethodName := ⟨"ExactMeshModel", "leftOf", "(II)I"⟩
abbrev b_R_leftOf : ByteArray := prog_8_method_27_code
def y_R_next : MethodName := ⟨"ExactMeshModel", "next", "(II)Z"⟩
abbrev b_R_next : ByteArray := prog_8_method_29_code
def y_R_keep : MethodName := ⟨"ExactMeshModel", "keep", "(III)V"⟩
abbrev b_R_keep : ByteArray := prog_8_method_32_code
def y_R_triangles : MethodName := ⟨"ExactMeshModel", "triangles", "()I"⟩
abbrev b_R_triangles : ByteArray := prog_8_method_33_code
def y_R_corner : MethodName := ⟨"ExactMeshModel", "corner", "(II)I"⟩
abbrev b_R_corner : ByteArray := prog_8_method_35_code
def y_R_isCorner : MethodName := ⟨"ExactMeshModel", "isCorner", "(II)Z"⟩
abbrev b_R_isCorner : ByteArray := prog_8_method_34_code
def y_R_across : MethodName := ⟨"ExactMeshModel", "across", "(II)I"⟩
abbrev b_R_across : ByteArray := prog_8_method_36_code
def y_R_fixed : MethodName := ⟨"ExactMeshModel", "fixed", "(II)Z"⟩
abbrev b_R_fixed : ByteArray := prog_8_method_37_code
def y_R_locate : MethodName := ⟨"ExactMeshModel", "locate", "(II)I"⟩
abbrev b_R_locate : ByteArray := prog_8_method_38_code
def y_R_degree : MethodName := ⟨"ExactMeshModel", "degree", "(I)I"⟩
abbrev b_R_degree : ByteArray := prog_8_method_39_code
def y_R_area : MethodName := ⟨"ExactMeshModel", "area", "()J"⟩
abbrev b_R_area : ByteArray := prog_8_method_40_code
def y_R_border : MethodName := ⟨"ExactMeshModel", "border", "()I"⟩
abbrev b_R_border : ByteArray := prog_8_method_41_code
def y_R_vertices : MethodName := ⟨"ExactMeshModel", "vertices", "()I"⟩
abbrev b_R_vertices : ByteArray := prog_8_method_42_code
def y_R_segments : MethodName := ⟨"ExactMeshModel", "segments", "()I"⟩
abbrev b_R_segments : ByteArray := prog_8_method_43_code
def y_R_place : MethodName := ⟨"ExactMeshModel", "place", "(II)I"⟩
abbrev b_R_place : ByteArray := prog_8_method_44_code
theorem wd_0 : Cond.initialized "ExactMeshLaw" ∈ ec_tbl := ec_in (List.mem_append_right _ (List.mem_append_left _ (List.mem_of_getElem? (i := 0) rfl))) rfl
theorem wd_1 : Cond.initialized "ExactMesh" ∈ ec_tbl := ec_in (List.mem_append_right _ (List.mem_append_left _ (List.mem_of_getElem? (i := 1) rfl))) rfl
theorem wd_2 : Cond.initialized "ExactMesh$FullMesh" ∈ ec_tbl := ec_in (List.mem_append_right _ (List.mem_append_left _ (List.mem_of_getElem? (i := 2) rfl))) rfl
theorem wd_3 : Cond.initialized "ExactMesh$Points" ∈ ec_tbl := ec_in (List.mem_append_right _ (List.mem_append_left _ (List.mem_of_getElem? (i := 3) rfl))) rfl
theorem wd_4 : Cond.initialized "ExactMesh$Links" ∈ ec_tbl := ec_in (List.mem_append_right _ (List.mem_append_left _ (List.mem_of_getElem? (i := 4) rfl))) rfl
theorem wd_5 : Cond.initialized "ExactMesh$CarvedMesh" ∈ ec_tbl := ec_in (List.mem_append_right _ (List.mem_append_left _ (List.mem_of_getElem? (i := 5) rfl))) rfl
theorem wd_6 : Cond.initialized "ExactMeshModel" ∈ ec_tbl := ec_in (List.mem_append_right _ (List.mem_append_left _ (List.mem_of_getElem? (i := 6) rfl))) rfl
theorem wd_7 : Cond.initialized "java/lang/Math" ∈ ec_tbl := ec_in (List.mem_append_right _ (List.mem_append_left _ (List.mem_of_getElem? (i := 7) rfl))) rfl
theorem wd_8 : Cond.initialized "ExactMesh$Exact" ∈ ec_tbl := ec_in (List.mem_append_right _ (List.mem_append_left _ (List.mem_of_getElem? (i := 8) rfl))) rfl
theorem wd_9 : Cond.initialized "java/util/Arrays" ∈ ec_tbl := ec_in (List.mem_append_right _ (List.mem_append_left _ (List.mem_of_getElem? (i := 9) rfl))) rfl
theorem wd_10 : Cond.initialized "java/lang/System" ∈ ec_tbl := ec_in (List.mem_append_right _ (List.mem_append_left _ (List.mem_of_getElem? (i := 10) rfl))) rfl
theorem wd_11 : Cond.classLink "ExactMeshLaw" 7 "ExactMesh" ∈ ec_tbl := ec_in (List.mem_append_right _ (List.mem_append_left _ (List.mem_of_getElem? (i := 11) rfl))) rfl
theorem wd_12 : Cond.instantiable "ExactMesh" 5 ∈ ec_tbl := ec_in (List.mem_append_right _ (List.mem_append_left _ (List.mem_of_getElem? (i := 12) rfl))) rfl
theorem wd_13 : Cond.methodLink "ExactMeshLaw" 9 y_X_init ∈ ec_tbl := ec_in (List.mem_append_right _ (List.mem_append_left _ (List.mem_of_getElem? (i := 13) rfl))) rfl
theorem wd_14 : Cond.instanceMethod y_X_init ∈ ec_tbl := ec_in (List.mem_append_right _ (List.mem_append_left _ (List.mem_of_getElem? (i := 14) rfl))) rfl
theorem wd_15 : Cond.code y_X_init b_X_init 1 none ∈ ec_tbl := ec_in (List.mem_append_right _ (List.mem_append_left _ (List.mem_of_getElem? (i := 15) rfl))) rfl
theorem wd_16 : Cond.methodLink "ExactMesh" 3 y_O_init ∈ ec_tbl := ec_in (List.mem_append_right _ (List.mem_append_left _ (List.mem_of_getElem? (i := 16) rfl))) rfl
theorem wd_17 : Cond.instanceMethod y_O_init ∈ ec_tbl := ec_in (List.mem_append_right _ (List.mem_append_left _ (List.mem_of_getElem? (i := 17) rfl))) rfl
theorem wd_18 : Cond.code y_O_init b_O_init 1 none ∈ ec_tbl := ec_in (List.mem_append_right _ (List.mem_append_left _ (List.mem_of_getElem? (i := 18) rfl))) rfl
theorem wd_19 : Cond.classLink "ExactMesh" 9 "ExactMesh$FullMesh" ∈ ec_tbl := ec_in (List.mem_append_right _ (List.mem_append_left _ (List.mem_of_getElem? (i := 19) rfl))) rfl
theorem wd_20 : Cond.instantiable "ExactMesh$FullMesh" 4 ∈ ec_tbl := ec_in (List.mem_append_right _ (List.mem_append_left _ (List.mem_of_getElem? (i := 20) rfl))) rfl
theorem wd_21 : Cond.methodLink "ExactMesh" 11 y_F_init ∈ ec_tbl := ec_in (List.mem_append_right _ (List.mem_append_left _ (List.mem_of_getElem? (i := 21) rfl))) rfl
theorem wd_22 : Cond.instanceMethod y_F_init ∈ ec_tbl := ec_in (List.mem_append_right _ (List.mem_append_left _ (List.mem_of_getElem? (i := 22) rfl))) rfl
theorem wd_23 : Cond.code y_F_init b_F_init 1 none ∈ ec_tbl := ec_in (List.mem_append_right _ (List.mem_append_left _ (List.mem_of_getElem? (i := 23) rfl))) rfl
theorem wd_24 : Cond.methodLink "ExactMesh$FullMesh" 3 y_O_init ∈ ec_tbl := ec_in (List.mem_append_right _ (List.mem_append_left _ (List.mem_of_getElem? (i := 24) rfl))) rfl
theorem wd_25 : Cond.classLink "ExactMesh$FullMesh" 9 "ExactMesh$Points" ∈ ec_tbl := ec_in (List.mem_append_right _ (List.mem_append_left _ (List.mem_of_getElem? (i := 25) rfl))) rfl
theorem wd_26 : Cond.instantiable "ExactMesh$Points" 3 ∈ ec_tbl := ec_in (List.mem_append_right _ (List.mem_append_left _ (List.mem_of_getElem? (i := 26) rfl))) rfl
theorem wd_27 : Cond.methodLink "ExactMesh$FullMesh" 11 y_P_init ∈ ec_tbl := ec_in (List.mem_append_right _ (List.mem_append_left _ (List.mem_of_getElem? (i := 27) rfl))) rfl
theorem wd_28 : Cond.instanceMethod y_P_init ∈ ec_tbl := ec_in (List.mem_append_right _ (List.mem_append_left _ (List.mem_of_getElem? (i := 28) rfl))) rfl
theorem wd_29 : Cond.code y_P_init b_P_init 2 none ∈ ec_tbl := ec_in (List.mem_append_right _ (List.mem_append_left _ (List.mem_of_getElem? (i := 29) rfl))) rfl
theorem wd_30 : Cond.methodLink "ExactMesh$Points" 3 y_O_init ∈ ec_tbl := ec_in (List.mem_append_right _ (List.mem_append_left _ (List.mem_of_getElem? (i := 30) rfl))) rfl
theorem wd_31 : Cond.fieldLink "ExactMesh$Points" 9 "ExactMesh$Points" "x" "[I" ∈ ec_tbl := ec_in (List.mem_append_right _ (List.mem_append_left _ (List.mem_of_getElem? (i := 31) rfl))) rfl
theorem wd_32 : Cond.fieldLinkNest "ExactMesh$CarvedMesh" 42 "ExactMesh$Points" "x" "[I" "ExactMesh" ∈ ec_tbl := ec_in (List.mem_append_right _ (List.mem_append_left _ (List.mem_of_getElem? (i := 32) rfl))) rfl
theorem wd_33 : Cond.fieldLinkNest "ExactMesh" 146 "ExactMesh$Points" "x" "[I" "ExactMesh" ∈ ec_tbl := ec_in (List.mem_append_right _ (List.mem_append_left _ (List.mem_of_getElem? (i := 33) rfl))) rfl
theorem wd_34 : Cond.fieldLink "ExactMesh$Points" 15 "ExactMesh$Points" "y" "[I" ∈ ec_tbl := ec_in (List.mem_append_right _ (List.mem_append_left _ (List.mem_of_getElem? (i := 34) rfl))) rfl
theorem wd_35 : Cond.fieldLinkNest "ExactMesh$CarvedMesh" 45 "ExactMesh$Points" "y" "[I" "ExactMesh" ∈ ec_tbl := ec_in (List.mem_append_right _ (List.mem_append_left _ (List.mem_of_getElem? (i := 35) rfl))) rfl
theorem wd_36 : Cond.fieldLinkNest "ExactMesh" 150 "ExactMesh$Points" "y" "[I" "ExactMesh" ∈ ec_tbl := ec_in (List.mem_append_right _ (List.mem_append_left _ (List.mem_of_getElem? (i := 36) rfl))) rfl
theorem wd_37 : Cond.fieldLink "ExactMesh$Points" 18 "ExactMesh$Points" "count" "I" ∈ ec_tbl := ec_in (List.mem_append_right _ (List.mem_append_left _ (List.mem_of_getElem? (i := 37) rfl))) rfl
theorem wd_38 : Cond.fieldLinkNest "ExactMesh" 63 "ExactMesh$Points" "count" "I" "ExactMesh" ∈ ec_tbl := ec_in (List.mem_append_right _ (List.mem_append_left _ (List.mem_of_getElem? (i := 38) rfl))) rfl
theorem wd_39 : Cond.fieldLinkNest "ExactMesh$FullMesh" 45 "ExactMesh$Points" "count" "I" "ExactMesh" ∈ ec_tbl := ec_in (List.mem_append_right _ (List.mem_append_left _ (List.mem_of_getElem? (i := 39) rfl))) rfl
theorem wd_40 : Cond.fieldLinkNest "ExactMesh$CarvedMesh" 75 "ExactMesh$Points" "count" "I" "ExactMesh" ∈ ec_tbl := ec_in (List.mem_append_right _ (List.mem_append_left _ (List.mem_of_getElem? (i := 40) rfl))) rfl
theorem wd_48 : Cond.arrayClass .int ∈ ec_tbl := ec_in (List.mem_append_right _ (List.mem_append_left _ (List.mem_of_getElem? (i := 48) rfl))) rfl
theorem wd_49 : Cond.classLink "ExactMesh$FullMesh" 20 "ExactMesh$Links" ∈ ec_tbl := ec_in (List.mem_append_right _ (List.mem_append_left _ (List.mem_of_getElem? (i := 49) rfl))) rfl
theorem wd_50 : Cond.instantiable "ExactMesh$Links" 4 ∈ ec_tbl := ec_in (List.mem_append_right _ (List.mem_append_left _ (List.mem_of_getElem? (i := 50) rfl))) rfl
theorem wd_51 : Cond.methodLink "ExactMesh$FullMesh" 22 y_L_init ∈ ec_tbl := ec_in (List.mem_append_right _ (List.mem_append_left _ (List.mem_of_getElem? (i := 51) rfl))) rfl
theorem wd_52 : Cond.instanceMethod y_L_init ∈ ec_tbl := ec_in (List.mem_append_right _ (List.mem_append_left _ (List.mem_of_getElem? (i := 52) rfl))) rfl
theorem wd_53 : Cond.code y_L_init b_L_init 2 none ∈ ec_tbl := ec_in (List.mem_append_right _ (List.mem_append_left _ (List.mem_of_getElem? (i := 53) rfl))) rfl
theorem wd_54 : Cond.methodLink "ExactMesh$Links" 3 y_O_init ∈ ec_tbl := ec_in (List.mem_append_right _ (List.mem_append_left _ (List.mem_of_getElem? (i := 54) rfl))) rfl
theorem wd_55 : Cond.fieldLink "ExactMesh$Links" 9 "ExactMesh$Links" "from" "[I" ∈ ec_tbl := ec_in (List.mem_append_right _ (List.mem_append_left _ (List.mem_of_getElem? (i := 55) rfl))) rfl
theorem wd_56 : Cond.fieldLink "ExactMesh$Links" 15 "ExactMesh$Links" "to" "[I" ∈ ec_tbl := ec_in (List.mem_append_right _ (List.mem_append_left _ (List.mem_of_getElem? (i := 56) rfl))) rfl
theorem wd_57 : Cond.fieldLink "ExactMesh$Links" 18 "ExactMesh$Links" "reach" "[I" ∈ ec_tbl := ec_in (List.mem_append_right _ (List.mem_append_left _ (List.mem_of_getElem? (i := 57) rfl))) rfl
theorem wd_58 : Cond.fieldLinkNest "ExactMesh$CarvedMesh" 57 "ExactMesh$Links" "reach" "[I" "ExactMesh" ∈ ec_tbl := ec_in (List.mem_append_right _ (List.mem_append_left _ (List.mem_of_getElem? (i := 58) rfl))) rfl
theorem wd_59 : Cond.fieldLink "ExactMesh$Links" 21 "ExactMesh$Links" "count" "I" ∈ ec_tbl := ec_in (List.mem_append_right _ (List.mem_append_left _ (List.mem_of_getElem? (i := 59) rfl))) rfl
theorem wd_60 : Cond.fieldLinkNest "ExactMesh" 82 "ExactMesh$Links" "count" "I" "ExactMesh" ∈ ec_tbl := ec_in (List.mem_append_right _ (List.mem_append_left _ (List.mem_of_getElem? (i := 60) rfl))) rfl
theorem wd_70 : Cond.fieldLink "ExactMesh$FullMesh" 14 "ExactMesh$FullMesh" "points" "LExactMesh$Points;" ∈ ec_tbl := ec_in (List.mem_append_right _ (List.mem_append_left _ (List.mem_of_getElem? (i := 70) rfl))) rfl
theorem wd_71 : Cond.fieldLinkNest "ExactMesh" 16 "ExactMesh$FullMesh" "points" "LExactMesh$Points;" "ExactMesh" ∈ ec_tbl := ec_in (List.mem_append_right _ (List.mem_append_left _ (List.mem_of_getElem? (i := 71) rfl))) rfl
theorem wd_72 : Cond.fieldLinkNest "ExactMesh$CarvedMesh" 71 "ExactMesh$FullMesh" "points" "LExactMesh$Points;" "ExactMesh" ∈ ec_tbl := ec_in (List.mem_append_right _ (List.mem_append_left _ (List.mem_of_getElem? (i := 72) rfl))) rfl
theorem wd_73 : Cond.fieldLink "ExactMesh$FullMesh" 23 "ExactMesh$FullMesh" "links" "LExactMesh$Links;" ∈ ec_tbl := ec_in (List.mem_append_right _ (List.mem_append_left _ (List.mem_of_getElem? (i := 73) rfl))) rfl
theorem wd_74 : Cond.fieldLinkNest "ExactMesh" 21 "ExactMesh$FullMesh" "links" "LExactMesh$Links;" "ExactMesh" ∈ ec_tbl := ec_in (List.mem_append_right _ (List.mem_append_left _ (List.mem_of_getElem? (i := 74) rfl))) rfl
theorem wd_75 : Cond.fieldLinkNest "ExactMesh$CarvedMesh" 51 "ExactMesh$FullMesh" "links" "LExactMesh$Links;" "ExactMesh" ∈ ec_tbl := ec_in (List.mem_append_right _ (List.mem_append_left _ (List.mem_of_getElem? (i := 75) rfl))) rfl
theorem wd_76 : Cond.fieldLink "ExactMesh$FullMesh" 27 "ExactMesh$FullMesh" "sides" "LExactMesh$Links;" ∈ ec_tbl := ec_in (List.mem_append_right _ (List.mem_append_left _ (List.mem_of_getElem? (i := 76) rfl))) rfl
theorem wd_77 : Cond.fieldLink "ExactMesh$FullMesh" 30 "ExactMesh$FullMesh" "third" "[I" ∈ ec_tbl := ec_in (List.mem_append_right _ (List.mem_append_left _ (List.mem_of_getElem? (i := 77) rfl))) rfl
theorem wd_87 : Cond.classLink "ExactMesh" 26 "ExactMesh$Points" ∈ ec_tbl := ec_in (List.mem_append_right _ (List.mem_append_left _ (List.mem_of_getElem? (i := 87) rfl))) rfl
theorem wd_88 : Cond.methodLink "ExactMesh" 28 y_P_init ∈ ec_tbl := ec_in (List.mem_append_right _ (List.mem_append_left _ (List.mem_of_getElem? (i := 88) rfl))) rfl
theorem wd_89 : Cond.classLink "ExactMesh" 34 "ExactMesh$CarvedMesh" ∈ ec_tbl := ec_in (List.mem_append_right _ (List.mem_append_left _ (List.mem_of_getElem? (i := 89) rfl))) rfl
theorem wd_90 : Cond.instantiable "ExactMesh$CarvedMesh" 5 ∈ ec_tbl := ec_in (List.mem_append_right _ (List.mem_append_left _ (List.mem_of_getElem? (i := 90) rfl))) rfl
theorem wd_91 : Cond.methodLink "ExactMesh" 36 y_M_init ∈ ec_tbl := ec_in (List.mem_append_right _ (List.mem_append_left _ (List.mem_of_getElem? (i := 91) rfl))) rfl
theorem wd_92 : Cond.instanceMethod y_M_init ∈ ec_tbl := ec_in (List.mem_append_right _ (List.mem_append_left _ (List.mem_of_getElem? (i := 92) rfl))) rfl
theorem wd_93 : Cond.code y_M_init b_M_init 1 none ∈ ec_tbl := ec_in (List.mem_append_right _ (List.mem_append_left _ (List.mem_of_getElem? (i := 93) rfl))) rfl
theorem wd_94 : Cond.methodLink "ExactMesh$CarvedMesh" 3 y_O_init ∈ ec_tbl := ec_in (List.mem_append_right _ (List.mem_append_left _ (List.mem_of_getElem? (i := 94) rfl))) rfl
theorem wd_95 : Cond.fieldLink "ExactMesh$CarvedMesh" 9 "ExactMesh$CarvedMesh" "corners" "[I" ∈ ec_tbl := ec_in (List.mem_append_right _ (List.mem_append_left _ (List.mem_of_getElem? (i := 95) rfl))) rfl
theorem wd_96 : Cond.fieldLink "ExactMesh$CarvedMesh" 15 "ExactMesh$CarvedMesh" "marked" "[Z" ∈ ec_tbl := ec_in (List.mem_append_right _ (List.mem_append_left _ (List.mem_of_getElem? (i := 96) rfl))) rfl
theorem wd_97 : Cond.fieldLink "ExactMesh$CarvedMesh" 19 "ExactMesh$CarvedMesh" "owner" "[I" ∈ ec_tbl := ec_in (List.mem_append_right _ (List.mem_append_left _ (List.mem_of_getElem? (i := 97) rfl))) rfl
theorem wd_98 : Cond.fieldLink "ExactMesh$CarvedMesh" 22 "ExactMesh$CarvedMesh" "segmentReach" "[I" ∈ ec_tbl := ec_in (List.mem_append_right _ (List.mem_append_left _ (List.mem_of_getElem? (i := 98) rfl))) rfl
theorem wd_99 : Cond.fieldLink "ExactMesh$CarvedMesh" 25 "ExactMesh$CarvedMesh" "count" "I" ∈ ec_tbl := ec_in (List.mem_append_right _ (List.mem_append_left _ (List.mem_of_getElem? (i := 99) rfl))) rfl
theorem wd_100 : Cond.fieldLinkNest "ExactMesh" 117 "ExactMesh$CarvedMesh" "count" "I" "ExactMesh" ∈ ec_tbl := ec_in (List.mem_append_right _ (List.mem_append_left _ (List.mem_of_getElem? (i := 100) rfl))) rfl
theorem wd_112 : Cond.arrayClass .boolean ∈ ec_tbl := ec_in (List.mem_append_right _ (List.mem_append_left _ (List.mem_of_getElem? (i := 112) rfl))) rfl
theorem wd_113 : Cond.fieldLink "ExactMesh" 12 "ExactMesh" "full" "LExactMesh$FullMesh;" ∈ ec_tbl := ec_in (List.mem_append_right _ (List.mem_append_left _ (List.mem_of_getElem? (i := 113) rfl))) rfl
theorem wd_114 : Cond.fieldLink "ExactMesh" 20 "ExactMesh" "points" "LExactMesh$Points;" ∈ ec_tbl := ec_in (List.mem_append_right _ (List.mem_append_left _ (List.mem_of_getElem? (i := 114) rfl))) rfl
theorem wd_115 : Cond.fieldLink "ExactMesh" 25 "ExactMesh" "links" "LExactMesh$Links;" ∈ ec_tbl := ec_in (List.mem_append_right _ (List.mem_append_left _ (List.mem_of_getElem? (i := 115) rfl))) rfl
theorem wd_116 : Cond.fieldLink "ExactMesh" 31 "ExactMesh" "holePoints" "LExactMesh$Points;" ∈ ec_tbl := ec_in (List.mem_append_right _ (List.mem_append_left _ (List.mem_of_getElem? (i := 116) rfl))) rfl
theorem wd_117 : Cond.fieldLink "ExactMesh" 37 "ExactMesh" "mesh" "LExactMesh$CarvedMesh;" ∈ ec_tbl := ec_in (List.mem_append_right _ (List.mem_append_left _ (List.mem_of_getElem? (i := 117) rfl))) rfl
theorem wd_129 : Cond.methodLink "ExactMeshLaw" 13 y_X_vertex ∈ ec_tbl := ec_in (List.mem_append_right _ (List.mem_append_left _ (List.mem_of_getElem? (i := 129) rfl))) rfl
theorem wd_130 : Cond.instanceMethod y_X_vertex ∈ ec_tbl := ec_in (List.mem_append_right _ (List.mem_append_left _ (List.mem_of_getElem? (i := 130) rfl))) rfl
theorem wd_131 : Cond.selects "ExactMesh" y_X_vertex y_X_vertex ∈ ec_tbl := ec_in (List.mem_append_right _ (List.mem_append_left _ (List.mem_of_getElem? (i := 131) rfl))) rfl
theorem wd_132 : Cond.code y_X_vertex b_X_vertex 4 (some .int) ∈ ec_tbl := ec_in (List.mem_append_right _ (List.mem_append_left _ (List.mem_of_getElem? (i := 132) rfl))) rfl
theorem wd_133 : Cond.methodLink "ExactMesh" 41 y_X_isNear ∈ ec_tbl := ec_in (List.mem_append_right _ (List.mem_append_left _ (List.mem_of_getElem? (i := 133) rfl))) rfl
theorem wd_134 : Cond.static y_X_isNear ∈ ec_tbl := ec_in (List.mem_append_right _ (List.mem_append_left _ (List.mem_of_getElem? (i := 134) rfl))) rfl
theorem wd_135 : Cond.code y_X_isNear b_X_isNear 2 (some .boolean) ∈ ec_tbl := ec_in (List.mem_append_right _ (List.mem_append_left _ (List.mem_of_getElem? (i := 135) rfl))) rfl
theorem wd_136 : Cond.constant "ExactMesh" 153 (-1000000) ∈ ec_tbl := ec_in (List.mem_append_right _ (List.mem_append_left _ (List.mem_of_getElem? (i := 136) rfl))) rfl
theorem wd_137 : Cond.constant "ExactMesh" 154 1000000 ∈ ec_tbl := ec_in (List.mem_append_right _ (List.mem_append_left _ (List.mem_of_getElem? (i := 137) rfl))) rfl
theorem wd_138 : Cond.methodLink "ExactMesh" 45 y_P_numberAt ∈ ec_tbl := ec_in (List.mem_append_right _ (List.mem_append_left _ (List.mem_of_getElem? (i := 138) rfl))) rfl
theorem wd_139 : Cond.instanceMethod y_P_numberAt ∈ ec_tbl := ec_in (List.mem_append_right _ (List.mem_append_left _ (List.mem_of_getElem? (i := 139) rfl))) rfl
theorem wd_140 : Cond.selects "ExactMesh$Points" y_P_numberAt y_P_numberAt ∈ ec_tbl := ec_in (List.mem_append_right _ (List.mem_append_left _ (List.mem_of_getElem? (i := 140) rfl))) rfl
theorem wd_141 : Cond.code y_P_numberAt b_P_numberAt 4 (some .int) ∈ ec_tbl := ec_in (List.mem_append_right _ (List.mem_append_left _ (List.mem_of_getElem? (i := 141) rfl))) rfl
theorem wd_142 : Cond.methodLink "ExactMesh" 49 y_P_isFull ∈ ec_tbl := ec_in (List.mem_append_right _ (List.mem_append_left _ (List.mem_of_getElem? (i := 142) rfl))) rfl
theorem wd_143 : Cond.instanceMethod y_P_isFull ∈ ec_tbl := ec_in (List.mem_append_right _ (List.mem_append_left _ (List.mem_of_getElem? (i := 143) rfl))) rfl
theorem wd_144 : Cond.selects "ExactMesh$Points" y_P_isFull y_P_isFull ∈ ec_tbl := ec_in (List.mem_append_right _ (List.mem_append_left _ (List.mem_of_getElem? (i := 144) rfl))) rfl
theorem wd_145 : Cond.code y_P_isFull b_P_isFull 1 (some .boolean) ∈ ec_tbl := ec_in (List.mem_append_right _ (List.mem_append_left _ (List.mem_of_getElem? (i := 145) rfl))) rfl
theorem wd_146 : Cond.methodLink "ExactMesh" 53 y_L_anyThrough ∈ ec_tbl := ec_in (List.mem_append_right _ (List.mem_append_left _ (List.mem_of_getElem? (i := 146) rfl))) rfl
theorem wd_147 : Cond.instanceMethod y_L_anyThrough ∈ ec_tbl := ec_in (List.mem_append_right _ (List.mem_append_left _ (List.mem_of_getElem? (i := 147) rfl))) rfl
theorem wd_148 : Cond.selects "ExactMesh$Links" y_L_anyThrough y_L_anyThrough ∈ ec_tbl := ec_in (List.mem_append_right _ (List.mem_append_left _ (List.mem_of_getElem? (i := 148) rfl))) rfl
theorem wd_149 : Cond.code y_L_anyThrough b_L_anyThrough 5 (some .boolean) ∈ ec_tbl := ec_in (List.mem_append_right _ (List.mem_append_left _ (List.mem_of_getElem? (i := 149) rfl))) rfl
theorem wd_150 : Cond.methodLink "ExactMesh$Links" 39 y_P_isBetween ∈ ec_tbl := ec_in (List.mem_append_right _ (List.mem_append_left _ (List.mem_of_getElem? (i := 150) rfl))) rfl
theorem wd_151 : Cond.instanceMethod y_P_isBetween ∈ ec_tbl := ec_in (List.mem_append_right _ (List.mem_append_left _ (List.mem_of_getElem? (i := 151) rfl))) rfl
theorem wd_152 : Cond.selects "ExactMesh$Points" y_P_isBetween y_P_isBetween ∈ ec_tbl := ec_in (List.mem_append_right _ (List.mem_append_left _ (List.mem_of_getElem? (i := 152) rfl))) rfl
theorem wd_153 : Cond.code y_P_isBetween b_P_isBetween 5 (some .boolean) ∈ ec_tbl := ec_in (List.mem_append_right _ (List.mem_append_left _ (List.mem_of_getElem? (i := 153) rfl))) rfl
theorem wd_154 : Cond.methodLink "ExactMesh$Points" 44 y_JM_min ∈ ec_tbl := ec_in (List.mem_append_right _ (List.mem_append_left _ (List.mem_of_getElem? (i := 154) rfl))) rfl
theorem wd_155 : Cond.static y_JM_min ∈ ec_tbl := ec_in (List.mem_append_right _ (List.mem_append_left _ (List.mem_of_getElem? (i := 155) rfl))) rfl
theorem wd_156 : Cond.code y_JM_min b_JM_min 2 (some .int) ∈ ec_tbl := ec_in (List.mem_append_right _ (List.mem_append_left _ (List.mem_of_getElem? (i := 156) rfl))) rfl
theorem wd_157 : Cond.methodLink "ExactMesh$Points" 50 y_JM_max ∈ ec_tbl := ec_in (List.mem_append_right _ (List.mem_append_left _ (List.mem_of_getElem? (i := 157) rfl))) rfl
theorem wd_158 : Cond.static y_JM_max ∈ ec_tbl := ec_in (List.mem_append_right _ (List.mem_append_left _ (List.mem_of_getElem? (i := 158) rfl))) rfl
theorem wd_159 : Cond.code y_JM_max b_JM_max 2 (some .int) ∈ ec_tbl := ec_in (List.mem_append_right _ (List.mem_append_left _ (List.mem_of_getElem? (i := 159) rfl))) rfl
theorem wd_160 : Cond.methodLink "ExactMesh$Points" 26 y_P_leftness ∈ ec_tbl := ec_in (List.mem_append_right _ (List.mem_append_left _ (List.mem_of_getElem? (i := 160) rfl))) rfl
theorem wd_161 : Cond.instanceMethod y_P_leftness ∈ ec_tbl := ec_in (List.mem_append_right _ (List.mem_append_left _ (List.mem_of_getElem? (i := 161) rfl))) rfl
theorem wd_162 : Cond.selects "ExactMesh$Points" y_P_leftness y_P_leftness ∈ ec_tbl := ec_in (List.mem_append_right _ (List.mem_append_left _ (List.mem_of_getElem? (i := 162) rfl))) rfl
theorem wd_163 : Cond.code y_P_leftness b_P_leftness 9 (some .long) ∈ ec_tbl := ec_in (List.mem_append_right _ (List.mem_append_left _ (List.mem_of_getElem? (i := 163) rfl))) rfl
theorem wd_164 : Cond.methodLink "ExactMesh" 59 y_P_add ∈ ec_tbl := ec_in (List.mem_append_right _ (List.mem_append_left _ (List.mem_of_getElem? (i := 164) rfl))) rfl
theorem wd_165 : Cond.instanceMethod y_P_add ∈ ec_tbl := ec_in (List.mem_append_right _ (List.mem_append_left _ (List.mem_of_getElem? (i := 165) rfl))) rfl
theorem wd_166 : Cond.selects "ExactMesh$Points" y_P_add y_P_add ∈ ec_tbl := ec_in (List.mem_append_right _ (List.mem_append_left _ (List.mem_of_getElem? (i := 166) rfl))) rfl
theorem wd_167 : Cond.code y_P_add b_P_add 3 none ∈ ec_tbl := ec_in (List.mem_append_right _ (List.mem_append_left _ (List.mem_of_getElem? (i := 167) rfl))) rfl
theorem wd_168 : Cond.methodLink "ExactMesh$Points" 22 y_P_isFull ∈ ec_tbl := ec_in (List.mem_append_right _ (List.mem_append_left _ (List.mem_of_getElem? (i := 168) rfl))) rfl
theorem wd_169 : Cond.methodLink "ExactMeshLaw" 18 y_X_segment ∈ ec_tbl := ec_in (List.mem_append_right _ (List.mem_append_left _ (List.mem_of_getElem? (i := 169) rfl))) rfl
theorem wd_170 : Cond.instanceMethod y_X_segment ∈ ec_tbl := ec_in (List.mem_append_right _ (List.mem_append_left _ (List.mem_of_getElem? (i := 170) rfl))) rfl
theorem wd_171 : Cond.selects "ExactMesh" y_X_segment y_X_segment ∈ ec_tbl := ec_in (List.mem_append_right _ (List.mem_append_left _ (List.mem_of_getElem? (i := 171) rfl))) rfl
theorem wd_172 : Cond.code y_X_segment b_X_segment 3 (some .int) ∈ ec_tbl := ec_in (List.mem_append_right _ (List.mem_append_left _ (List.mem_of_getElem? (i := 172) rfl))) rfl
theorem wd_173 : Cond.methodLink "ExactMesh" 67 y_P_has ∈ ec_tbl := ec_in (List.mem_append_right _ (List.mem_append_left _ (List.mem_of_getElem? (i := 173) rfl))) rfl
theorem wd_174 : Cond.instanceMethod y_P_has ∈ ec_tbl := ec_in (List.mem_append_right _ (List.mem_append_left _ (List.mem_of_getElem? (i := 174) rfl))) rfl
theorem wd_175 : Cond.selects "ExactMesh$Points" y_P_has y_P_has ∈ ec_tbl := ec_in (List.mem_append_right _ (List.mem_append_left _ (List.mem_of_getElem? (i := 175) rfl))) rfl
theorem wd_176 : Cond.code y_P_has b_P_has 2 (some .boolean) ∈ ec_tbl := ec_in (List.mem_append_right _ (List.mem_append_left _ (List.mem_of_getElem? (i := 176) rfl))) rfl
theorem wd_177 : Cond.methodLink "ExactMesh" 71 y_L_join ∈ ec_tbl := ec_in (List.mem_append_right _ (List.mem_append_left _ (List.mem_of_getElem? (i := 177) rfl))) rfl
theorem wd_178 : Cond.instanceMethod y_L_join ∈ ec_tbl := ec_in (List.mem_append_right _ (List.mem_append_left _ (List.mem_of_getElem? (i := 178) rfl))) rfl
theorem wd_179 : Cond.selects "ExactMesh$Links" y_L_join y_L_join ∈ ec_tbl := ec_in (List.mem_append_right _ (List.mem_append_left _ (List.mem_of_getElem? (i := 179) rfl))) rfl
theorem wd_180 : Cond.code y_L_join b_L_join 3 (some .boolean) ∈ ec_tbl := ec_in (List.mem_append_right _ (List.mem_append_left _ (List.mem_of_getElem? (i := 180) rfl))) rfl
theorem wd_181 : Cond.methodLink "ExactMesh" 74 y_L_isFull ∈ ec_tbl := ec_in (List.mem_append_right _ (List.mem_append_left _ (List.mem_of_getElem? (i := 181) rfl))) rfl
theorem wd_182 : Cond.instanceMethod y_L_isFull ∈ ec_tbl := ec_in (List.mem_append_right _ (List.mem_append_left _ (List.mem_of_getElem? (i := 182) rfl))) rfl
theorem wd_183 : Cond.selects "ExactMesh$Links" y_L_isFull y_L_isFull ∈ ec_tbl := ec_in (List.mem_append_right _ (List.mem_append_left _ (List.mem_of_getElem? (i := 183) rfl))) rfl
theorem wd_184 : Cond.code y_L_isFull b_L_isFull 1 (some .boolean) ∈ ec_tbl := ec_in (List.mem_append_right _ (List.mem_append_left _ (List.mem_of_getElem? (i := 184) rfl))) rfl
theorem wd_185 : Cond.methodLink "ExactMesh" 75 y_P_anyBetween ∈ ec_tbl := ec_in (List.mem_append_right _ (List.mem_append_left _ (List.mem_of_getElem? (i := 185) rfl))) rfl
theorem wd_186 : Cond.instanceMethod y_P_anyBetween ∈ ec_tbl := ec_in (List.mem_append_right _ (List.mem_append_left _ (List.mem_of_getElem? (i := 186) rfl))) rfl
theorem wd_187 : Cond.selects "ExactMesh$Points" y_P_anyBetween y_P_anyBetween ∈ ec_tbl := ec_in (List.mem_append_right _ (List.mem_append_left _ (List.mem_of_getElem? (i := 187) rfl))) rfl
theorem wd_188 : Cond.code y_P_anyBetween b_P_anyBetween 4 (some .boolean) ∈ ec_tbl := ec_in (List.mem_append_right _ (List.mem_append_left _ (List.mem_of_getElem? (i := 188) rfl))) rfl
theorem wd_189 : Cond.methodLink "ExactMesh$Points" 53 y_P_isBetween ∈ ec_tbl := ec_in (List.mem_append_right _ (List.mem_append_left _ (List.mem_of_getElem? (i := 189) rfl))) rfl
theorem wd_190 : Cond.methodLink "ExactMesh" 78 y_L_anyCrossing ∈ ec_tbl := ec_in (List.mem_append_right _ (List.mem_append_left _ (List.mem_of_getElem? (i := 190) rfl))) rfl
theorem wd_191 : Cond.instanceMethod y_L_anyCrossing ∈ ec_tbl := ec_in (List.mem_append_right _ (List.mem_append_left _ (List.mem_of_getElem? (i := 191) rfl))) rfl
theorem wd_192 : Cond.selects "ExactMesh$Links" y_L_anyCrossing y_L_anyCrossing ∈ ec_tbl := ec_in (List.mem_append_right _ (List.mem_append_left _ (List.mem_of_getElem? (i := 192) rfl))) rfl
theorem wd_193 : Cond.code y_L_anyCrossing b_L_anyCrossing 5 (some .boolean) ∈ ec_tbl := ec_in (List.mem_append_right _ (List.mem_append_left _ (List.mem_of_getElem? (i := 193) rfl))) rfl
theorem wd_194 : Cond.methodLink "ExactMesh$Links" 45 y_P_areCrossing ∈ ec_tbl := ec_in (List.mem_append_right _ (List.mem_append_left _ (List.mem_of_getElem? (i := 194) rfl))) rfl
theorem wd_195 : Cond.instanceMethod y_P_areCrossing ∈ ec_tbl := ec_in (List.mem_append_right _ (List.mem_append_left _ (List.mem_of_getElem? (i := 195) rfl))) rfl
theorem wd_196 : Cond.selects "ExactMesh$Points" y_P_areCrossing y_P_areCrossing ∈ ec_tbl := ec_in (List.mem_append_right _ (List.mem_append_left _ (List.mem_of_getElem? (i := 196) rfl))) rfl
theorem wd_197 : Cond.code y_P_areCrossing b_P_areCrossing 5 (some .boolean) ∈ ec_tbl := ec_in (List.mem_append_right _ (List.mem_append_left _ (List.mem_of_getElem? (i := 197) rfl))) rfl
theorem wd_198 : Cond.methodLink "ExactMesh$Points" 57 y_P_sideOfLine ∈ ec_tbl := ec_in (List.mem_append_right _ (List.mem_append_left _ (List.mem_of_getElem? (i := 198) rfl))) rfl
theorem wd_199 : Cond.instanceMethod y_P_sideOfLine ∈ ec_tbl := ec_in (List.mem_append_right _ (List.mem_append_left _ (List.mem_of_getElem? (i := 199) rfl))) rfl
theorem wd_200 : Cond.selects "ExactMesh$Points" y_P_sideOfLine y_P_sideOfLine ∈ ec_tbl := ec_in (List.mem_append_right _ (List.mem_append_left _ (List.mem_of_getElem? (i := 200) rfl))) rfl
theorem wd_201 : Cond.code y_P_sideOfLine b_P_sideOfLine 4 (some .int) ∈ ec_tbl := ec_in (List.mem_append_right _ (List.mem_append_left _ (List.mem_of_getElem? (i := 201) rfl))) rfl
theorem wd_202 : Cond.methodLink "ExactMesh$Points" 30 y_E_signOf ∈ ec_tbl := ec_in (List.mem_append_right _ (List.mem_append_left _ (List.mem_of_getElem? (i := 202) rfl))) rfl
theorem wd_203 : Cond.static y_E_signOf ∈ ec_tbl := ec_in (List.mem_append_right _ (List.mem_append_left _ (List.mem_of_getElem? (i := 203) rfl))) rfl
theorem wd_204 : Cond.code y_E_signOf b_E_signOf 2 (some .int) ∈ ec_tbl := ec_in (List.mem_append_right _ (List.mem_append_left _ (List.mem_of_getElem? (i := 204) rfl))) rfl
theorem wd_205 : Cond.methodLink "ExactMesh" 81 y_L_add ∈ ec_tbl := ec_in (List.mem_append_right _ (List.mem_append_left _ (List.mem_of_getElem? (i := 205) rfl))) rfl
theorem wd_206 : Cond.instanceMethod y_L_add ∈ ec_tbl := ec_in (List.mem_append_right _ (List.mem_append_left _ (List.mem_of_getElem? (i := 206) rfl))) rfl
theorem wd_207 : Cond.selects "ExactMesh$Links" y_L_add y_L_add ∈ ec_tbl := ec_in (List.mem_append_right _ (List.mem_append_left _ (List.mem_of_getElem? (i := 207) rfl))) rfl
theorem wd_208 : Cond.code y_L_add b_L_add 3 none ∈ ec_tbl := ec_in (List.mem_append_right _ (List.mem_append_left _ (List.mem_of_getElem? (i := 208) rfl))) rfl
theorem wd_209 : Cond.methodLink "ExactMesh$Links" 31 y_L_isFull ∈ ec_tbl := ec_in (List.mem_append_right _ (List.mem_append_left _ (List.mem_of_getElem? (i := 209) rfl))) rfl
theorem wd_210 : Cond.methodLink "ExactMeshLaw" 22 y_X_hole ∈ ec_tbl := ec_in (List.mem_append_right _ (List.mem_append_left _ (List.mem_of_getElem? (i := 210) rfl))) rfl
theorem wd_211 : Cond.instanceMethod y_X_hole ∈ ec_tbl := ec_in (List.mem_append_right _ (List.mem_append_left _ (List.mem_of_getElem? (i := 211) rfl))) rfl
theorem wd_212 : Cond.selects "ExactMesh" y_X_hole y_X_hole ∈ ec_tbl := ec_in (List.mem_append_right _ (List.mem_append_left _ (List.mem_of_getElem? (i := 212) rfl))) rfl
theorem wd_213 : Cond.code y_X_hole b_X_hole 3 (some .int) ∈ ec_tbl := ec_in (List.mem_append_right _ (List.mem_append_left _ (List.mem_of_getElem? (i := 213) rfl))) rfl
theorem wd_214 : Cond.methodLink "ExactMeshLaw" 26 y_X_turn ∈ ec_tbl := ec_in (List.mem_append_right _ (List.mem_append_left _ (List.mem_of_getElem? (i := 214) rfl))) rfl
theorem wd_215 : Cond.instanceMethod y_X_turn ∈ ec_tbl := ec_in (List.mem_append_right _ (List.mem_append_left _ (List.mem_of_getElem? (i := 215) rfl))) rfl
theorem wd_216 : Cond.selects "ExactMesh" y_X_turn y_X_turn ∈ ec_tbl := ec_in (List.mem_append_right _ (List.mem_append_left _ (List.mem_of_getElem? (i := 216) rfl))) rfl
theorem wd_217 : Cond.code y_X_turn b_X_turn 4 (some .int) ∈ ec_tbl := ec_in (List.mem_append_right _ (List.mem_append_left _ (List.mem_of_getElem? (i := 217) rfl))) rfl
theorem wd_218 : Cond.methodLink "ExactMesh" 83 y_P_sideOfLine ∈ ec_tbl := ec_in (List.mem_append_right _ (List.mem_append_left _ (List.mem_of_getElem? (i := 218) rfl))) rfl
theorem wd_219 : Cond.methodLink "ExactMeshLaw" 31 y_X_inCircle ∈ ec_tbl := ec_in (List.mem_append_right _ (List.mem_append_left _ (List.mem_of_getElem? (i := 219) rfl))) rfl
theorem wd_220 : Cond.instanceMethod y_X_inCircle ∈ ec_tbl := ec_in (List.mem_append_right _ (List.mem_append_left _ (List.mem_of_getElem? (i := 220) rfl))) rfl
theorem wd_221 : Cond.selects "ExactMesh" y_X_inCircle y_X_inCircle ∈ ec_tbl := ec_in (List.mem_append_right _ (List.mem_append_left _ (List.mem_of_getElem? (i := 221) rfl))) rfl
theorem wd_222 : Cond.code y_X_inCircle b_X_inCircle 6 (some .int) ∈ ec_tbl := ec_in (List.mem_append_right _ (List.mem_append_left _ (List.mem_of_getElem? (i := 222) rfl))) rfl
theorem wd_223 : Cond.methodLink "ExactMesh" 87 y_P_sideOfCircle ∈ ec_tbl := ec_in (List.mem_append_right _ (List.mem_append_left _ (List.mem_of_getElem? (i := 223) rfl))) rfl
theorem wd_224 : Cond.instanceMethod y_P_sideOfCircle ∈ ec_tbl := ec_in (List.mem_append_right _ (List.mem_append_left _ (List.mem_of_getElem? (i := 224) rfl))) rfl
theorem wd_225 : Cond.selects "ExactMesh$Points" y_P_sideOfCircle y_P_sideOfCircle ∈ ec_tbl := ec_in (List.mem_append_right _ (List.mem_append_left _ (List.mem_of_getElem? (i := 225) rfl))) rfl
theorem wd_226 : Cond.code y_P_sideOfCircle b_P_sideOfCircle 5 (some .int) ∈ ec_tbl := ec_in (List.mem_append_right _ (List.mem_append_left _ (List.mem_of_getElem? (i := 226) rfl))) rfl
theorem wd_227 : Cond.methodLink "ExactMesh$Points" 36 y_P_squareDistance ∈ ec_tbl := ec_in (List.mem_append_right _ (List.mem_append_left _ (List.mem_of_getElem? (i := 227) rfl))) rfl
theorem wd_229 : Cond.instanceMethod y_P_squareDistance ∈ ec_tbl := ec_in (List.mem_append_right _ (List.mem_append_left _ (List.mem_of_getElem? (i := 229) rfl))) rfl
theorem wd_230 : Cond.code y_P_squareDistance b_P_squareDistance 7 (some .long) ∈ ec_tbl := ec_in (List.mem_append_right _ (List.mem_append_left _ (List.mem_of_getElem? (i := 230) rfl))) rfl
theorem wd_231 : Cond.methodLink "ExactMesh$Points" 40 y_E_signOfProducts ∈ ec_tbl := ec_in (List.mem_append_right _ (List.mem_append_left _ (List.mem_of_getElem? (i := 231) rfl))) rfl
theorem wd_232 : Cond.static y_E_signOfProducts ∈ ec_tbl := ec_in (List.mem_append_right _ (List.mem_append_left _ (List.mem_of_getElem? (i := 232) rfl))) rfl
theorem wd_233 : Cond.code y_E_signOfProducts b_E_signOfProducts 18 (some .int) ∈ ec_tbl := ec_in (List.mem_append_right _ (List.mem_append_left _ (List.mem_of_getElem? (i := 233) rfl))) rfl
theorem wd_234 : Cond.methodLink "ExactMesh$Exact" 9 y_E_upper ∈ ec_tbl := ec_in (List.mem_append_right _ (List.mem_append_left _ (List.mem_of_getElem? (i := 234) rfl))) rfl
theorem wd_235 : Cond.static y_E_upper ∈ ec_tbl := ec_in (List.mem_append_right _ (List.mem_append_left _ (List.mem_of_getElem? (i := 235) rfl))) rfl
theorem wd_236 : Cond.code y_E_upper b_E_upper 2 (some .long) ∈ ec_tbl := ec_in (List.mem_append_right _ (List.mem_append_left _ (List.mem_of_getElem? (i := 236) rfl))) rfl
theorem wd_237 : Cond.methodLink "ExactMesh$Exact" 13 y_E_mixed ∈ ec_tbl := ec_in (List.mem_append_right _ (List.mem_append_left _ (List.mem_of_getElem? (i := 237) rfl))) rfl
theorem wd_238 : Cond.static y_E_mixed ∈ ec_tbl := ec_in (List.mem_append_right _ (List.mem_append_left _ (List.mem_of_getElem? (i := 238) rfl))) rfl
theorem wd_239 : Cond.code y_E_mixed b_E_mixed 4 (some .long) ∈ ec_tbl := ec_in (List.mem_append_right _ (List.mem_append_left _ (List.mem_of_getElem? (i := 239) rfl))) rfl
theorem wd_240 : Cond.constantLong "ExactMesh$Exact" 24 4194303 ∈ ec_tbl := ec_in (List.mem_append_right _ (List.mem_append_right _ (List.mem_append_left _ (List.mem_of_getElem? (i := 0) rfl)))) rfl
theorem wd_241 : Cond.methodLink "ExactMesh$Exact" 17 y_E_lower ∈ ec_tbl := ec_in (List.mem_append_right _ (List.mem_append_right _ (List.mem_append_left _ (List.mem_of_getElem? (i := 1) rfl)))) rfl
theorem wd_242 : Cond.static y_E_lower ∈ ec_tbl := ec_in (List.mem_append_right _ (List.mem_append_right _ (List.mem_append_left _ (List.mem_of_getElem? (i := 2) rfl)))) rfl
theorem wd_243 : Cond.code y_E_lower b_E_lower 2 (some .long) ∈ ec_tbl := ec_in (List.mem_append_right _ (List.mem_append_right _ (List.mem_append_left _ (List.mem_of_getElem? (i := 3) rfl)))) rfl
theorem wd_244 : Cond.methodLink "ExactMesh$Exact" 20 y_E_signOf ∈ ec_tbl := ec_in (List.mem_append_right _ (List.mem_append_right _ (List.mem_append_left _ (List.mem_of_getElem? (i := 4) rfl)))) rfl
theorem wd_245 : Cond.methodLink "ExactMeshLaw" 36 y_X_build ∈ ec_tbl := ec_in (List.mem_append_right _ (List.mem_append_right _ (List.mem_append_left _ (List.mem_of_getElem? (i := 5) rfl)))) rfl
theorem wd_246 : Cond.instanceMethod y_X_build ∈ ec_tbl := ec_in (List.mem_append_right _ (List.mem_append_right _ (List.mem_append_left _ (List.mem_of_getElem? (i := 6) rfl)))) rfl
theorem wd_247 : Cond.selects "ExactMesh" y_X_build y_X_build ∈ ec_tbl := ec_in (List.mem_append_right _ (List.mem_append_right _ (List.mem_append_left _ (List.mem_of_getElem? (i := 7) rfl)))) rfl
theorem wd_248 : Cond.code y_X_build b_X_build 3 (some .int) ∈ ec_tbl := ec_in (List.mem_append_right _ (List.mem_append_right _ (List.mem_append_left _ (List.mem_of_getElem? (i := 8) rfl)))) rfl
theorem wd_249 : Cond.methodLink "ExactMesh" 91 y_F_drawSides ∈ ec_tbl := ec_in (List.mem_append_right _ (List.mem_append_right _ (List.mem_append_left _ (List.mem_of_getElem? (i := 9) rfl)))) rfl
theorem wd_250 : Cond.instanceMethod y_F_drawSides ∈ ec_tbl := ec_in (List.mem_append_right _ (List.mem_append_right _ (List.mem_append_left _ (List.mem_of_getElem? (i := 10) rfl)))) rfl
theorem wd_251 : Cond.selects "ExactMesh$FullMesh" y_F_drawSides y_F_drawSides ∈ ec_tbl := ec_in (List.mem_append_right _ (List.mem_append_right _ (List.mem_append_left _ (List.mem_of_getElem? (i := 11) rfl)))) rfl
theorem wd_252 : Cond.code y_F_drawSides b_F_drawSides 3 none ∈ ec_tbl := ec_in (List.mem_append_right _ (List.mem_append_right _ (List.mem_append_left _ (List.mem_of_getElem? (i := 12) rfl)))) rfl
theorem wd_253 : Cond.methodLink "ExactMesh$FullMesh" 38 y_L_clear ∈ ec_tbl := ec_in (List.mem_append_right _ (List.mem_append_right _ (List.mem_append_left _ (List.mem_of_getElem? (i := 13) rfl)))) rfl
theorem wd_254 : Cond.instanceMethod y_L_clear ∈ ec_tbl := ec_in (List.mem_append_right _ (List.mem_append_right _ (List.mem_append_left _ (List.mem_of_getElem? (i := 14) rfl)))) rfl
theorem wd_255 : Cond.selects "ExactMesh$Links" y_L_clear y_L_clear ∈ ec_tbl := ec_in (List.mem_append_right _ (List.mem_append_right _ (List.mem_append_left _ (List.mem_of_getElem? (i := 15) rfl)))) rfl
theorem wd_256 : Cond.code y_L_clear b_L_clear 1 none ∈ ec_tbl := ec_in (List.mem_append_right _ (List.mem_append_right _ (List.mem_append_left _ (List.mem_of_getElem? (i := 16) rfl)))) rfl
theorem wd_257 : Cond.methodLink "ExactMesh$Links" 25 y_JA_fill ∈ ec_tbl := ec_in (List.mem_append_right _ (List.mem_append_right _ (List.mem_append_left _ (List.mem_of_getElem? (i := 17) rfl)))) rfl
theorem wd_258 : Cond.static y_JA_fill ∈ ec_tbl := ec_in (List.mem_append_right _ (List.mem_append_right _ (List.mem_append_left _ (List.mem_of_getElem? (i := 18) rfl)))) rfl
theorem wd_259 : Cond.code y_JA_fill b_JA_fill 4 none ∈ ec_tbl := ec_in (List.mem_append_right _ (List.mem_append_right _ (List.mem_append_left _ (List.mem_of_getElem? (i := 19) rfl)))) rfl
theorem wd_260 : Cond.methodLink "ExactMesh$FullMesh" 41 y_L_addAll ∈ ec_tbl := ec_in (List.mem_append_right _ (List.mem_append_right _ (List.mem_append_left _ (List.mem_of_getElem? (i := 20) rfl)))) rfl
theorem wd_261 : Cond.instanceMethod y_L_addAll ∈ ec_tbl := ec_in (List.mem_append_right _ (List.mem_append_right _ (List.mem_append_left _ (List.mem_of_getElem? (i := 21) rfl)))) rfl
theorem wd_262 : Cond.selects "ExactMesh$Links" y_L_addAll y_L_addAll ∈ ec_tbl := ec_in (List.mem_append_right _ (List.mem_append_right _ (List.mem_append_left _ (List.mem_of_getElem? (i := 22) rfl)))) rfl
theorem wd_263 : Cond.code y_L_addAll b_L_addAll 3 none ∈ ec_tbl := ec_in (List.mem_append_right _ (List.mem_append_right _ (List.mem_append_left _ (List.mem_of_getElem? (i := 23) rfl)))) rfl
theorem wd_264 : Cond.methodLink "ExactMesh$Links" 35 y_L_add ∈ ec_tbl := ec_in (List.mem_append_right _ (List.mem_append_right _ (List.mem_append_left _ (List.mem_of_getElem? (i := 24) rfl)))) rfl
theorem wd_265 : Cond.methodLink "ExactMesh$FullMesh" 49 y_F_hasRoom ∈ ec_tbl := ec_in (List.mem_append_right _ (List.mem_append_right _ (List.mem_append_left _ (List.mem_of_getElem? (i := 25) rfl)))) rfl
theorem wd_267 : Cond.instanceMethod y_F_hasRoom ∈ ec_tbl := ec_in (List.mem_append_right _ (List.mem_append_right _ (List.mem_append_left _ (List.mem_of_getElem? (i := 27) rfl)))) rfl
theorem wd_268 : Cond.code y_F_hasRoom b_F_hasRoom 3 (some .boolean) ∈ ec_tbl := ec_in (List.mem_append_right _ (List.mem_append_right _ (List.mem_append_left _ (List.mem_of_getElem? (i := 28) rfl)))) rfl
theorem wd_269 : Cond.methodLink "ExactMesh$FullMesh" 57 y_L_join ∈ ec_tbl := ec_in (List.mem_append_right _ (List.mem_append_right _ (List.mem_append_left _ (List.mem_of_getElem? (i := 29) rfl)))) rfl
theorem wd_270 : Cond.methodLink "ExactMesh$FullMesh" 60 y_P_anyBetween ∈ ec_tbl := ec_in (List.mem_append_right _ (List.mem_append_right _ (List.mem_append_left _ (List.mem_of_getElem? (i := 30) rfl)))) rfl
theorem wd_271 : Cond.methodLink "ExactMesh$FullMesh" 63 y_L_anyCrossing ∈ ec_tbl := ec_in (List.mem_append_right _ (List.mem_append_right _ (List.mem_append_left _ (List.mem_of_getElem? (i := 31) rfl)))) rfl
theorem wd_272 : Cond.methodLink "ExactMesh$FullMesh" 53 y_L_add ∈ ec_tbl := ec_in (List.mem_append_right _ (List.mem_append_right _ (List.mem_append_left _ (List.mem_of_getElem? (i := 32) rfl)))) rfl
theorem wd_273 : Cond.methodLink "ExactMesh" 94 y_F_findTriangles ∈ ec_tbl := ec_in (List.mem_append_right _ (List.mem_append_right _ (List.mem_append_left _ (List.mem_of_getElem? (i := 33) rfl)))) rfl
theorem wd_274 : Cond.instanceMethod y_F_findTriangles ∈ ec_tbl := ec_in (List.mem_append_right _ (List.mem_append_right _ (List.mem_append_left _ (List.mem_of_getElem? (i := 34) rfl)))) rfl
theorem wd_275 : Cond.selects "ExactMesh$FullMesh" y_F_findTriangles y_F_findTriangles ∈ ec_tbl := ec_in (List.mem_append_right _ (List.mem_append_right _ (List.mem_append_left _ (List.mem_of_getElem? (i := 35) rfl)))) rfl
theorem wd_276 : Cond.code y_F_findTriangles b_F_findTriangles 3 none ∈ ec_tbl := ec_in (List.mem_append_right _ (List.mem_append_right _ (List.mem_append_left _ (List.mem_of_getElem? (i := 36) rfl)))) rfl
theorem wd_277 : Cond.methodLink "ExactMesh$FullMesh" 67 y_JA_fill ∈ ec_tbl := ec_in (List.mem_append_right _ (List.mem_append_right _ (List.mem_append_left _ (List.mem_of_getElem? (i := 37) rfl)))) rfl
theorem wd_278 : Cond.methodLink "ExactMesh$FullMesh" 73 y_F_findTrianglesAt ∈ ec_tbl := ec_in (List.mem_append_right _ (List.mem_append_right _ (List.mem_append_left _ (List.mem_of_getElem? (i := 38) rfl)))) rfl
theorem wd_280 : Cond.instanceMethod y_F_findTrianglesAt ∈ ec_tbl := ec_in (List.mem_append_right _ (List.mem_append_right _ (List.mem_append_left _ (List.mem_of_getElem? (i := 40) rfl)))) rfl
theorem wd_281 : Cond.code y_F_findTrianglesAt b_F_findTrianglesAt 4 none ∈ ec_tbl := ec_in (List.mem_append_right _ (List.mem_append_right _ (List.mem_append_left _ (List.mem_of_getElem? (i := 41) rfl)))) rfl
theorem wd_282 : Cond.methodLink "ExactMesh$FullMesh" 76 y_P_sideOfLine ∈ ec_tbl := ec_in (List.mem_append_right _ (List.mem_append_right _ (List.mem_append_left _ (List.mem_of_getElem? (i := 42) rfl)))) rfl
theorem wd_283 : Cond.methodLink "ExactMesh$FullMesh" 80 y_F_setIfEmpty ∈ ec_tbl := ec_in (List.mem_append_right _ (List.mem_append_right _ (List.mem_append_left _ (List.mem_of_getElem? (i := 43) rfl)))) rfl
theorem wd_285 : Cond.instanceMethod y_F_setIfEmpty ∈ ec_tbl := ec_in (List.mem_append_right _ (List.mem_append_right _ (List.mem_append_left _ (List.mem_of_getElem? (i := 45) rfl)))) rfl
theorem wd_286 : Cond.code y_F_setIfEmpty b_F_setIfEmpty 4 none ∈ ec_tbl := ec_in (List.mem_append_right _ (List.mem_append_right _ (List.mem_append_left _ (List.mem_of_getElem? (i := 46) rfl)))) rfl
theorem wd_287 : Cond.methodLink "ExactMesh$FullMesh" 83 y_P_anyInside ∈ ec_tbl := ec_in (List.mem_append_right _ (List.mem_append_right _ (List.mem_append_left _ (List.mem_of_getElem? (i := 47) rfl)))) rfl
theorem wd_288 : Cond.instanceMethod y_P_anyInside ∈ ec_tbl := ec_in (List.mem_append_right _ (List.mem_append_right _ (List.mem_append_left _ (List.mem_of_getElem? (i := 48) rfl)))) rfl
theorem wd_289 : Cond.selects "ExactMesh$Points" y_P_anyInside y_P_anyInside ∈ ec_tbl := ec_in (List.mem_append_right _ (List.mem_append_right _ (List.mem_append_left _ (List.mem_of_getElem? (i := 49) rfl)))) rfl
theorem wd_290 : Cond.code y_P_anyInside b_P_anyInside 5 (some .boolean) ∈ ec_tbl := ec_in (List.mem_append_right _ (List.mem_append_right _ (List.mem_append_left _ (List.mem_of_getElem? (i := 50) rfl)))) rfl
theorem wd_291 : Cond.methodLink "ExactMesh$FullMesh" 87 y_F_setTriangle ∈ ec_tbl := ec_in (List.mem_append_right _ (List.mem_append_right _ (List.mem_append_left _ (List.mem_of_getElem? (i := 51) rfl)))) rfl
theorem wd_293 : Cond.instanceMethod y_F_setTriangle ∈ ec_tbl := ec_in (List.mem_append_right _ (List.mem_append_right _ (List.mem_append_left _ (List.mem_of_getElem? (i := 53) rfl)))) rfl
theorem wd_294 : Cond.code y_F_setTriangle b_F_setTriangle 4 none ∈ ec_tbl := ec_in (List.mem_append_right _ (List.mem_append_right _ (List.mem_append_left _ (List.mem_of_getElem? (i := 54) rfl)))) rfl
theorem wd_295 : Cond.methodLink "ExactMesh$FullMesh" 34 y_F_setThird ∈ ec_tbl := ec_in (List.mem_append_right _ (List.mem_append_right _ (List.mem_append_left _ (List.mem_of_getElem? (i := 55) rfl)))) rfl
theorem wd_297 : Cond.instanceMethod y_F_setThird ∈ ec_tbl := ec_in (List.mem_append_right _ (List.mem_append_right _ (List.mem_append_left _ (List.mem_of_getElem? (i := 57) rfl)))) rfl
theorem wd_298 : Cond.code y_F_setThird b_F_setThird 4 none ∈ ec_tbl := ec_in (List.mem_append_right _ (List.mem_append_right _ (List.mem_append_left _ (List.mem_of_getElem? (i := 58) rfl)))) rfl
theorem wd_299 : Cond.methodLink "ExactMesh" 97 y_F_makeSidesGood ∈ ec_tbl := ec_in (List.mem_append_right _ (List.mem_append_right _ (List.mem_append_left _ (List.mem_of_getElem? (i := 59) rfl)))) rfl
theorem wd_300 : Cond.instanceMethod y_F_makeSidesGood ∈ ec_tbl := ec_in (List.mem_append_right _ (List.mem_append_right _ (List.mem_append_left _ (List.mem_of_getElem? (i := 60) rfl)))) rfl
theorem wd_301 : Cond.selects "ExactMesh$FullMesh" y_F_makeSidesGood y_F_makeSidesGood ∈ ec_tbl := ec_in (List.mem_append_right _ (List.mem_append_right _ (List.mem_append_left _ (List.mem_of_getElem? (i := 61) rfl)))) rfl
theorem wd_302 : Cond.code y_F_makeSidesGood b_F_makeSidesGood 3 none ∈ ec_tbl := ec_in (List.mem_append_right _ (List.mem_append_right _ (List.mem_append_left _ (List.mem_of_getElem? (i := 62) rfl)))) rfl
theorem wd_303 : Cond.methodLink "ExactMesh$FullMesh" 90 y_F_flipBadSides ∈ ec_tbl := ec_in (List.mem_append_right _ (List.mem_append_right _ (List.mem_append_left _ (List.mem_of_getElem? (i := 63) rfl)))) rfl
theorem wd_305 : Cond.instanceMethod y_F_flipBadSides ∈ ec_tbl := ec_in (List.mem_append_right _ (List.mem_append_right _ (List.mem_append_left _ (List.mem_of_getElem? (i := 65) rfl)))) rfl
theorem wd_306 : Cond.code y_F_flipBadSides b_F_flipBadSides 4 (some .boolean) ∈ ec_tbl := ec_in (List.mem_append_right _ (List.mem_append_right _ (List.mem_append_left _ (List.mem_of_getElem? (i := 66) rfl)))) rfl
theorem wd_307 : Cond.methodLink "ExactMesh$FullMesh" 94 y_F_isBad ∈ ec_tbl := ec_in (List.mem_append_right _ (List.mem_append_right _ (List.mem_append_left _ (List.mem_of_getElem? (i := 67) rfl)))) rfl
theorem wd_309 : Cond.instanceMethod y_F_isBad ∈ ec_tbl := ec_in (List.mem_append_right _ (List.mem_append_right _ (List.mem_append_left _ (List.mem_of_getElem? (i := 69) rfl)))) rfl
theorem wd_310 : Cond.code y_F_isBad b_F_isBad 6 (some .boolean) ∈ ec_tbl := ec_in (List.mem_append_right _ (List.mem_append_right _ (List.mem_append_left _ (List.mem_of_getElem? (i := 70) rfl)))) rfl
theorem wd_311 : Cond.methodLink "ExactMesh$FullMesh" 100 y_F_thirdOf ∈ ec_tbl := ec_in (List.mem_append_right _ (List.mem_append_right _ (List.mem_append_left _ (List.mem_of_getElem? (i := 71) rfl)))) rfl
theorem wd_312 : Cond.instanceMethod y_F_thirdOf ∈ ec_tbl := ec_in (List.mem_append_right _ (List.mem_append_right _ (List.mem_append_left _ (List.mem_of_getElem? (i := 72) rfl)))) rfl
theorem wd_313 : Cond.selects "ExactMesh$FullMesh" y_F_thirdOf y_F_thirdOf ∈ ec_tbl := ec_in (List.mem_append_right _ (List.mem_append_right _ (List.mem_append_left _ (List.mem_of_getElem? (i := 73) rfl)))) rfl
theorem wd_314 : Cond.code y_F_thirdOf b_F_thirdOf 3 (some .int) ∈ ec_tbl := ec_in (List.mem_append_right _ (List.mem_append_right _ (List.mem_append_left _ (List.mem_of_getElem? (i := 74) rfl)))) rfl
theorem wd_315 : Cond.methodLink "ExactMesh$FullMesh" 104 y_P_sideOfCircle ∈ ec_tbl := ec_in (List.mem_append_right _ (List.mem_append_right _ (List.mem_append_left _ (List.mem_of_getElem? (i := 75) rfl)))) rfl
theorem wd_316 : Cond.methodLink "ExactMesh$FullMesh" 108 y_JM_min ∈ ec_tbl := ec_in (List.mem_append_right _ (List.mem_append_right _ (List.mem_append_left _ (List.mem_of_getElem? (i := 76) rfl)))) rfl
theorem wd_317 : Cond.methodLink "ExactMesh$FullMesh" 97 y_F_flip ∈ ec_tbl := ec_in (List.mem_append_right _ (List.mem_append_right _ (List.mem_append_left _ (List.mem_of_getElem? (i := 77) rfl)))) rfl
theorem wd_319 : Cond.instanceMethod y_F_flip ∈ ec_tbl := ec_in (List.mem_append_right _ (List.mem_append_right _ (List.mem_append_left _ (List.mem_of_getElem? (i := 79) rfl)))) rfl
theorem wd_320 : Cond.code y_F_flip b_F_flip 5 none ∈ ec_tbl := ec_in (List.mem_append_right _ (List.mem_append_right _ (List.mem_append_left _ (List.mem_of_getElem? (i := 80) rfl)))) rfl
theorem wd_321 : Cond.methodLink "ExactMesh" 100 y_M_copyFrom ∈ ec_tbl := ec_in (List.mem_append_right _ (List.mem_append_right _ (List.mem_append_left _ (List.mem_of_getElem? (i := 81) rfl)))) rfl
theorem wd_322 : Cond.instanceMethod y_M_copyFrom ∈ ec_tbl := ec_in (List.mem_append_right _ (List.mem_append_right _ (List.mem_append_left _ (List.mem_of_getElem? (i := 82) rfl)))) rfl
theorem wd_323 : Cond.selects "ExactMesh$CarvedMesh" y_M_copyFrom y_M_copyFrom ∈ ec_tbl := ec_in (List.mem_append_right _ (List.mem_append_right _ (List.mem_append_left _ (List.mem_of_getElem? (i := 83) rfl)))) rfl
theorem wd_324 : Cond.code y_M_copyFrom b_M_copyFrom 5 none ∈ ec_tbl := ec_in (List.mem_append_right _ (List.mem_append_right _ (List.mem_append_left _ (List.mem_of_getElem? (i := 84) rfl)))) rfl
theorem wd_325 : Cond.methodLink "ExactMesh$CarvedMesh" 62 y_JS_arraycopy ∈ ec_tbl := ec_in (List.mem_append_right _ (List.mem_append_right _ (List.mem_append_left _ (List.mem_of_getElem? (i := 85) rfl)))) rfl
theorem wd_326 : Cond.static y_JS_arraycopy ∈ ec_tbl := ec_in (List.mem_append_right _ (List.mem_append_right _ (List.mem_append_left _ (List.mem_of_getElem? (i := 86) rfl)))) rfl
theorem wd_327 : Cond.native y_JS_arraycopy ∈ ec_tbl := ec_in (List.mem_append_right _ (List.mem_append_right _ (List.mem_append_left _ (List.mem_of_getElem? (i := 87) rfl)))) rfl
theorem wd_328 : Cond.methodLink "ExactMesh$CarvedMesh" 68 y_M_clear ∈ ec_tbl := ec_in (List.mem_append_right _ (List.mem_append_right _ (List.mem_append_left _ (List.mem_of_getElem? (i := 88) rfl)))) rfl
theorem wd_330 : Cond.instanceMethod y_M_clear ∈ ec_tbl := ec_in (List.mem_append_right _ (List.mem_append_right _ (List.mem_append_left _ (List.mem_of_getElem? (i := 90) rfl)))) rfl
theorem wd_331 : Cond.code y_M_clear b_M_clear 1 none ∈ ec_tbl := ec_in (List.mem_append_right _ (List.mem_append_right _ (List.mem_append_left _ (List.mem_of_getElem? (i := 91) rfl)))) rfl
theorem wd_332 : Cond.methodLink "ExactMesh$CarvedMesh" 83 y_JA_fill ∈ ec_tbl := ec_in (List.mem_append_right _ (List.mem_append_right _ (List.mem_append_left _ (List.mem_of_getElem? (i := 92) rfl)))) rfl
theorem wd_333 : Cond.methodLink "ExactMesh$CarvedMesh" 76 y_F_thirdOf ∈ ec_tbl := ec_in (List.mem_append_right _ (List.mem_append_right _ (List.mem_append_left _ (List.mem_of_getElem? (i := 93) rfl)))) rfl
theorem wd_334 : Cond.methodLink "ExactMesh$CarvedMesh" 79 y_M_add ∈ ec_tbl := ec_in (List.mem_append_right _ (List.mem_append_right _ (List.mem_append_left _ (List.mem_of_getElem? (i := 94) rfl)))) rfl
theorem wd_336 : Cond.instanceMethod y_M_add ∈ ec_tbl := ec_in (List.mem_append_right _ (List.mem_append_right _ (List.mem_append_left _ (List.mem_of_getElem? (i := 96) rfl)))) rfl
theorem wd_337 : Cond.code y_M_add b_M_add 4 none ∈ ec_tbl := ec_in (List.mem_append_right _ (List.mem_append_right _ (List.mem_append_left _ (List.mem_of_getElem? (i := 97) rfl)))) rfl
theorem wd_338 : Cond.methodLink "ExactMesh" 104 y_M_markHoles ∈ ec_tbl := ec_in (List.mem_append_right _ (List.mem_append_right _ (List.mem_append_left _ (List.mem_of_getElem? (i := 98) rfl)))) rfl
theorem wd_339 : Cond.instanceMethod y_M_markHoles ∈ ec_tbl := ec_in (List.mem_append_right _ (List.mem_append_right _ (List.mem_append_left _ (List.mem_of_getElem? (i := 99) rfl)))) rfl
theorem wd_340 : Cond.selects "ExactMesh$CarvedMesh" y_M_markHoles y_M_markHoles ∈ ec_tbl := ec_in (List.mem_append_right _ (List.mem_append_right _ (List.mem_append_left _ (List.mem_of_getElem? (i := 100) rfl)))) rfl
theorem wd_341 : Cond.code y_M_markHoles b_M_markHoles 5 none ∈ ec_tbl := ec_in (List.mem_append_right _ (List.mem_append_right _ (List.mem_append_left _ (List.mem_of_getElem? (i := 101) rfl)))) rfl
theorem wd_342 : Cond.methodLink "ExactMesh$CarvedMesh" 89 y_M_holds ∈ ec_tbl := ec_in (List.mem_append_right _ (List.mem_append_right _ (List.mem_append_left _ (List.mem_of_getElem? (i := 102) rfl)))) rfl
theorem wd_343 : Cond.instanceMethod y_M_holds ∈ ec_tbl := ec_in (List.mem_append_right _ (List.mem_append_right _ (List.mem_append_left _ (List.mem_of_getElem? (i := 103) rfl)))) rfl
theorem wd_344 : Cond.selects "ExactMesh$CarvedMesh" y_M_holds y_M_holds ∈ ec_tbl := ec_in (List.mem_append_right _ (List.mem_append_right _ (List.mem_append_left _ (List.mem_of_getElem? (i := 104) rfl)))) rfl
theorem wd_345 : Cond.code y_M_holds b_M_holds 6 (some .boolean) ∈ ec_tbl := ec_in (List.mem_append_right _ (List.mem_append_right _ (List.mem_append_left _ (List.mem_of_getElem? (i := 105) rfl)))) rfl
theorem wd_346 : Cond.methodLink "ExactMesh$CarvedMesh" 29 y_M_cornerOf ∈ ec_tbl := ec_in (List.mem_append_right _ (List.mem_append_right _ (List.mem_append_left _ (List.mem_of_getElem? (i := 106) rfl)))) rfl
theorem wd_347 : Cond.instanceMethod y_M_cornerOf ∈ ec_tbl := ec_in (List.mem_append_right _ (List.mem_append_right _ (List.mem_append_left _ (List.mem_of_getElem? (i := 107) rfl)))) rfl
theorem wd_348 : Cond.selects "ExactMesh$CarvedMesh" y_M_cornerOf y_M_cornerOf ∈ ec_tbl := ec_in (List.mem_append_right _ (List.mem_append_right _ (List.mem_append_left _ (List.mem_of_getElem? (i := 108) rfl)))) rfl
theorem wd_349 : Cond.code y_M_cornerOf b_M_cornerOf 3 (some .int) ∈ ec_tbl := ec_in (List.mem_append_right _ (List.mem_append_right _ (List.mem_append_left _ (List.mem_of_getElem? (i := 109) rfl)))) rfl
theorem wd_350 : Cond.methodLink "ExactMesh$CarvedMesh" 33 y_M_endOf ∈ ec_tbl := ec_in (List.mem_append_right _ (List.mem_append_right _ (List.mem_append_left _ (List.mem_of_getElem? (i := 110) rfl)))) rfl
theorem wd_352 : Cond.instanceMethod y_M_endOf ∈ ec_tbl := ec_in (List.mem_append_right _ (List.mem_append_right _ (List.mem_append_left _ (List.mem_of_getElem? (i := 112) rfl)))) rfl
theorem wd_353 : Cond.code y_M_endOf b_M_endOf 3 (some .int) ∈ ec_tbl := ec_in (List.mem_append_right _ (List.mem_append_right _ (List.mem_append_left _ (List.mem_of_getElem? (i := 113) rfl)))) rfl
theorem wd_354 : Cond.methodLink "ExactMesh$CarvedMesh" 36 y_P_leftness ∈ ec_tbl := ec_in (List.mem_append_right _ (List.mem_append_right _ (List.mem_append_left _ (List.mem_of_getElem? (i := 114) rfl)))) rfl
theorem wd_355 : Cond.methodLink "ExactMesh" 108 y_M_markOutside ∈ ec_tbl := ec_in (List.mem_append_right _ (List.mem_append_right _ (List.mem_append_left _ (List.mem_of_getElem? (i := 115) rfl)))) rfl
theorem wd_356 : Cond.instanceMethod y_M_markOutside ∈ ec_tbl := ec_in (List.mem_append_right _ (List.mem_append_right _ (List.mem_append_left _ (List.mem_of_getElem? (i := 116) rfl)))) rfl
theorem wd_357 : Cond.selects "ExactMesh$CarvedMesh" y_M_markOutside y_M_markOutside ∈ ec_tbl := ec_in (List.mem_append_right _ (List.mem_append_right _ (List.mem_append_left _ (List.mem_of_getElem? (i := 117) rfl)))) rfl
theorem wd_358 : Cond.code y_M_markOutside b_M_markOutside 3 none ∈ ec_tbl := ec_in (List.mem_append_right _ (List.mem_append_right _ (List.mem_append_left _ (List.mem_of_getElem? (i := 118) rfl)))) rfl
theorem wd_359 : Cond.methodLink "ExactMesh$CarvedMesh" 48 y_M_beyond ∈ ec_tbl := ec_in (List.mem_append_right _ (List.mem_append_right _ (List.mem_append_left _ (List.mem_of_getElem? (i := 119) rfl)))) rfl
theorem wd_360 : Cond.instanceMethod y_M_beyond ∈ ec_tbl := ec_in (List.mem_append_right _ (List.mem_append_right _ (List.mem_append_left _ (List.mem_of_getElem? (i := 120) rfl)))) rfl
theorem wd_361 : Cond.selects "ExactMesh$CarvedMesh" y_M_beyond y_M_beyond ∈ ec_tbl := ec_in (List.mem_append_right _ (List.mem_append_right _ (List.mem_append_left _ (List.mem_of_getElem? (i := 121) rfl)))) rfl
theorem wd_362 : Cond.code y_M_beyond b_M_beyond 3 (some .int) ∈ ec_tbl := ec_in (List.mem_append_right _ (List.mem_append_right _ (List.mem_append_left _ (List.mem_of_getElem? (i := 122) rfl)))) rfl
theorem wd_363 : Cond.methodLink "ExactMesh$CarvedMesh" 93 y_M_isFixed ∈ ec_tbl := ec_in (List.mem_append_right _ (List.mem_append_right _ (List.mem_append_left _ (List.mem_of_getElem? (i := 123) rfl)))) rfl
theorem wd_364 : Cond.instanceMethod y_M_isFixed ∈ ec_tbl := ec_in (List.mem_append_right _ (List.mem_append_right _ (List.mem_append_left _ (List.mem_of_getElem? (i := 124) rfl)))) rfl
theorem wd_365 : Cond.selects "ExactMesh$CarvedMesh" y_M_isFixed y_M_isFixed ∈ ec_tbl := ec_in (List.mem_append_right _ (List.mem_append_right _ (List.mem_append_left _ (List.mem_of_getElem? (i := 125) rfl)))) rfl
theorem wd_366 : Cond.code y_M_isFixed b_M_isFixed 3 (some .boolean) ∈ ec_tbl := ec_in (List.mem_append_right _ (List.mem_append_right _ (List.mem_append_left _ (List.mem_of_getElem? (i := 126) rfl)))) rfl
theorem wd_367 : Cond.methodLink "ExactMesh" 111 y_M_spreadMarks ∈ ec_tbl := ec_in (List.mem_append_right _ (List.mem_append_right _ (List.mem_append_left _ (List.mem_of_getElem? (i := 127) rfl)))) rfl
theorem wd_368 : Cond.instanceMethod y_M_spreadMarks ∈ ec_tbl := ec_in (List.mem_append_right _ (List.mem_append_right _ (List.mem_append_left _ (List.mem_of_getElem? (i := 128) rfl)))) rfl
theorem wd_369 : Cond.selects "ExactMesh$CarvedMesh" y_M_spreadMarks y_M_spreadMarks ∈ ec_tbl := ec_in (List.mem_append_right _ (List.mem_append_right _ (List.mem_append_left _ (List.mem_of_getElem? (i := 129) rfl)))) rfl
theorem wd_370 : Cond.code y_M_spreadMarks b_M_spreadMarks 4 none ∈ ec_tbl := ec_in (List.mem_append_right _ (List.mem_append_right _ (List.mem_append_left _ (List.mem_of_getElem? (i := 130) rfl)))) rfl
theorem wd_371 : Cond.methodLink "ExactMesh$CarvedMesh" 97 y_M_isBesideMarked ∈ ec_tbl := ec_in (List.mem_append_right _ (List.mem_append_right _ (List.mem_append_left _ (List.mem_of_getElem? (i := 131) rfl)))) rfl
theorem wd_373 : Cond.instanceMethod y_M_isBesideMarked ∈ ec_tbl := ec_in (List.mem_append_right _ (List.mem_append_right _ (List.mem_append_left _ (List.mem_of_getElem? (i := 133) rfl)))) rfl
theorem wd_374 : Cond.code y_M_isBesideMarked b_M_isBesideMarked 4 (some .boolean) ∈ ec_tbl := ec_in (List.mem_append_right _ (List.mem_append_right _ (List.mem_append_left _ (List.mem_of_getElem? (i := 134) rfl)))) rfl
theorem wd_375 : Cond.methodLink "ExactMesh" 114 y_M_dropMarked ∈ ec_tbl := ec_in (List.mem_append_right _ (List.mem_append_right _ (List.mem_append_left _ (List.mem_of_getElem? (i := 135) rfl)))) rfl
theorem wd_376 : Cond.instanceMethod y_M_dropMarked ∈ ec_tbl := ec_in (List.mem_append_right _ (List.mem_append_right _ (List.mem_append_left _ (List.mem_of_getElem? (i := 136) rfl)))) rfl
theorem wd_377 : Cond.selects "ExactMesh$CarvedMesh" y_M_dropMarked y_M_dropMarked ∈ ec_tbl := ec_in (List.mem_append_right _ (List.mem_append_right _ (List.mem_append_left _ (List.mem_of_getElem? (i := 137) rfl)))) rfl
theorem wd_378 : Cond.code y_M_dropMarked b_M_dropMarked 3 none ∈ ec_tbl := ec_in (List.mem_append_right _ (List.mem_append_right _ (List.mem_append_left _ (List.mem_of_getElem? (i := 138) rfl)))) rfl
theorem wd_379 : Cond.methodLink "ExactMeshLaw" 41 y_X_triangles ∈ ec_tbl := ec_in (List.mem_append_right _ (List.mem_append_right _ (List.mem_append_left _ (List.mem_of_getElem? (i := 139) rfl)))) rfl
theorem wd_380 : Cond.instanceMethod y_X_triangles ∈ ec_tbl := ec_in (List.mem_append_right _ (List.mem_append_right _ (List.mem_append_left _ (List.mem_of_getElem? (i := 140) rfl)))) rfl
theorem wd_381 : Cond.selects "ExactMesh" y_X_triangles y_X_triangles ∈ ec_tbl := ec_in (List.mem_append_right _ (List.mem_append_right _ (List.mem_append_left _ (List.mem_of_getElem? (i := 141) rfl)))) rfl
theorem wd_382 : Cond.code y_X_triangles b_X_triangles 1 (some .int) ∈ ec_tbl := ec_in (List.mem_append_right _ (List.mem_append_right _ (List.mem_append_left _ (List.mem_of_getElem? (i := 142) rfl)))) rfl
theorem wd_383 : Cond.methodLink "ExactMeshLaw" 46 y_X_corner ∈ ec_tbl := ec_in (List.mem_append_right _ (List.mem_append_right _ (List.mem_append_left _ (List.mem_of_getElem? (i := 143) rfl)))) rfl
theorem wd_384 : Cond.instanceMethod y_X_corner ∈ ec_tbl := ec_in (List.mem_append_right _ (List.mem_append_right _ (List.mem_append_left _ (List.mem_of_getElem? (i := 144) rfl)))) rfl
theorem wd_385 : Cond.selects "ExactMesh" y_X_corner y_X_corner ∈ ec_tbl := ec_in (List.mem_append_right _ (List.mem_append_right _ (List.mem_append_left _ (List.mem_of_getElem? (i := 145) rfl)))) rfl
theorem wd_386 : Cond.code y_X_corner b_X_corner 3 (some .int) ∈ ec_tbl := ec_in (List.mem_append_right _ (List.mem_append_right _ (List.mem_append_left _ (List.mem_of_getElem? (i := 146) rfl)))) rfl
theorem wd_387 : Cond.methodLink "ExactMesh" 118 y_M_hasSide ∈ ec_tbl := ec_in (List.mem_append_right _ (List.mem_append_right _ (List.mem_append_left _ (List.mem_of_getElem? (i := 147) rfl)))) rfl
theorem wd_388 : Cond.instanceMethod y_M_hasSide ∈ ec_tbl := ec_in (List.mem_append_right _ (List.mem_append_right _ (List.mem_append_left _ (List.mem_of_getElem? (i := 148) rfl)))) rfl
theorem wd_389 : Cond.selects "ExactMesh$CarvedMesh" y_M_hasSide y_M_hasSide ∈ ec_tbl := ec_in (List.mem_append_right _ (List.mem_append_right _ (List.mem_append_left _ (List.mem_of_getElem? (i := 149) rfl)))) rfl
theorem wd_390 : Cond.code y_M_hasSide b_M_hasSide 3 (some .boolean) ∈ ec_tbl := ec_in (List.mem_append_right _ (List.mem_append_right _ (List.mem_append_left _ (List.mem_of_getElem? (i := 150) rfl)))) rfl
theorem wd_391 : Cond.methodLink "ExactMesh" 121 y_M_cornerOf ∈ ec_tbl := ec_in (List.mem_append_right _ (List.mem_append_right _ (List.mem_append_left _ (List.mem_of_getElem? (i := 151) rfl)))) rfl
theorem wd_392 : Cond.methodLink "ExactMeshLaw" 50 y_X_across ∈ ec_tbl := ec_in (List.mem_append_right _ (List.mem_append_right _ (List.mem_append_left _ (List.mem_of_getElem? (i := 152) rfl)))) rfl
theorem wd_393 : Cond.instanceMethod y_X_across ∈ ec_tbl := ec_in (List.mem_append_right _ (List.mem_append_right _ (List.mem_append_left _ (List.mem_of_getElem? (i := 153) rfl)))) rfl
theorem wd_394 : Cond.selects "ExactMesh" y_X_across y_X_across ∈ ec_tbl := ec_in (List.mem_append_right _ (List.mem_append_right _ (List.mem_append_left _ (List.mem_of_getElem? (i := 154) rfl)))) rfl
theorem wd_395 : Cond.code y_X_across b_X_across 3 (some .int) ∈ ec_tbl := ec_in (List.mem_append_right _ (List.mem_append_right _ (List.mem_append_left _ (List.mem_of_getElem? (i := 155) rfl)))) rfl
theorem wd_396 : Cond.methodLink "ExactMesh" 124 y_M_beyond ∈ ec_tbl := ec_in (List.mem_append_right _ (List.mem_append_right _ (List.mem_append_left _ (List.mem_of_getElem? (i := 156) rfl)))) rfl
theorem wd_397 : Cond.methodLink "ExactMeshLaw" 54 y_X_fixed ∈ ec_tbl := ec_in (List.mem_append_right _ (List.mem_append_right _ (List.mem_append_left _ (List.mem_of_getElem? (i := 157) rfl)))) rfl
theorem wd_398 : Cond.instanceMethod y_X_fixed ∈ ec_tbl := ec_in (List.mem_append_right _ (List.mem_append_right _ (List.mem_append_left _ (List.mem_of_getElem? (i := 158) rfl)))) rfl
theorem wd_399 : Cond.selects "ExactMesh" y_X_fixed y_X_fixed ∈ ec_tbl := ec_in (List.mem_append_right _ (List.mem_append_right _ (List.mem_append_left _ (List.mem_of_getElem? (i := 159) rfl)))) rfl
theorem wd_400 : Cond.code y_X_fixed b_X_fixed 3 (some .boolean) ∈ ec_tbl := ec_in (List.mem_append_right _ (List.mem_append_right _ (List.mem_append_left _ (List.mem_of_getElem? (i := 160) rfl)))) rfl
theorem wd_401 : Cond.methodLink "ExactMesh" 127 y_M_isFixed ∈ ec_tbl := ec_in (List.mem_append_right _ (List.mem_append_right _ (List.mem_append_left _ (List.mem_of_getElem? (i := 161) rfl)))) rfl
theorem wd_402 : Cond.methodLink "ExactMeshLaw" 59 y_X_locate ∈ ec_tbl := ec_in (List.mem_append_right _ (List.mem_append_right _ (List.mem_append_left _ (List.mem_of_getElem? (i := 162) rfl)))) rfl
theorem wd_403 : Cond.instanceMethod y_X_locate ∈ ec_tbl := ec_in (List.mem_append_right _ (List.mem_append_right _ (List.mem_append_left _ (List.mem_of_getElem? (i := 163) rfl)))) rfl
theorem wd_404 : Cond.selects "ExactMesh" y_X_locate y_X_locate ∈ ec_tbl := ec_in (List.mem_append_right _ (List.mem_append_right _ (List.mem_append_left _ (List.mem_of_getElem? (i := 164) rfl)))) rfl
theorem wd_405 : Cond.code y_X_locate b_X_locate 4 (some .int) ∈ ec_tbl := ec_in (List.mem_append_right _ (List.mem_append_right _ (List.mem_append_left _ (List.mem_of_getElem? (i := 165) rfl)))) rfl
theorem wd_406 : Cond.methodLink "ExactMesh" 130 y_M_holds ∈ ec_tbl := ec_in (List.mem_append_right _ (List.mem_append_right _ (List.mem_append_left _ (List.mem_of_getElem? (i := 166) rfl)))) rfl
theorem wd_407 : Cond.methodLink "ExactMeshLaw" 63 y_X_degree ∈ ec_tbl := ec_in (List.mem_append_right _ (List.mem_append_right _ (List.mem_append_left _ (List.mem_of_getElem? (i := 167) rfl)))) rfl
theorem wd_408 : Cond.instanceMethod y_X_degree ∈ ec_tbl := ec_in (List.mem_append_right _ (List.mem_append_right _ (List.mem_append_left _ (List.mem_of_getElem? (i := 168) rfl)))) rfl
theorem wd_409 : Cond.selects "ExactMesh" y_X_degree y_X_degree ∈ ec_tbl := ec_in (List.mem_append_right _ (List.mem_append_right _ (List.mem_append_left _ (List.mem_of_getElem? (i := 169) rfl)))) rfl
theorem wd_410 : Cond.code y_X_degree b_X_degree 2 (some .int) ∈ ec_tbl := ec_in (List.mem_append_right _ (List.mem_append_right _ (List.mem_append_left _ (List.mem_of_getElem? (i := 170) rfl)))) rfl
theorem wd_411 : Cond.methodLink "ExactMesh" 134 y_M_trianglesAt ∈ ec_tbl := ec_in (List.mem_append_right _ (List.mem_append_right _ (List.mem_append_left _ (List.mem_of_getElem? (i := 171) rfl)))) rfl
theorem wd_412 : Cond.instanceMethod y_M_trianglesAt ∈ ec_tbl := ec_in (List.mem_append_right _ (List.mem_append_right _ (List.mem_append_left _ (List.mem_of_getElem? (i := 172) rfl)))) rfl
theorem wd_413 : Cond.selects "ExactMesh$CarvedMesh" y_M_trianglesAt y_M_trianglesAt ∈ ec_tbl := ec_in (List.mem_append_right _ (List.mem_append_right _ (List.mem_append_left _ (List.mem_of_getElem? (i := 173) rfl)))) rfl
theorem wd_414 : Cond.code y_M_trianglesAt b_M_trianglesAt 4 (some .int) ∈ ec_tbl := ec_in (List.mem_append_right _ (List.mem_append_right _ (List.mem_append_left _ (List.mem_of_getElem? (i := 174) rfl)))) rfl
theorem wd_415 : Cond.methodLink "ExactMeshLaw" 68 y_X_area ∈ ec_tbl := ec_in (List.mem_append_right _ (List.mem_append_right _ (List.mem_append_left _ (List.mem_of_getElem? (i := 175) rfl)))) rfl
theorem wd_416 : Cond.instanceMethod y_X_area ∈ ec_tbl := ec_in (List.mem_append_right _ (List.mem_append_right _ (List.mem_append_left _ (List.mem_of_getElem? (i := 176) rfl)))) rfl
theorem wd_417 : Cond.selects "ExactMesh" y_X_area y_X_area ∈ ec_tbl := ec_in (List.mem_append_right _ (List.mem_append_right _ (List.mem_append_left _ (List.mem_of_getElem? (i := 177) rfl)))) rfl
theorem wd_418 : Cond.code y_X_area b_X_area 4 (some .long) ∈ ec_tbl := ec_in (List.mem_append_right _ (List.mem_append_right _ (List.mem_append_left _ (List.mem_of_getElem? (i := 178) rfl)))) rfl
theorem wd_419 : Cond.methodLink "ExactMesh" 138 y_M_doubleArea ∈ ec_tbl := ec_in (List.mem_append_right _ (List.mem_append_right _ (List.mem_append_left _ (List.mem_of_getElem? (i := 179) rfl)))) rfl
theorem wd_420 : Cond.instanceMethod y_M_doubleArea ∈ ec_tbl := ec_in (List.mem_append_right _ (List.mem_append_right _ (List.mem_append_left _ (List.mem_of_getElem? (i := 180) rfl)))) rfl
theorem wd_421 : Cond.selects "ExactMesh$CarvedMesh" y_M_doubleArea y_M_doubleArea ∈ ec_tbl := ec_in (List.mem_append_right _ (List.mem_append_right _ (List.mem_append_left _ (List.mem_of_getElem? (i := 181) rfl)))) rfl
theorem wd_422 : Cond.code y_M_doubleArea b_M_doubleArea 4 (some .long) ∈ ec_tbl := ec_in (List.mem_append_right _ (List.mem_append_right _ (List.mem_append_left _ (List.mem_of_getElem? (i := 182) rfl)))) rfl
theorem wd_423 : Cond.methodLink "ExactMeshLaw" 73 y_X_border ∈ ec_tbl := ec_in (List.mem_append_right _ (List.mem_append_right _ (List.mem_append_left _ (List.mem_of_getElem? (i := 183) rfl)))) rfl
theorem wd_424 : Cond.instanceMethod y_X_border ∈ ec_tbl := ec_in (List.mem_append_right _ (List.mem_append_right _ (List.mem_append_left _ (List.mem_of_getElem? (i := 184) rfl)))) rfl
theorem wd_425 : Cond.selects "ExactMesh" y_X_border y_X_border ∈ ec_tbl := ec_in (List.mem_append_right _ (List.mem_append_right _ (List.mem_append_left _ (List.mem_of_getElem? (i := 185) rfl)))) rfl
theorem wd_426 : Cond.code y_X_border b_X_border 1 (some .int) ∈ ec_tbl := ec_in (List.mem_append_right _ (List.mem_append_right _ (List.mem_append_left _ (List.mem_of_getElem? (i := 186) rfl)))) rfl
theorem wd_427 : Cond.methodLink "ExactMesh" 142 y_M_openSides ∈ ec_tbl := ec_in (List.mem_append_right _ (List.mem_append_right _ (List.mem_append_left _ (List.mem_of_getElem? (i := 187) rfl)))) rfl
theorem wd_428 : Cond.instanceMethod y_M_openSides ∈ ec_tbl := ec_in (List.mem_append_right _ (List.mem_append_right _ (List.mem_append_left _ (List.mem_of_getElem? (i := 188) rfl)))) rfl
theorem wd_429 : Cond.selects "ExactMesh$CarvedMesh" y_M_openSides y_M_openSides ∈ ec_tbl := ec_in (List.mem_append_right _ (List.mem_append_right _ (List.mem_append_left _ (List.mem_of_getElem? (i := 189) rfl)))) rfl
theorem wd_430 : Cond.code y_M_openSides b_M_openSides 4 (some .int) ∈ ec_tbl := ec_in (List.mem_append_right _ (List.mem_append_right _ (List.mem_append_left _ (List.mem_of_getElem? (i := 190) rfl)))) rfl
theorem wd_431 : Cond.methodLink "ExactMeshLaw" 77 y_X_vertices ∈ ec_tbl := ec_in (List.mem_append_right _ (List.mem_append_right _ (List.mem_append_left _ (List.mem_of_getElem? (i := 191) rfl)))) rfl
theorem wd_432 : Cond.instanceMethod y_X_vertices ∈ ec_tbl := ec_in (List.mem_append_right _ (List.mem_append_right _ (List.mem_append_left _ (List.mem_of_getElem? (i := 192) rfl)))) rfl
theorem wd_433 : Cond.selects "ExactMesh" y_X_vertices y_X_vertices ∈ ec_tbl := ec_in (List.mem_append_right _ (List.mem_append_right _ (List.mem_append_left _ (List.mem_of_getElem? (i := 193) rfl)))) rfl
theorem wd_434 : Cond.code y_X_vertices b_X_vertices 1 (some .int) ∈ ec_tbl := ec_in (List.mem_append_right _ (List.mem_append_right _ (List.mem_append_left _ (List.mem_of_getElem? (i := 194) rfl)))) rfl
theorem wd_435 : Cond.methodLink "ExactMeshLaw" 81 y_X_segments ∈ ec_tbl := ec_in (List.mem_append_right _ (List.mem_append_right _ (List.mem_append_left _ (List.mem_of_getElem? (i := 195) rfl)))) rfl
theorem wd_436 : Cond.instanceMethod y_X_segments ∈ ec_tbl := ec_in (List.mem_append_right _ (List.mem_append_right _ (List.mem_append_left _ (List.mem_of_getElem? (i := 196) rfl)))) rfl
theorem wd_437 : Cond.selects "ExactMesh" y_X_segments y_X_segments ∈ ec_tbl := ec_in (List.mem_append_right _ (List.mem_append_right _ (List.mem_append_left _ (List.mem_of_getElem? (i := 197) rfl)))) rfl
theorem wd_438 : Cond.code y_X_segments b_X_segments 1 (some .int) ∈ ec_tbl := ec_in (List.mem_append_right _ (List.mem_append_right _ (List.mem_append_left _ (List.mem_of_getElem? (i := 198) rfl)))) rfl
theorem wd_439 : Cond.methodLink "ExactMeshLaw" 85 y_X_place ∈ ec_tbl := ec_in (List.mem_append_right _ (List.mem_append_right _ (List.mem_append_left _ (List.mem_of_getElem? (i := 199) rfl)))) rfl
theorem wd_440 : Cond.instanceMethod y_X_place ∈ ec_tbl := ec_in (List.mem_append_right _ (List.mem_append_right _ (List.mem_append_left _ (List.mem_of_getElem? (i := 200) rfl)))) rfl
theorem wd_441 : Cond.selects "ExactMesh" y_X_place y_X_place ∈ ec_tbl := ec_in (List.mem_append_right _ (List.mem_append_right _ (List.mem_append_left _ (List.mem_of_getElem? (i := 201) rfl)))) rfl
theorem wd_442 : Cond.code y_X_place b_X_place 3 (some .int) ∈ ec_tbl := ec_in (List.mem_append_right _ (List.mem_append_right _ (List.mem_append_left _ (List.mem_of_getElem? (i := 202) rfl)))) rfl
theorem wd_443 : Cond.classLink "ExactMeshLaw" 10 "ExactMeshModel" ∈ ec_tbl := ec_in (List.mem_append_right _ (List.mem_append_right _ (List.mem_append_left _ (List.mem_of_getElem? (i := 203) rfl)))) rfl
theorem wd_444 : Cond.instantiable "ExactMeshModel" 18 ∈ ec_tbl := ec_in (List.mem_append_right _ (List.mem_append_right _ (List.mem_append_left _ (List.mem_of_getElem? (i := 204) rfl)))) rfl
theorem wd_445 : Cond.methodLink "ExactMeshLaw" 12 y_R_init ∈ ec_tbl := ec_in (List.mem_append_right _ (List.mem_append_right _ (List.mem_append_left _ (List.mem_of_getElem? (i := 205) rfl)))) rfl
theorem wd_446 : Cond.instanceMethod y_R_init ∈ ec_tbl := ec_in (List.mem_append_right _ (List.mem_append_right _ (List.mem_append_left _ (List.mem_of_getElem? (i := 206) rfl)))) rfl
theorem wd_447 : Cond.code y_R_init b_R_init 1 none ∈ ec_tbl := ec_in (List.mem_append_right _ (List.mem_append_right _ (List.mem_append_left _ (List.mem_of_getElem? (i := 207) rfl)))) rfl
theorem wd_448 : Cond.methodLink "ExactMeshModel" 1 y_O_init ∈ ec_tbl := ec_in (List.mem_append_right _ (List.mem_append_right _ (List.mem_append_left _ (List.mem_of_getElem? (i := 208) rfl)))) rfl
theorem wd_449 : Cond.fieldLink "ExactMeshModel" 65 "ExactMeshModel" "points" "I" ∈ ec_tbl := ec_in (List.mem_append_right _ (List.mem_append_right _ (List.mem_append_left _ (List.mem_of_getElem? (i := 209) rfl)))) rfl
theorem wd_450 : Cond.fieldLink "ExactMeshModel" 7 "ExactMeshModel" "px" "[I" ∈ ec_tbl := ec_in (List.mem_append_right _ (List.mem_append_right _ (List.mem_append_left _ (List.mem_of_getElem? (i := 210) rfl)))) rfl
theorem wd_451 : Cond.fieldLink "ExactMeshModel" 13 "ExactMeshModel" "py" "[I" ∈ ec_tbl := ec_in (List.mem_append_right _ (List.mem_append_right _ (List.mem_append_left _ (List.mem_of_getElem? (i := 211) rfl)))) rfl
theorem wd_452 : Cond.fieldLink "ExactMeshModel" 83 "ExactMeshModel" "lines" "I" ∈ ec_tbl := ec_in (List.mem_append_right _ (List.mem_append_right _ (List.mem_append_left _ (List.mem_of_getElem? (i := 212) rfl)))) rfl
theorem wd_453 : Cond.fieldLink "ExactMeshModel" 16 "ExactMeshModel" "from" "[I" ∈ ec_tbl := ec_in (List.mem_append_right _ (List.mem_append_right _ (List.mem_append_left _ (List.mem_of_getElem? (i := 213) rfl)))) rfl
theorem wd_454 : Cond.fieldLink "ExactMeshModel" 19 "ExactMeshModel" "to" "[I" ∈ ec_tbl := ec_in (List.mem_append_right _ (List.mem_append_right _ (List.mem_append_left _ (List.mem_of_getElem? (i := 214) rfl)))) rfl
theorem wd_455 : Cond.fieldLink "ExactMeshModel" 105 "ExactMeshModel" "holes" "I" ∈ ec_tbl := ec_in (List.mem_append_right _ (List.mem_append_right _ (List.mem_append_left _ (List.mem_of_getElem? (i := 215) rfl)))) rfl
theorem wd_456 : Cond.fieldLink "ExactMeshModel" 22 "ExactMeshModel" "hx" "[I" ∈ ec_tbl := ec_in (List.mem_append_right _ (List.mem_append_right _ (List.mem_append_left _ (List.mem_of_getElem? (i := 216) rfl)))) rfl
theorem wd_457 : Cond.fieldLink "ExactMeshModel" 25 "ExactMeshModel" "hy" "[I" ∈ ec_tbl := ec_in (List.mem_append_right _ (List.mem_append_right _ (List.mem_append_left _ (List.mem_of_getElem? (i := 217) rfl)))) rfl
theorem wd_458 : Cond.fieldLink "ExactMeshModel" 123 "ExactMeshModel" "count" "I" ∈ ec_tbl := ec_in (List.mem_append_right _ (List.mem_append_right _ (List.mem_append_left _ (List.mem_of_getElem? (i := 218) rfl)))) rfl
theorem wd_459 : Cond.fieldLink "ExactMeshModel" 28 "ExactMeshModel" "one" "[I" ∈ ec_tbl := ec_in (List.mem_append_right _ (List.mem_append_right _ (List.mem_append_left _ (List.mem_of_getElem? (i := 219) rfl)))) rfl
theorem wd_460 : Cond.fieldLink "ExactMeshModel" 31 "ExactMeshModel" "two" "[I" ∈ ec_tbl := ec_in (List.mem_append_right _ (List.mem_append_right _ (List.mem_append_left _ (List.mem_of_getElem? (i := 220) rfl)))) rfl
theorem wd_461 : Cond.fieldLink "ExactMeshModel" 34 "ExactMeshModel" "three" "[I" ∈ ec_tbl := ec_in (List.mem_append_right _ (List.mem_append_right _ (List.mem_append_left _ (List.mem_of_getElem? (i := 221) rfl)))) rfl
theorem wd_462 : Cond.fieldLink "ExactMeshModel" 37 "ExactMeshModel" "gone" "[Z" ∈ ec_tbl := ec_in (List.mem_append_right _ (List.mem_append_right _ (List.mem_append_left _ (List.mem_of_getElem? (i := 222) rfl)))) rfl
theorem wd_463 : Cond.fieldLink "ExactMeshModel" 160 "ExactMeshModel" "left" "I" ∈ ec_tbl := ec_in (List.mem_append_right _ (List.mem_append_right _ (List.mem_append_left _ (List.mem_of_getElem? (i := 223) rfl)))) rfl
theorem wd_464 : Cond.fieldLink "ExactMeshModel" 41 "ExactMeshModel" "corner" "[I" ∈ ec_tbl := ec_in (List.mem_append_right _ (List.mem_append_right _ (List.mem_append_left _ (List.mem_of_getElem? (i := 224) rfl)))) rfl
theorem wd_465 : Cond.fieldLink "ExactMeshModel" 44 "ExactMeshModel" "fixed" "[Z" ∈ ec_tbl := ec_in (List.mem_append_right _ (List.mem_append_right _ (List.mem_append_left _ (List.mem_of_getElem? (i := 225) rfl)))) rfl
theorem wd_466 : Cond.fieldLink "ExactMeshModel" 47 "ExactMeshModel" "part" "[J" ∈ ec_tbl := ec_in (List.mem_append_right _ (List.mem_append_right _ (List.mem_append_left _ (List.mem_of_getElem? (i := 226) rfl)))) rfl
theorem wd_504 : Cond.arrayClass .long ∈ ec_tbl := ec_in (List.mem_append_right _ (List.mem_append_right _ (List.mem_append_right _ (List.mem_of_getElem? (i := 24) rfl)))) rfl
theorem wd_505 : Cond.methodLink "ExactMeshLaw" 17 y_R_vertex ∈ ec_tbl := ec_in (List.mem_append_right _ (List.mem_append_right _ (List.mem_append_right _ (List.mem_of_getElem? (i := 25) rfl)))) rfl
theorem wd_506 : Cond.instanceMethod y_R_vertex ∈ ec_tbl := ec_in (List.mem_append_right _ (List.mem_append_right _ (List.mem_append_right _ (List.mem_of_getElem? (i := 26) rfl)))) rfl
theorem wd_507 : Cond.selects "ExactMeshModel" y_R_vertex y_R_vertex ∈ ec_tbl := ec_in (List.mem_append_right _ (List.mem_append_right _ (List.mem_append_right _ (List.mem_of_getElem? (i := 27) rfl)))) rfl
theorem wd_508 : Cond.code y_R_vertex b_R_vertex 4 (some .int) ∈ ec_tbl := ec_in (List.mem_append_right _ (List.mem_append_right _ (List.mem_append_right _ (List.mem_of_getElem? (i := 28) rfl)))) rfl
theorem wd_509 : Cond.methodLink "ExactMeshModel" 86 y_R_far ∈ ec_tbl := ec_in (List.mem_append_right _ (List.mem_append_right _ (List.mem_append_right _ (List.mem_of_getElem? (i := 29) rfl)))) rfl
theorem wd_510 : Cond.static y_R_far ∈ ec_tbl := ec_in (List.mem_append_right _ (List.mem_append_right _ (List.mem_append_right _ (List.mem_of_getElem? (i := 30) rfl)))) rfl
theorem wd_511 : Cond.code y_R_far b_R_far 2 (some .boolean) ∈ ec_tbl := ec_in (List.mem_append_right _ (List.mem_append_right _ (List.mem_append_right _ (List.mem_of_getElem? (i := 31) rfl)))) rfl
theorem wd_512 : Cond.constant "ExactMeshModel" 69 (-1000000) ∈ ec_tbl := ec_in (List.mem_append_right _ (List.mem_append_right _ (List.mem_append_right _ (List.mem_of_getElem? (i := 32) rfl)))) rfl
theorem wd_513 : Cond.constant "ExactMeshModel" 70 1000000 ∈ ec_tbl := ec_in (List.mem_append_right _ (List.mem_append_right _ (List.mem_append_right _ (List.mem_of_getElem? (i := 33) rfl)))) rfl
theorem wd_514 : Cond.methodLink "ExactMeshModel" 90 y_R_on ∈ ec_tbl := ec_in (List.mem_append_right _ (List.mem_append_right _ (List.mem_append_right _ (List.mem_of_getElem? (i := 34) rfl)))) rfl
theorem wd_516 : Cond.instanceMethod y_R_on ∈ ec_tbl := ec_in (List.mem_append_right _ (List.mem_append_right _ (List.mem_append_right _ (List.mem_of_getElem? (i := 36) rfl)))) rfl
theorem wd_517 : Cond.code y_R_on b_R_on 9 (some .boolean) ∈ ec_tbl := ec_in (List.mem_append_right _ (List.mem_append_right _ (List.mem_append_right _ (List.mem_of_getElem? (i := 37) rfl)))) rfl
theorem wd_518 : Cond.methodLink "ExactMeshModel" 71 y_R_side ∈ ec_tbl := ec_in (List.mem_append_right _ (List.mem_append_right _ (List.mem_append_right _ (List.mem_of_getElem? (i := 38) rfl)))) rfl
theorem wd_520 : Cond.instanceMethod y_R_side ∈ ec_tbl := ec_in (List.mem_append_right _ (List.mem_append_right _ (List.mem_append_right _ (List.mem_of_getElem? (i := 40) rfl)))) rfl
theorem wd_521 : Cond.code y_R_side b_R_side 7 (some .long) ∈ ec_tbl := ec_in (List.mem_append_right _ (List.mem_append_right _ (List.mem_append_right _ (List.mem_of_getElem? (i := 41) rfl)))) rfl
theorem wd_522 : Cond.methodLink "ExactMeshModel" 51 y_R_cross ∈ ec_tbl := ec_in (List.mem_append_right _ (List.mem_append_right _ (List.mem_append_right _ (List.mem_of_getElem? (i := 42) rfl)))) rfl
theorem wd_523 : Cond.static y_R_cross ∈ ec_tbl := ec_in (List.mem_append_right _ (List.mem_append_right _ (List.mem_append_right _ (List.mem_of_getElem? (i := 43) rfl)))) rfl
theorem wd_524 : Cond.code y_R_cross b_R_cross 12 (some .long) ∈ ec_tbl := ec_in (List.mem_append_right _ (List.mem_append_right _ (List.mem_append_right _ (List.mem_of_getElem? (i := 44) rfl)))) rfl
theorem wd_525 : Cond.methodLink "ExactMeshLaw" 21 y_R_segment ∈ ec_tbl := ec_in (List.mem_append_right _ (List.mem_append_right _ (List.mem_append_right _ (List.mem_of_getElem? (i := 45) rfl)))) rfl
theorem wd_526 : Cond.instanceMethod y_R_segment ∈ ec_tbl := ec_in (List.mem_append_right _ (List.mem_append_right _ (List.mem_append_right _ (List.mem_of_getElem? (i := 46) rfl)))) rfl
theorem wd_527 : Cond.selects "ExactMeshModel" y_R_segment y_R_segment ∈ ec_tbl := ec_in (List.mem_append_right _ (List.mem_append_right _ (List.mem_append_right _ (List.mem_of_getElem? (i := 47) rfl)))) rfl
theorem wd_528 : Cond.code y_R_segment b_R_segment 4 (some .int) ∈ ec_tbl := ec_in (List.mem_append_right _ (List.mem_append_right _ (List.mem_append_right _ (List.mem_of_getElem? (i := 48) rfl)))) rfl
theorem wd_529 : Cond.methodLink "ExactMeshModel" 94 y_R_isPoint ∈ ec_tbl := ec_in (List.mem_append_right _ (List.mem_append_right _ (List.mem_append_right _ (List.mem_of_getElem? (i := 49) rfl)))) rfl
theorem wd_531 : Cond.instanceMethod y_R_isPoint ∈ ec_tbl := ec_in (List.mem_append_right _ (List.mem_append_right _ (List.mem_append_right _ (List.mem_of_getElem? (i := 51) rfl)))) rfl
theorem wd_532 : Cond.code y_R_isPoint b_R_isPoint 2 (some .boolean) ∈ ec_tbl := ec_in (List.mem_append_right _ (List.mem_append_right _ (List.mem_append_right _ (List.mem_of_getElem? (i := 52) rfl)))) rfl
theorem wd_533 : Cond.methodLink "ExactMeshModel" 98 y_R_isLine ∈ ec_tbl := ec_in (List.mem_append_right _ (List.mem_append_right _ (List.mem_append_right _ (List.mem_of_getElem? (i := 53) rfl)))) rfl
theorem wd_535 : Cond.instanceMethod y_R_isLine ∈ ec_tbl := ec_in (List.mem_append_right _ (List.mem_append_right _ (List.mem_append_right _ (List.mem_of_getElem? (i := 55) rfl)))) rfl
theorem wd_536 : Cond.code y_R_isLine b_R_isLine 5 (some .boolean) ∈ ec_tbl := ec_in (List.mem_append_right _ (List.mem_append_right _ (List.mem_append_right _ (List.mem_of_getElem? (i := 56) rfl)))) rfl
theorem wd_537 : Cond.methodLink "ExactMeshModel" 101 y_R_crosses ∈ ec_tbl := ec_in (List.mem_append_right _ (List.mem_append_right _ (List.mem_append_right _ (List.mem_of_getElem? (i := 57) rfl)))) rfl
theorem wd_539 : Cond.instanceMethod y_R_crosses ∈ ec_tbl := ec_in (List.mem_append_right _ (List.mem_append_right _ (List.mem_append_right _ (List.mem_of_getElem? (i := 59) rfl)))) rfl
theorem wd_540 : Cond.code y_R_crosses b_R_crosses 5 (some .boolean) ∈ ec_tbl := ec_in (List.mem_append_right _ (List.mem_append_right _ (List.mem_append_right _ (List.mem_of_getElem? (i := 60) rfl)))) rfl
theorem wd_541 : Cond.methodLink "ExactMeshModel" 75 y_R_of ∈ ec_tbl := ec_in (List.mem_append_right _ (List.mem_append_right _ (List.mem_append_right _ (List.mem_of_getElem? (i := 61) rfl)))) rfl
theorem wd_543 : Cond.instanceMethod y_R_of ∈ ec_tbl := ec_in (List.mem_append_right _ (List.mem_append_right _ (List.mem_append_right _ (List.mem_of_getElem? (i := 63) rfl)))) rfl
theorem wd_544 : Cond.code y_R_of b_R_of 4 (some .long) ∈ ec_tbl := ec_in (List.mem_append_right _ (List.mem_append_right _ (List.mem_append_right _ (List.mem_of_getElem? (i := 64) rfl)))) rfl
theorem wd_545 : Cond.methodLink "ExactMeshModel" 79 y_R_sign ∈ ec_tbl := ec_in (List.mem_append_right _ (List.mem_append_right _ (List.mem_append_right _ (List.mem_of_getElem? (i := 65) rfl)))) rfl
theorem wd_546 : Cond.static y_R_sign ∈ ec_tbl := ec_in (List.mem_append_right _ (List.mem_append_right _ (List.mem_append_right _ (List.mem_of_getElem? (i := 66) rfl)))) rfl
theorem wd_547 : Cond.code y_R_sign b_R_sign 2 (some .int) ∈ ec_tbl := ec_in (List.mem_append_right _ (List.mem_append_right _ (List.mem_append_right _ (List.mem_of_getElem? (i := 67) rfl)))) rfl
theorem wd_548 : Cond.methodLink "ExactMeshLaw" 25 y_R_hole ∈ ec_tbl := ec_in (List.mem_append_right _ (List.mem_append_right _ (List.mem_append_right _ (List.mem_of_getElem? (i := 68) rfl)))) rfl
theorem wd_549 : Cond.instanceMethod y_R_hole ∈ ec_tbl := ec_in (List.mem_append_right _ (List.mem_append_right _ (List.mem_append_right _ (List.mem_of_getElem? (i := 69) rfl)))) rfl
theorem wd_550 : Cond.selects "ExactMeshModel" y_R_hole y_R_hole ∈ ec_tbl := ec_in (List.mem_append_right _ (List.mem_append_right _ (List.mem_append_right _ (List.mem_of_getElem? (i := 70) rfl)))) rfl
theorem wd_551 : Cond.code y_R_hole b_R_hole 3 (some .int) ∈ ec_tbl := ec_in (List.mem_append_right _ (List.mem_append_right _ (List.mem_append_right _ (List.mem_of_getElem? (i := 71) rfl)))) rfl
theorem wd_552 : Cond.methodLink "ExactMeshLaw" 30 y_R_turn ∈ ec_tbl := ec_in (List.mem_append_right _ (List.mem_append_right _ (List.mem_append_right _ (List.mem_of_getElem? (i := 72) rfl)))) rfl
theorem wd_553 : Cond.instanceMethod y_R_turn ∈ ec_tbl := ec_in (List.mem_append_right _ (List.mem_append_right _ (List.mem_append_right _ (List.mem_of_getElem? (i := 73) rfl)))) rfl
theorem wd_554 : Cond.selects "ExactMeshModel" y_R_turn y_R_turn ∈ ec_tbl := ec_in (List.mem_append_right _ (List.mem_append_right _ (List.mem_append_right _ (List.mem_of_getElem? (i := 74) rfl)))) rfl
theorem wd_555 : Cond.code y_R_turn b_R_turn 4 (some .int) ∈ ec_tbl := ec_in (List.mem_append_right _ (List.mem_append_right _ (List.mem_append_right _ (List.mem_of_getElem? (i := 75) rfl)))) rfl
theorem wd_556 : Cond.methodLink "ExactMeshLaw" 35 y_R_inCircle ∈ ec_tbl := ec_in (List.mem_append_right _ (List.mem_append_right _ (List.mem_append_right _ (List.mem_of_getElem? (i := 76) rfl)))) rfl
theorem wd_557 : Cond.instanceMethod y_R_inCircle ∈ ec_tbl := ec_in (List.mem_append_right _ (List.mem_append_right _ (List.mem_append_right _ (List.mem_of_getElem? (i := 77) rfl)))) rfl
theorem wd_558 : Cond.selects "ExactMeshModel" y_R_inCircle y_R_inCircle ∈ ec_tbl := ec_in (List.mem_append_right _ (List.mem_append_right _ (List.mem_append_right _ (List.mem_of_getElem? (i := 78) rfl)))) rfl
theorem wd_559 : Cond.code y_R_inCircle b_R_inCircle 6 (some .int) ∈ ec_tbl := ec_in (List.mem_append_right _ (List.mem_append_right _ (List.mem_append_right _ (List.mem_of_getElem? (i := 79) rfl)))) rfl
theorem wd_560 : Cond.methodLink "ExactMeshModel" 108 y_R_turn ∈ ec_tbl := ec_in (List.mem_append_right _ (List.mem_append_right _ (List.mem_append_right _ (List.mem_of_getElem? (i := 80) rfl)))) rfl
theorem wd_561 : Cond.methodLink "ExactMeshModel" 112 y_R_circle ∈ ec_tbl := ec_in (List.mem_append_right _ (List.mem_append_right _ (List.mem_append_right _ (List.mem_of_getElem? (i := 81) rfl)))) rfl
theorem wd_563 : Cond.instanceMethod y_R_circle ∈ ec_tbl := ec_in (List.mem_append_right _ (List.mem_append_right _ (List.mem_append_right _ (List.mem_of_getElem? (i := 83) rfl)))) rfl
theorem wd_564 : Cond.code y_R_circle b_R_circle 18 (some .int) ∈ ec_tbl := ec_in (List.mem_append_right _ (List.mem_append_right _ (List.mem_append_right _ (List.mem_of_getElem? (i := 84) rfl)))) rfl
theorem wd_565 : Cond.methodLink "ExactMeshModel" 57 y_R_addProduct ∈ ec_tbl := ec_in (List.mem_append_right _ (List.mem_append_right _ (List.mem_append_right _ (List.mem_of_getElem? (i := 85) rfl)))) rfl
theorem wd_567 : Cond.instanceMethod y_R_addProduct ∈ ec_tbl := ec_in (List.mem_append_right _ (List.mem_append_right _ (List.mem_append_right _ (List.mem_of_getElem? (i := 87) rfl)))) rfl
theorem wd_568 : Cond.code y_R_addProduct b_R_addProduct 11 none ∈ ec_tbl := ec_in (List.mem_append_right _ (List.mem_append_right _ (List.mem_append_right _ (List.mem_of_getElem? (i := 88) rfl)))) rfl
theorem wd_569 : Cond.constantLong "ExactMeshModel" 55 32767 ∈ ec_tbl := ec_in (List.mem_append_right _ (List.mem_append_right _ (List.mem_append_right _ (List.mem_of_getElem? (i := 89) rfl)))) rfl
theorem wd_570 : Cond.methodLink "ExactMeshModel" 61 y_R_signOfSum ∈ ec_tbl := ec_in (List.mem_append_right _ (List.mem_append_right _ (List.mem_append_right _ (List.mem_of_getElem? (i := 90) rfl)))) rfl
theorem wd_572 : Cond.instanceMethod y_R_signOfSum ∈ ec_tbl := ec_in (List.mem_append_right _ (List.mem_append_right _ (List.mem_append_right _ (List.mem_of_getElem? (i := 92) rfl)))) rfl
theorem wd_573 : Cond.code y_R_signOfSum b_R_signOfSum 3 (some .int) ∈ ec_tbl := ec_in (List.mem_append_right _ (List.mem_append_right _ (List.mem_append_right _ (List.mem_of_getElem? (i := 93) rfl)))) rfl
theorem wd_574 : Cond.methodLink "ExactMeshLaw" 40 y_R_build ∈ ec_tbl := ec_in (List.mem_append_right _ (List.mem_append_right _ (List.mem_append_right _ (List.mem_of_getElem? (i := 94) rfl)))) rfl
theorem wd_575 : Cond.instanceMethod y_R_build ∈ ec_tbl := ec_in (List.mem_append_right _ (List.mem_append_right _ (List.mem_append_right _ (List.mem_of_getElem? (i := 95) rfl)))) rfl
theorem wd_576 : Cond.selects "ExactMeshModel" y_R_build y_R_build ∈ ec_tbl := ec_in (List.mem_append_right _ (List.mem_append_right _ (List.mem_append_right _ (List.mem_of_getElem? (i := 96) rfl)))) rfl
theorem wd_577 : Cond.code y_R_build b_R_build 7 (some .int) ∈ ec_tbl := ec_in (List.mem_append_right _ (List.mem_append_right _ (List.mem_append_right _ (List.mem_of_getElem? (i := 97) rfl)))) rfl
theorem wd_578 : Cond.methodLink "ExactMeshModel" 153 y_R_fill ∈ ec_tbl := ec_in (List.mem_append_right _ (List.mem_append_right _ (List.mem_append_right _ (List.mem_of_getElem? (i := 98) rfl)))) rfl
theorem wd_580 : Cond.instanceMethod y_R_fill ∈ ec_tbl := ec_in (List.mem_append_right _ (List.mem_append_right _ (List.mem_append_right _ (List.mem_of_getElem? (i := 100) rfl)))) rfl
theorem wd_581 : Cond.code y_R_fill b_R_fill 3 none ∈ ec_tbl := ec_in (List.mem_append_right _ (List.mem_append_right _ (List.mem_append_right _ (List.mem_of_getElem? (i := 101) rfl)))) rfl
theorem wd_582 : Cond.methodLink "ExactMeshModel" 133 y_R_onHull ∈ ec_tbl := ec_in (List.mem_append_right _ (List.mem_append_right _ (List.mem_append_right _ (List.mem_of_getElem? (i := 102) rfl)))) rfl
theorem wd_584 : Cond.instanceMethod y_R_onHull ∈ ec_tbl := ec_in (List.mem_append_right _ (List.mem_append_right _ (List.mem_append_right _ (List.mem_of_getElem? (i := 104) rfl)))) rfl
theorem wd_585 : Cond.code y_R_onHull b_R_onHull 8 (some .boolean) ∈ ec_tbl := ec_in (List.mem_append_right _ (List.mem_append_right _ (List.mem_append_right _ (List.mem_of_getElem? (i := 105) rfl)))) rfl
theorem wd_586 : Cond.methodLink "ExactMeshModel" 136 y_R_grow ∈ ec_tbl := ec_in (List.mem_append_right _ (List.mem_append_right _ (List.mem_append_right _ (List.mem_of_getElem? (i := 106) rfl)))) rfl
theorem wd_588 : Cond.instanceMethod y_R_grow ∈ ec_tbl := ec_in (List.mem_append_right _ (List.mem_append_right _ (List.mem_append_right _ (List.mem_of_getElem? (i := 108) rfl)))) rfl
theorem wd_589 : Cond.code y_R_grow b_R_grow 4 none ∈ ec_tbl := ec_in (List.mem_append_right _ (List.mem_append_right _ (List.mem_append_right _ (List.mem_of_getElem? (i := 109) rfl)))) rfl
theorem wd_590 : Cond.methodLink "ExactMeshModel" 126 y_R_third ∈ ec_tbl := ec_in (List.mem_append_right _ (List.mem_append_right _ (List.mem_append_right _ (List.mem_of_getElem? (i := 110) rfl)))) rfl
theorem wd_592 : Cond.instanceMethod y_R_third ∈ ec_tbl := ec_in (List.mem_append_right _ (List.mem_append_right _ (List.mem_append_right _ (List.mem_of_getElem? (i := 112) rfl)))) rfl
theorem wd_593 : Cond.code y_R_third b_R_third 10 (some .int) ∈ ec_tbl := ec_in (List.mem_append_right _ (List.mem_append_right _ (List.mem_append_right _ (List.mem_of_getElem? (i := 113) rfl)))) rfl
theorem wd_594 : Cond.methodLink "ExactMeshModel" 120 y_R_canBe ∈ ec_tbl := ec_in (List.mem_append_right _ (List.mem_append_right _ (List.mem_append_right _ (List.mem_of_getElem? (i := 114) rfl)))) rfl
theorem wd_596 : Cond.instanceMethod y_R_canBe ∈ ec_tbl := ec_in (List.mem_append_right _ (List.mem_append_right _ (List.mem_append_right _ (List.mem_of_getElem? (i := 116) rfl)))) rfl
theorem wd_597 : Cond.code y_R_canBe b_R_canBe 4 (some .boolean) ∈ ec_tbl := ec_in (List.mem_append_right _ (List.mem_append_right _ (List.mem_append_right _ (List.mem_of_getElem? (i := 117) rfl)))) rfl
theorem wd_598 : Cond.methodLink "ExactMeshModel" 116 y_R_clear ∈ ec_tbl := ec_in (List.mem_append_right _ (List.mem_append_right _ (List.mem_append_right _ (List.mem_of_getElem? (i := 118) rfl)))) rfl
theorem wd_600 : Cond.instanceMethod y_R_clear ∈ ec_tbl := ec_in (List.mem_append_right _ (List.mem_append_right _ (List.mem_append_right _ (List.mem_of_getElem? (i := 120) rfl)))) rfl
theorem wd_601 : Cond.code y_R_clear b_R_clear 6 (some .boolean) ∈ ec_tbl := ec_in (List.mem_append_right _ (List.mem_append_right _ (List.mem_append_right _ (List.mem_of_getElem? (i := 121) rfl)))) rfl
theorem wd_602 : Cond.methodLink "ExactMeshModel" 130 y_R_has ∈ ec_tbl := ec_in (List.mem_append_right _ (List.mem_append_right _ (List.mem_append_right _ (List.mem_of_getElem? (i := 122) rfl)))) rfl
theorem wd_604 : Cond.instanceMethod y_R_has ∈ ec_tbl := ec_in (List.mem_append_right _ (List.mem_append_right _ (List.mem_append_right _ (List.mem_of_getElem? (i := 124) rfl)))) rfl
theorem wd_605 : Cond.code y_R_has b_R_has 7 (some .boolean) ∈ ec_tbl := ec_in (List.mem_append_right _ (List.mem_append_right _ (List.mem_append_right _ (List.mem_of_getElem? (i := 125) rfl)))) rfl
theorem wd_606 : Cond.methodLink "ExactMeshModel" 156 y_R_carve ∈ ec_tbl := ec_in (List.mem_append_right _ (List.mem_append_right _ (List.mem_append_right _ (List.mem_of_getElem? (i := 126) rfl)))) rfl
theorem wd_608 : Cond.instanceMethod y_R_carve ∈ ec_tbl := ec_in (List.mem_append_right _ (List.mem_append_right _ (List.mem_append_right _ (List.mem_of_getElem? (i := 128) rfl)))) rfl
theorem wd_609 : Cond.code y_R_carve b_R_carve 5 none ∈ ec_tbl := ec_in (List.mem_append_right _ (List.mem_append_right _ (List.mem_append_right _ (List.mem_of_getElem? (i := 129) rfl)))) rfl
theorem wd_610 : Cond.methodLink "ExactMeshModel" 143 y_R_inside ∈ ec_tbl := ec_in (List.mem_append_right _ (List.mem_append_right _ (List.mem_append_right _ (List.mem_of_getElem? (i := 130) rfl)))) rfl
theorem wd_612 : Cond.instanceMethod y_R_inside ∈ ec_tbl := ec_in (List.mem_append_right _ (List.mem_append_right _ (List.mem_append_right _ (List.mem_of_getElem? (i := 132) rfl)))) rfl
theorem wd_613 : Cond.code y_R_inside b_R_inside 8 (some .boolean) ∈ ec_tbl := ec_in (List.mem_append_right _ (List.mem_append_right _ (List.mem_append_right _ (List.mem_of_getElem? (i := 133) rfl)))) rfl
theorem wd_614 : Cond.methodLink "ExactMeshModel" 147 y_R_open ∈ ec_tbl := ec_in (List.mem_append_right _ (List.mem_append_right _ (List.mem_append_right _ (List.mem_of_getElem? (i := 134) rfl)))) rfl
theorem wd_616 : Cond.instanceMethod y_R_open ∈ ec_tbl := ec_in (List.mem_append_right _ (List.mem_append_right _ (List.mem_append_right _ (List.mem_of_getElem? (i := 136) rfl)))) rfl
theorem wd_617 : Cond.code y_R_open b_R_open 3 (some .boolean) ∈ ec_tbl := ec_in (List.mem_append_right _ (List.mem_append_right _ (List.mem_append_right _ (List.mem_of_getElem? (i := 137) rfl)))) rfl
theorem wd_618 : Cond.methodLink "ExactMeshModel" 140 y_R_leftOf ∈ ec_tbl := ec_in (List.mem_append_right _ (List.mem_append_right _ (List.mem_append_right _ (List.mem_of_getElem? (i := 138) rfl)))) rfl
theorem wd_620 : Cond.instanceMethod y_R_leftOf ∈ ec_tbl := ec_in (List.mem_append_right _ (List.mem_append_right _ (List.mem_append_right _ (List.mem_of_getElem? (i := 140) rfl)))) rfl
theorem wd_621 : Cond.code y_R_leftOf b_R_leftOf 6 (some .int) ∈ ec_tbl := ec_in (List.mem_append_right _ (List.mem_append_right _ (List.mem_append_right _ (List.mem_of_getElem? (i := 141) rfl)))) rfl
theorem wd_622 : Cond.methodLink "ExactMeshModel" 150 y_R_next ∈ ec_tbl := ec_in (List.mem_append_right _ (List.mem_append_right _ (List.mem_append_right _ (List.mem_of_getElem? (i := 142) rfl)))) rfl
theorem wd_624 : Cond.instanceMethod y_R_next ∈ ec_tbl := ec_in (List.mem_append_right _ (List.mem_append_right _ (List.mem_append_right _ (List.mem_of_getElem? (i := 144) rfl)))) rfl
theorem wd_625 : Cond.code y_R_next b_R_next 4 (some .boolean) ∈ ec_tbl := ec_in (List.mem_append_right _ (List.mem_append_right _ (List.mem_append_right _ (List.mem_of_getElem? (i := 145) rfl)))) rfl
theorem wd_626 : Cond.methodLink "ExactMeshModel" 163 y_R_keep ∈ ec_tbl := ec_in (List.mem_append_right _ (List.mem_append_right _ (List.mem_append_right _ (List.mem_of_getElem? (i := 146) rfl)))) rfl
theorem wd_628 : Cond.instanceMethod y_R_keep ∈ ec_tbl := ec_in (List.mem_append_right _ (List.mem_append_right _ (List.mem_append_right _ (List.mem_of_getElem? (i := 148) rfl)))) rfl
theorem wd_629 : Cond.code y_R_keep b_R_keep 4 none ∈ ec_tbl := ec_in (List.mem_append_right _ (List.mem_append_right _ (List.mem_append_right _ (List.mem_of_getElem? (i := 149) rfl)))) rfl
theorem wd_630 : Cond.methodLink "ExactMeshLaw" 45 y_R_triangles ∈ ec_tbl := ec_in (List.mem_append_right _ (List.mem_append_right _ (List.mem_append_right _ (List.mem_of_getElem? (i := 150) rfl)))) rfl
theorem wd_631 : Cond.instanceMethod y_R_triangles ∈ ec_tbl := ec_in (List.mem_append_right _ (List.mem_append_right _ (List.mem_append_right _ (List.mem_of_getElem? (i := 151) rfl)))) rfl
theorem wd_632 : Cond.selects "ExactMeshModel" y_R_triangles y_R_triangles ∈ ec_tbl := ec_in (List.mem_append_right _ (List.mem_append_right _ (List.mem_append_right _ (List.mem_of_getElem? (i := 152) rfl)))) rfl
theorem wd_633 : Cond.code y_R_triangles b_R_triangles 1 (some .int) ∈ ec_tbl := ec_in (List.mem_append_right _ (List.mem_append_right _ (List.mem_append_right _ (List.mem_of_getElem? (i := 153) rfl)))) rfl
theorem wd_634 : Cond.methodLink "ExactMeshLaw" 49 y_R_corner ∈ ec_tbl := ec_in (List.mem_append_right _ (List.mem_append_right _ (List.mem_append_right _ (List.mem_of_getElem? (i := 154) rfl)))) rfl
theorem wd_635 : Cond.instanceMethod y_R_corner ∈ ec_tbl := ec_in (List.mem_append_right _ (List.mem_append_right _ (List.mem_append_right _ (List.mem_of_getElem? (i := 155) rfl)))) rfl
theorem wd_636 : Cond.selects "ExactMeshModel" y_R_corner y_R_corner ∈ ec_tbl := ec_in (List.mem_append_right _ (List.mem_append_right _ (List.mem_append_right _ (List.mem_of_getElem? (i := 156) rfl)))) rfl
theorem wd_637 : Cond.code y_R_corner b_R_corner 3 (some .int) ∈ ec_tbl := ec_in (List.mem_append_right _ (List.mem_append_right _ (List.mem_append_right _ (List.mem_of_getElem? (i := 157) rfl)))) rfl
theorem wd_638 : Cond.methodLink "ExactMeshModel" 167 y_R_isCorner ∈ ec_tbl := ec_in (List.mem_append_right _ (List.mem_append_right _ (List.mem_append_right _ (List.mem_of_getElem? (i := 158) rfl)))) rfl
theorem wd_640 : Cond.instanceMethod y_R_isCorner ∈ ec_tbl := ec_in (List.mem_append_right _ (List.mem_append_right _ (List.mem_append_right _ (List.mem_of_getElem? (i := 160) rfl)))) rfl
theorem wd_641 : Cond.code y_R_isCorner b_R_isCorner 3 (some .boolean) ∈ ec_tbl := ec_in (List.mem_append_right _ (List.mem_append_right _ (List.mem_append_right _ (List.mem_of_getElem? (i := 161) rfl)))) rfl
theorem wd_642 : Cond.methodLink "ExactMeshLaw" 53 y_R_across ∈ ec_tbl := ec_in (List.mem_append_right _ (List.mem_append_right _ (List.mem_append_right _ (List.mem_of_getElem? (i := 162) rfl)))) rfl
theorem wd_643 : Cond.instanceMethod y_R_across ∈ ec_tbl := ec_in (List.mem_append_right _ (List.mem_append_right _ (List.mem_append_right _ (List.mem_of_getElem? (i := 163) rfl)))) rfl
theorem wd_644 : Cond.selects "ExactMeshModel" y_R_across y_R_across ∈ ec_tbl := ec_in (List.mem_append_right _ (List.mem_append_right _ (List.mem_append_right _ (List.mem_of_getElem? (i := 164) rfl)))) rfl
theorem wd_645 : Cond.code y_R_across b_R_across 7 (some .int) ∈ ec_tbl := ec_in (List.mem_append_right _ (List.mem_append_right _ (List.mem_append_right _ (List.mem_of_getElem? (i := 165) rfl)))) rfl
theorem wd_646 : Cond.methodLink "ExactMeshLaw" 58 y_R_fixed ∈ ec_tbl := ec_in (List.mem_append_right _ (List.mem_append_right _ (List.mem_append_right _ (List.mem_of_getElem? (i := 166) rfl)))) rfl
theorem wd_647 : Cond.instanceMethod y_R_fixed ∈ ec_tbl := ec_in (List.mem_append_right _ (List.mem_append_right _ (List.mem_append_right _ (List.mem_of_getElem? (i := 167) rfl)))) rfl
theorem wd_648 : Cond.selects "ExactMeshModel" y_R_fixed y_R_fixed ∈ ec_tbl := ec_in (List.mem_append_right _ (List.mem_append_right _ (List.mem_append_right _ (List.mem_of_getElem? (i := 168) rfl)))) rfl
theorem wd_649 : Cond.code y_R_fixed b_R_fixed 3 (some .boolean) ∈ ec_tbl := ec_in (List.mem_append_right _ (List.mem_append_right _ (List.mem_append_right _ (List.mem_of_getElem? (i := 169) rfl)))) rfl
theorem wd_650 : Cond.methodLink "ExactMeshLaw" 62 y_R_locate ∈ ec_tbl := ec_in (List.mem_append_right _ (List.mem_append_right _ (List.mem_append_right _ (List.mem_of_getElem? (i := 170) rfl)))) rfl
theorem wd_651 : Cond.instanceMethod y_R_locate ∈ ec_tbl := ec_in (List.mem_append_right _ (List.mem_append_right _ (List.mem_append_right _ (List.mem_of_getElem? (i := 171) rfl)))) rfl
theorem wd_652 : Cond.selects "ExactMeshModel" y_R_locate y_R_locate ∈ ec_tbl := ec_in (List.mem_append_right _ (List.mem_append_right _ (List.mem_append_right _ (List.mem_of_getElem? (i := 172) rfl)))) rfl
theorem wd_653 : Cond.code y_R_locate b_R_locate 4 (some .int) ∈ ec_tbl := ec_in (List.mem_append_right _ (List.mem_append_right _ (List.mem_append_right _ (List.mem_of_getElem? (i := 173) rfl)))) rfl
theorem wd_654 : Cond.methodLink "ExactMeshLaw" 67 y_R_degree ∈ ec_tbl := ec_in (List.mem_append_right _ (List.mem_append_right _ (List.mem_append_right _ (List.mem_of_getElem? (i := 174) rfl)))) rfl
theorem wd_655 : Cond.instanceMethod y_R_degree ∈ ec_tbl := ec_in (List.mem_append_right _ (List.mem_append_right _ (List.mem_append_right _ (List.mem_of_getElem? (i := 175) rfl)))) rfl
theorem wd_656 : Cond.selects "ExactMeshModel" y_R_degree y_R_degree ∈ ec_tbl := ec_in (List.mem_append_right _ (List.mem_append_right _ (List.mem_append_right _ (List.mem_of_getElem? (i := 176) rfl)))) rfl
theorem wd_657 : Cond.code y_R_degree b_R_degree 4 (some .int) ∈ ec_tbl := ec_in (List.mem_append_right _ (List.mem_append_right _ (List.mem_append_right _ (List.mem_of_getElem? (i := 177) rfl)))) rfl
theorem wd_658 : Cond.methodLink "ExactMeshLaw" 72 y_R_area ∈ ec_tbl := ec_in (List.mem_append_right _ (List.mem_append_right _ (List.mem_append_right _ (List.mem_of_getElem? (i := 178) rfl)))) rfl
theorem wd_659 : Cond.instanceMethod y_R_area ∈ ec_tbl := ec_in (List.mem_append_right _ (List.mem_append_right _ (List.mem_append_right _ (List.mem_of_getElem? (i := 179) rfl)))) rfl
theorem wd_660 : Cond.selects "ExactMeshModel" y_R_area y_R_area ∈ ec_tbl := ec_in (List.mem_append_right _ (List.mem_append_right _ (List.mem_append_right _ (List.mem_of_getElem? (i := 180) rfl)))) rfl
theorem wd_661 : Cond.code y_R_area b_R_area 4 (some .long) ∈ ec_tbl := ec_in (List.mem_append_right _ (List.mem_append_right _ (List.mem_append_right _ (List.mem_of_getElem? (i := 181) rfl)))) rfl
theorem wd_662 : Cond.methodLink "ExactMeshLaw" 76 y_R_border ∈ ec_tbl := ec_in (List.mem_append_right _ (List.mem_append_right _ (List.mem_append_right _ (List.mem_of_getElem? (i := 182) rfl)))) rfl
theorem wd_663 : Cond.instanceMethod y_R_border ∈ ec_tbl := ec_in (List.mem_append_right _ (List.mem_append_right _ (List.mem_append_right _ (List.mem_of_getElem? (i := 183) rfl)))) rfl
theorem wd_664 : Cond.selects "ExactMeshModel" y_R_border y_R_border ∈ ec_tbl := ec_in (List.mem_append_right _ (List.mem_append_right _ (List.mem_append_right _ (List.mem_of_getElem? (i := 184) rfl)))) rfl
theorem wd_665 : Cond.code y_R_border b_R_border 3 (some .int) ∈ ec_tbl := ec_in (List.mem_append_right _ (List.mem_append_right _ (List.mem_append_right _ (List.mem_of_getElem? (i := 185) rfl)))) rfl
theorem wd_666 : Cond.methodLink "ExactMeshModel" 170 y_R_across ∈ ec_tbl := ec_in (List.mem_append_right _ (List.mem_append_right _ (List.mem_append_right _ (List.mem_of_getElem? (i := 186) rfl)))) rfl
theorem wd_667 : Cond.methodLink "ExactMeshLaw" 80 y_R_vertices ∈ ec_tbl := ec_in (List.mem_append_right _ (List.mem_append_right _ (List.mem_append_right _ (List.mem_of_getElem? (i := 187) rfl)))) rfl
theorem wd_668 : Cond.instanceMethod y_R_vertices ∈ ec_tbl := ec_in (List.mem_append_right _ (List.mem_append_right _ (List.mem_append_right _ (List.mem_of_getElem? (i := 188) rfl)))) rfl
theorem wd_669 : Cond.selects "ExactMeshModel" y_R_vertices y_R_vertices ∈ ec_tbl := ec_in (List.mem_append_right _ (List.mem_append_right _ (List.mem_append_right _ (List.mem_of_getElem? (i := 189) rfl)))) rfl
theorem wd_670 : Cond.code y_R_vertices b_R_vertices 1 (some .int) ∈ ec_tbl := ec_in (List.mem_append_right _ (List.mem_append_right _ (List.mem_append_right _ (List.mem_of_getElem? (i := 190) rfl)))) rfl
theorem wd_671 : Cond.methodLink "ExactMeshLaw" 84 y_R_segments ∈ ec_tbl := ec_in (List.mem_append_right _ (List.mem_append_right _ (List.mem_append_right _ (List.mem_of_getElem? (i := 191) rfl)))) rfl
theorem wd_672 : Cond.instanceMethod y_R_segments ∈ ec_tbl := ec_in (List.mem_append_right _ (List.mem_append_right _ (List.mem_append_right _ (List.mem_of_getElem? (i := 192) rfl)))) rfl
theorem wd_673 : Cond.selects "ExactMeshModel" y_R_segments y_R_segments ∈ ec_tbl := ec_in (List.mem_append_right _ (List.mem_append_right _ (List.mem_append_right _ (List.mem_of_getElem? (i := 193) rfl)))) rfl
theorem wd_674 : Cond.code y_R_segments b_R_segments 1 (some .int) ∈ ec_tbl := ec_in (List.mem_append_right _ (List.mem_append_right _ (List.mem_append_right _ (List.mem_of_getElem? (i := 194) rfl)))) rfl
theorem wd_675 : Cond.methodLink "ExactMeshLaw" 88 y_R_place ∈ ec_tbl := ec_in (List.mem_append_right _ (List.mem_append_right _ (List.mem_append_right _ (List.mem_of_getElem? (i := 195) rfl)))) rfl
theorem wd_676 : Cond.instanceMethod y_R_place ∈ ec_tbl := ec_in (List.mem_append_right _ (List.mem_append_right _ (List.mem_append_right _ (List.mem_of_getElem? (i := 196) rfl)))) rfl
theorem wd_677 : Cond.selects "ExactMeshModel" y_R_place y_R_place ∈ ec_tbl := ec_in (List.mem_append_right _ (List.mem_append_right _ (List.mem_append_right _ (List.mem_of_getElem? (i := 197) rfl)))) rfl
theorem wd_678 : Cond.code y_R_place b_R_place 3 (some .int) ∈ ec_tbl := ec_in (List.mem_append_right _ (List.mem_append_right _ (List.mem_append_right _ (List.mem_of_getElem? (i := 198) rfl)))) rfl
theorem ws_0 : Cond.selects "ExactMesh$Points" y_P_squareDistance y_P_squareDistance ∈ ec_tbl := ec_in (List.mem_append_left _ (List.mem_map.mpr ⟨(y_P_squareDistance, _), List.mem_of_getElem? (i := 0) rfl, rfl⟩)) rfl
theorem ws_1 : Cond.selects "ExactMesh$FullMesh" y_F_hasRoom y_F_hasRoom ∈ ec_tbl := ec_in (List.mem_append_left _ (List.mem_map.mpr ⟨(y_F_hasRoom, _), List.mem_of_getElem? (i := 1) rfl, rfl⟩)) rfl
theorem ws_2 : Cond.selects "ExactMesh$FullMesh" y_F_findTrianglesAt y_F_findTrianglesAt ∈ ec_tbl := ec_in (List.mem_append_left _ (List.mem_map.mpr ⟨(y_F_findTrianglesAt, _), List.mem_of_getElem? (i := 2) rfl, rfl⟩)) rfl
theorem ws_3 : Cond.selects "ExactMesh$FullMesh" y_F_setIfEmpty y_F_setIfEmpty ∈ ec_tbl := ec_in (List.mem_append_left _ (List.mem_map.mpr ⟨(y_F_setIfEmpty, _), List.mem_of_getElem? (i := 3) rfl, rfl⟩)) rfl
theorem ws_4 : Cond.selects "ExactMesh$FullMesh" y_F_setTriangle y_F_setTriangle ∈ ec_tbl := ec_in (List.mem_append_left _ (List.mem_map.mpr ⟨(y_F_setTriangle, _), List.mem_of_getElem? (i := 4) rfl, rfl⟩)) rfl
theorem ws_5 : Cond.selects "ExactMesh$FullMesh" y_F_setThird y_F_setThird ∈ ec_tbl := ec_in (List.mem_append_left _ (List.mem_map.mpr ⟨(y_F_setThird, _), List.mem_of_getElem? (i := 5) rfl, rfl⟩)) rfl
theorem ws_6 : Cond.selects "ExactMesh$FullMesh" y_F_flipBadSides y_F_flipBadSides ∈ ec_tbl := ec_in (List.mem_append_left _ (List.mem_map.mpr ⟨(y_F_flipBadSides, _), List.mem_of_getElem? (i := 6) rfl, rfl⟩)) rfl
theorem ws_7 : Cond.selects "ExactMesh$FullMesh" y_F_isBad y_F_isBad ∈ ec_tbl := ec_in (List.mem_append_left _ (List.mem_map.mpr ⟨(y_F_isBad, _), List.mem_of_getElem? (i := 7) rfl, rfl⟩)) rfl
theorem ws_8 : Cond.selects "ExactMesh$FullMesh" y_F_flip y_F_flip ∈ ec_tbl := ec_in (List.mem_append_left _ (List.mem_map.mpr ⟨(y_F_flip, _), List.mem_of_getElem? (i := 8) rfl, rfl⟩)) rfl
theorem ws_9 : Cond.selects "ExactMesh$CarvedMesh" y_M_clear y_M_clear ∈ ec_tbl := ec_in (List.mem_append_left _ (List.mem_map.mpr ⟨(y_M_clear, _), List.mem_of_getElem? (i := 9) rfl, rfl⟩)) rfl
theorem ws_10 : Cond.selects "ExactMesh$CarvedMesh" y_M_add y_M_add ∈ ec_tbl := ec_in (List.mem_append_left _ (List.mem_map.mpr ⟨(y_M_add, _), List.mem_of_getElem? (i := 10) rfl, rfl⟩)) rfl
theorem ws_11 : Cond.selects "ExactMesh$CarvedMesh" y_M_endOf y_M_endOf ∈ ec_tbl := ec_in (List.mem_append_left _ (List.mem_map.mpr ⟨(y_M_endOf, _), List.mem_of_getElem? (i := 11) rfl, rfl⟩)) rfl
theorem ws_12 : Cond.selects "ExactMesh$CarvedMesh" y_M_isBesideMarked y_M_isBesideMarked ∈ ec_tbl := ec_in (List.mem_append_left _ (List.mem_map.mpr ⟨(y_M_isBesideMarked, _), List.mem_of_getElem? (i := 12) rfl, rfl⟩)) rfl
theorem ws_13 : Cond.selects "ExactMeshModel" y_R_on y_R_on ∈ ec_tbl := ec_in (List.mem_append_left _ (List.mem_map.mpr ⟨(y_R_on, _), List.mem_of_getElem? (i := 13) rfl, rfl⟩)) rfl
theorem ws_14 : Cond.selects "ExactMeshModel" y_R_side y_R_side ∈ ec_tbl := ec_in (List.mem_append_left _ (List.mem_map.mpr ⟨(y_R_side, _), List.mem_of_getElem? (i := 14) rfl, rfl⟩)) rfl
theorem ws_15 : Cond.selects "ExactMeshModel" y_R_isPoint y_R_isPoint ∈ ec_tbl := ec_in (List.mem_append_left _ (List.mem_map.mpr ⟨(y_R_isPoint, _), List.mem_of_getElem? (i := 15) rfl, rfl⟩)) rfl
theorem ws_16 : Cond.selects "ExactMeshModel" y_R_isLine y_R_isLine ∈ ec_tbl := ec_in (List.mem_append_left _ (List.mem_map.mpr ⟨(y_R_isLine, _), List.mem_of_getElem? (i := 16) rfl, rfl⟩)) rfl
theorem ws_17 : Cond.selects "ExactMeshModel" y_R_crosses y_R_crosses ∈ ec_tbl := ec_in (List.mem_append_left _ (List.mem_map.mpr ⟨(y_R_crosses, _), List.mem_of_getElem? (i := 17) rfl, rfl⟩)) rfl
theorem ws_18 : Cond.selects "ExactMeshModel" y_R_of y_R_of ∈ ec_tbl := ec_in (List.mem_append_left _ (List.mem_map.mpr ⟨(y_R_of, _), List.mem_of_getElem? (i := 18) rfl, rfl⟩)) rfl
theorem ws_19 : Cond.selects "ExactMeshModel" y_R_circle y_R_circle ∈ ec_tbl := ec_in (List.mem_append_left _ (List.mem_map.mpr ⟨(y_R_circle, _), List.mem_of_getElem? (i := 19) rfl, rfl⟩)) rfl
theorem ws_20 : Cond.selects "ExactMeshModel" y_R_addProduct y_R_addProduct ∈ ec_tbl := ec_in (List.mem_append_left _ (List.mem_map.mpr ⟨(y_R_addProduct, _), List.mem_of_getElem? (i := 20) rfl, rfl⟩)) rfl
theorem ws_21 : Cond.selects "ExactMeshModel" y_R_signOfSum y_R_signOfSum ∈ ec_tbl := ec_in (List.mem_append_left _ (List.mem_map.mpr ⟨(y_R_signOfSum, _), List.mem_of_getElem? (i := 21) rfl, rfl⟩)) rfl
theorem ws_22 : Cond.selects "ExactMeshModel" y_R_fill y_R_fill ∈ ec_tbl := ec_in (List.mem_append_left _ (List.mem_map.mpr ⟨(y_R_fill, _), List.mem_of_getElem? (i := 22) rfl, rfl⟩)) rfl
theorem ws_23 : Cond.selects "ExactMeshModel" y_R_onHull y_R_onHull ∈ ec_tbl := ec_in (List.mem_append_left _ (List.mem_map.mpr ⟨(y_R_onHull, _), List.mem_of_getElem? (i := 23) rfl, rfl⟩)) rfl
theorem ws_24 : Cond.selects "ExactMeshModel" y_R_grow y_R_grow ∈ ec_tbl := ec_in (List.mem_append_left _ (List.mem_map.mpr ⟨(y_R_grow, _), List.mem_of_getElem? (i := 24) rfl, rfl⟩)) rfl
theorem ws_25 : Cond.selects "ExactMeshModel" y_R_third y_R_third ∈ ec_tbl := ec_in (List.mem_append_left _ (List.mem_map.mpr ⟨(y_R_third, _), List.mem_of_getElem? (i := 25) rfl, rfl⟩)) rfl
theorem ws_26 : Cond.selects "ExactMeshModel" y_R_canBe y_R_canBe ∈ ec_tbl := ec_in (List.mem_append_left _ (List.mem_map.mpr ⟨(y_R_canBe, _), List.mem_of_getElem? (i := 26) rfl, rfl⟩)) rfl
theorem ws_27 : Cond.selects "ExactMeshModel" y_R_clear y_R_clear ∈ ec_tbl := ec_in (List.mem_append_left _ (List.mem_map.mpr ⟨(y_R_clear, _), List.mem_of_getElem? (i := 27) rfl, rfl⟩)) rfl
theorem ws_28 : Cond.selects "ExactMeshModel" y_R_has y_R_has ∈ ec_tbl := ec_in (List.mem_append_left _ (List.mem_map.mpr ⟨(y_R_has, _), List.mem_of_getElem? (i := 28) rfl, rfl⟩)) rfl
theorem ws_29 : Cond.selects "ExactMeshModel" y_R_carve y_R_carve ∈ ec_tbl := ec_in (List.mem_append_left _ (List.mem_map.mpr ⟨(y_R_carve, _), List.mem_of_getElem? (i := 29) rfl, rfl⟩)) rfl
theorem ws_30 : Cond.selects "ExactMeshModel" y_R_inside y_R_inside ∈ ec_tbl := ec_in (List.mem_append_left _ (List.mem_map.mpr ⟨(y_R_inside, _), List.mem_of_getElem? (i := 30) rfl, rfl⟩)) rfl
theorem ws_31 : Cond.selects "ExactMeshModel" y_R_open y_R_open ∈ ec_tbl := ec_in (List.mem_append_left _ (List.mem_map.mpr ⟨(y_R_open, _), List.mem_of_getElem? (i := 31) rfl, rfl⟩)) rfl
theorem ws_32 : Cond.selects "ExactMeshModel" y_R_leftOf y_R_leftOf ∈ ec_tbl := ec_in (List.mem_append_left _ (List.mem_map.mpr ⟨(y_R_leftOf, _), List.mem_of_getElem? (i := 32) rfl, rfl⟩)) rfl
theorem ws_33 : Cond.selects "ExactMeshModel" y_R_next y_R_next ∈ ec_tbl := ec_in (List.mem_append_left _ (List.mem_map.mpr ⟨(y_R_next, _), List.mem_of_getElem? (i := 33) rfl, rfl⟩)) rfl
theorem ws_34 : Cond.selects "ExactMeshModel" y_R_keep y_R_keep ∈ ec_tbl := ec_in (List.mem_append_left _ (List.mem_map.mpr ⟨(y_R_keep, _), List.mem_of_getElem? (i := 34) rfl, rfl⟩)) rfl
theorem ws_35 : Cond.selects "ExactMeshModel" y_R_isCorner y_R_isCorner ∈ ec_tbl := ec_in (List.mem_append_left _ (List.mem_map.mpr ⟨(y_R_isCorner, _), List.mem_of_getElem? (i := 35) rfl, rfl⟩)) rfl
theorem ki_X_init : ec_Ki y_X_init b_X_init 1 0 := ⟨⟨wd_15, wd_1, ⟨by decide +kernel, by decide +kernel⟩, by decide +kernel⟩, wd_14⟩
theorem ki_F_init : ec_Ki y_F_init b_F_init 1 0 := ⟨⟨wd_23, wd_2, ⟨by decide +kernel, by decide +kernel⟩, by decide +kernel⟩, wd_22⟩
theorem ki_P_init : ec_Ki y_P_init b_P_init 2 1 := ⟨⟨wd_29, wd_3, ⟨by decide +kernel, by decide +kernel⟩, by decide +kernel⟩, wd_28⟩
theorem ki_L_init : ec_Ki y_L_init b_L_init 2 1 := ⟨⟨wd_53, wd_4, ⟨by decide +kernel, by decide +kernel⟩, by decide +kernel⟩, wd_52⟩
theorem ki_M_init : ec_Ki y_M_init b_M_init 1 0 := ⟨⟨wd_93, wd_5, ⟨by decide +kernel, by decide +kernel⟩, by decide +kernel⟩, wd_92⟩
theorem kv_X_vertex : ec_Kv "ExactMesh" y_X_vertex b_X_vertex 4 (some .int) 2 := ⟨⟨wd_132, wd_1, ⟨by decide +kernel, by decide +kernel⟩, by decide +kernel⟩, wd_130, wd_131⟩
theorem ks_X_isNear : ec_Ks y_X_isNear b_X_isNear 2 (some .boolean) 2 := ⟨⟨wd_135, wd_1, ⟨by decide +kernel, by decide +kernel⟩, by decide +kernel⟩, wd_134⟩
theorem kv_P_numberAt : ec_Kv "ExactMesh$Points" y_P_numberAt b_P_numberAt 4 (some .int) 2 := ⟨⟨wd_141, wd_3, ⟨by decide +kernel, by decide +kernel⟩, by decide +kernel⟩, wd_139, wd_140⟩
theorem kv_P_isFull : ec_Kv "ExactMesh$Points" y_P_isFull b_P_isFull 1 (some .boolean) 0 := ⟨⟨wd_145, wd_3, ⟨by decide +kernel, by decide +kernel⟩, by decide +kernel⟩, wd_143, wd_144⟩
theorem kv_L_anyThrough : ec_Kv "ExactMesh$Links" y_L_anyThrough b_L_anyThrough 5 (some .boolean) 3 := ⟨⟨wd_149, wd_4, ⟨by decide +kernel, by decide +kernel⟩, by decide +kernel⟩, wd_147, wd_148⟩
theorem kv_P_isBetween : ec_Kv "ExactMesh$Points" y_P_isBetween b_P_isBetween 5 (some .boolean) 4 := ⟨⟨wd_153, wd_3, ⟨by decide +kernel, by decide +kernel⟩, by decide +kernel⟩, wd_151, wd_152⟩
theorem ks_JM_min : ec_Ks y_JM_min b_JM_min 2 (some .int) 2 := ⟨⟨wd_156, wd_7, ⟨by decide +kernel, by decide +kernel⟩, by decide +kernel⟩, wd_155⟩
theorem ks_JM_max : ec_Ks y_JM_max b_JM_max 2 (some .int) 2 := ⟨⟨wd_159, wd_7, ⟨by decide +kernel, by decide +kernel⟩, by decide +kernel⟩, wd_158⟩
theorem kv_P_leftness : ec_Kv "ExactMesh$Points" y_P_leftness b_P_leftness 9 (some .long) 4 := ⟨⟨wd_163, wd_3, ⟨by decide +kernel, by decide +kernel⟩, by decide +kernel⟩, wd_161, wd_162⟩
theorem kv_P_add : ec_Kv "ExactMesh$Points" y_P_add b_P_add 3 none 2 := ⟨⟨wd_167, wd_3, ⟨by decide +kernel, by decide +kernel⟩, by decide +kernel⟩, wd_165, wd_166⟩
theorem kv_X_segment : ec_Kv "ExactMesh" y_X_segment b_X_segment 3 (some .int) 2 := ⟨⟨wd_172, wd_1, ⟨by decide +kernel, by decide +kernel⟩, by decide +kernel⟩, wd_170, wd_171⟩
theorem kv_P_has : ec_Kv "ExactMesh$Points" y_P_has b_P_has 2 (some .boolean) 1 := ⟨⟨wd_176, wd_3, ⟨by decide +kernel, by decide +kernel⟩, by decide +kernel⟩, wd_174, wd_175⟩
theorem kv_L_join : ec_Kv "ExactMesh$Links" y_L_join b_L_join 3 (some .boolean) 2 := ⟨⟨wd_180, wd_4, ⟨by decide +kernel, by decide +kernel⟩, by decide +kernel⟩, wd_178, wd_179⟩
theorem kv_L_isFull : ec_Kv "ExactMesh$Links" y_L_isFull b_L_isFull 1 (some .boolean) 0 := ⟨⟨wd_184, wd_4, ⟨by decide +kernel, by decide +kernel⟩, by decide +kernel⟩, wd_182, wd_183⟩
theorem kv_P_anyBetween : ec_Kv "ExactMesh$Points" y_P_anyBetween b_P_anyBetween 4 (some .boolean) 2 := ⟨⟨wd_188, wd_3, ⟨by decide +kernel, by decide +kernel⟩, by decide +kernel⟩, wd_186, wd_187⟩
theorem kv_L_anyCrossing : ec_Kv "ExactMesh$Links" y_L_anyCrossing b_L_anyCrossing 5 (some .boolean) 3 := ⟨⟨wd_193, wd_4, ⟨by decide +kernel, by decide +kernel⟩, by decide +kernel⟩, wd_191, wd_192⟩
theorem kv_P_areCrossing : ec_Kv "ExactMesh$Points" y_P_areCrossing b_P_areCrossing 5 (some .boolean) 4 := ⟨⟨wd_197, wd_3, ⟨by decide +kernel, by decide +kernel⟩, by decide +kernel⟩, wd_195, wd_196⟩
theorem kv_P_sideOfLine : ec_Kv "ExactMesh$Points" y_P_sideOfLine b_P_sideOfLine 4 (some .int) 3 := ⟨⟨wd_201, wd_3, ⟨by decide +kernel, by decide +kernel⟩, by decide +kernel⟩, wd_199, wd_200⟩
theorem ks_E_signOf : ec_Ks y_E_signOf b_E_signOf 2 (some .int) 1 := ⟨⟨wd_204, wd_8, ⟨by decide +kernel, by decide +kernel⟩, by decide +kernel⟩, wd_203⟩
theorem kv_L_add : ec_Kv "ExactMesh$Links" y_L_add b_L_add 3 none 2 := ⟨⟨wd_208, wd_4, ⟨by decide +kernel, by decide +kernel⟩, by decide +kernel⟩, wd_206, wd_207⟩
theorem kv_X_hole : ec_Kv "ExactMesh" y_X_hole b_X_hole 3 (some .int) 2 := ⟨⟨wd_213, wd_1, ⟨by decide +kernel, by decide +kernel⟩, by decide +kernel⟩, wd_211, wd_212⟩
theorem kv_X_turn : ec_Kv "ExactMesh" y_X_turn b_X_turn 4 (some .int) 3 := ⟨⟨wd_217, wd_1, ⟨by decide +kernel, by decide +kernel⟩, by decide +kernel⟩, wd_215, wd_216⟩
theorem kv_X_inCircle : ec_Kv "ExactMesh" y_X_inCircle b_X_inCircle 6 (some .int) 4 := ⟨⟨wd_222, wd_1, ⟨by decide +kernel, by decide +kernel⟩, by decide +kernel⟩, wd_220, wd_221⟩
theorem kv_P_sideOfCircle : ec_Kv "ExactMesh$Points" y_P_sideOfCircle b_P_sideOfCircle 5 (some .int) 4 := ⟨⟨wd_226, wd_3, ⟨by decide +kernel, by decide +kernel⟩, by decide +kernel⟩, wd_224, wd_225⟩
theorem kv_P_squareDistance : ec_Kv "ExactMesh$Points" y_P_squareDistance b_P_squareDistance 7 (some .long) 2 := ⟨⟨wd_230, wd_3, ⟨by decide +kernel, by decide +kernel⟩, by decide +kernel⟩, wd_229, ws_0⟩
theorem ks_E_signOfProducts : ec_Ks y_E_signOfProducts b_E_signOfProducts 18 (some .int) 6 := ⟨⟨wd_233, wd_8, ⟨by decide +kernel, by decide +kernel⟩, by decide +kernel⟩, wd_232⟩
theorem ks_E_upper : ec_Ks y_E_upper b_E_upper 2 (some .long) 1 := ⟨⟨wd_236, wd_8, ⟨by decide +kernel, by decide +kernel⟩, by decide +kernel⟩, wd_235⟩
theorem ks_E_mixed : ec_Ks y_E_mixed b_E_mixed 4 (some .long) 2 := ⟨⟨wd_239, wd_8, ⟨by decide +kernel, by decide +kernel⟩, by decide +kernel⟩, wd_238⟩
theorem ks_E_lower : ec_Ks y_E_lower b_E_lower 2 (some .long) 1 := ⟨⟨wd_243, wd_8, ⟨by decide +kernel, by decide +kernel⟩, by decide +kernel⟩, wd_242⟩
theorem kv_X_build : ec_Kv "ExactMesh" y_X_build b_X_build 3 (some .int) 2 := ⟨⟨wd_248, wd_1, ⟨by decide +kernel, by decide +kernel⟩, by decide +kernel⟩, wd_246, wd_247⟩
theorem kv_F_drawSides : ec_Kv "ExactMesh$FullMesh" y_F_drawSides b_F_drawSides 3 none 0 := ⟨⟨wd_252, wd_2, ⟨by decide +kernel, by decide +kernel⟩, by decide +kernel⟩, wd_250, wd_251⟩
theorem kv_L_clear : ec_Kv "ExactMesh$Links" y_L_clear b_L_clear 1 none 0 := ⟨⟨wd_256, wd_4, ⟨by decide +kernel, by decide +kernel⟩, by decide +kernel⟩, wd_254, wd_255⟩
theorem ks_JA_fill : ec_Ks y_JA_fill b_JA_fill 4 none 2 := ⟨⟨wd_259, wd_9, ⟨by decide +kernel, by decide +kernel⟩, by decide +kernel⟩, wd_258⟩
theorem kv_L_addAll : ec_Kv "ExactMesh$Links" y_L_addAll b_L_addAll 3 none 1 := ⟨⟨wd_263, wd_4, ⟨by decide +kernel, by decide +kernel⟩, by decide +kernel⟩, wd_261, wd_262⟩
theorem kv_F_hasRoom : ec_Kv "ExactMesh$FullMesh" y_F_hasRoom b_F_hasRoom 3 (some .boolean) 2 := ⟨⟨wd_268, wd_2, ⟨by decide +kernel, by decide +kernel⟩, by decide +kernel⟩, wd_267, ws_1⟩
theorem kv_F_findTriangles : ec_Kv "ExactMesh$FullMesh" y_F_findTriangles b_F_findTriangles 3 none 0 := ⟨⟨wd_276, wd_2, ⟨by decide +kernel, by decide +kernel⟩, by decide +kernel⟩, wd_274, wd_275⟩
theorem kv_F_findTrianglesAt : ec_Kv "ExactMesh$FullMesh" y_F_findTrianglesAt b_F_findTrianglesAt 4 none 2 := ⟨⟨wd_281, wd_2, ⟨by decide +kernel, by decide +kernel⟩, by decide +kernel⟩, wd_280, ws_2⟩
theorem kv_F_setIfEmpty : ec_Kv "ExactMesh$FullMesh" y_F_setIfEmpty b_F_setIfEmpty 4 none 3 := ⟨⟨wd_286, wd_2, ⟨by decide +kernel, by decide +kernel⟩, by decide +kernel⟩, wd_285, ws_3⟩
theorem kv_P_anyInside : ec_Kv "ExactMesh$Points" y_P_anyInside b_P_anyInside 5 (some .boolean) 3 := ⟨⟨wd_290, wd_3, ⟨by decide +kernel, by decide +kernel⟩, by decide +kernel⟩, wd_288, wd_289⟩
theorem kv_F_setTriangle : ec_Kv "ExactMesh$FullMesh" y_F_setTriangle b_F_setTriangle 4 none 3 := ⟨⟨wd_294, wd_2, ⟨by decide +kernel, by decide +kernel⟩, by decide +kernel⟩, wd_293, ws_4⟩
theorem kv_F_setThird : ec_Kv "ExactMesh$FullMesh" y_F_setThird b_F_setThird 4 none 3 := ⟨⟨wd_298, wd_2, ⟨by decide +kernel, by decide +kernel⟩, by decide +kernel⟩, wd_297, ws_5⟩
theorem kv_F_makeSidesGood : ec_Kv "ExactMesh$FullMesh" y_F_makeSidesGood b_F_makeSidesGood 3 none 0 := ⟨⟨wd_302, wd_2, ⟨by decide +kernel, by decide +kernel⟩, by decide +kernel⟩, wd_300, wd_301⟩
theorem kv_F_flipBadSides : ec_Kv "ExactMesh$FullMesh" y_F_flipBadSides b_F_flipBadSides 4 (some .boolean) 0 := ⟨⟨wd_306, wd_2, ⟨by decide +kernel, by decide +kernel⟩, by decide +kernel⟩, wd_305, ws_6⟩
theorem kv_F_isBad : ec_Kv "ExactMesh$FullMesh" y_F_isBad b_F_isBad 6 (some .boolean) 2 := ⟨⟨wd_310, wd_2, ⟨by decide +kernel, by decide +kernel⟩, by decide +kernel⟩, wd_309, ws_7⟩
theorem kv_F_thirdOf : ec_Kv "ExactMesh$FullMesh" y_F_thirdOf b_F_thirdOf 3 (some .int) 2 := ⟨⟨wd_314, wd_2, ⟨by decide +kernel, by decide +kernel⟩, by decide +kernel⟩, wd_312, wd_313⟩
theorem kv_F_flip : ec_Kv "ExactMesh$FullMesh" y_F_flip b_F_flip 5 none 2 := ⟨⟨wd_320, wd_2, ⟨by decide +kernel, by decide +kernel⟩, by decide +kernel⟩, wd_319, ws_8⟩
theorem kv_M_copyFrom : ec_Kv "ExactMesh$CarvedMesh" y_M_copyFrom b_M_copyFrom 5 none 1 := ⟨⟨wd_324, wd_5, ⟨by decide +kernel, by decide +kernel⟩, by decide +kernel⟩, wd_322, wd_323⟩
theorem kv_M_clear : ec_Kv "ExactMesh$CarvedMesh" y_M_clear b_M_clear 1 none 0 := ⟨⟨wd_331, wd_5, ⟨by decide +kernel, by decide +kernel⟩, by decide +kernel⟩, wd_330, ws_9⟩
theorem kv_M_add : ec_Kv "ExactMesh$CarvedMesh" y_M_add b_M_add 4 none 3 := ⟨⟨wd_337, wd_5, ⟨by decide +kernel, by decide +kernel⟩, by decide +kernel⟩, wd_336, ws_10⟩
theorem kv_M_markHoles : ec_Kv "ExactMesh$CarvedMesh" y_M_markHoles b_M_markHoles 5 none 2 := ⟨⟨wd_341, wd_5, ⟨by decide +kernel, by decide +kernel⟩, by decide +kernel⟩, wd_339, wd_340⟩
theorem kv_M_holds : ec_Kv "ExactMesh$CarvedMesh" y_M_holds b_M_holds 6 (some .boolean) 4 := ⟨⟨wd_345, wd_5, ⟨by decide +kernel, by decide +kernel⟩, by decide +kernel⟩, wd_343, wd_344⟩
theorem kv_M_cornerOf : ec_Kv "ExactMesh$CarvedMesh" y_M_cornerOf b_M_cornerOf 3 (some .int) 2 := ⟨⟨wd_349, wd_5, ⟨by decide +kernel, by decide +kernel⟩, by decide +kernel⟩, wd_347, wd_348⟩
theorem kv_M_endOf : ec_Kv "ExactMesh$CarvedMesh" y_M_endOf b_M_endOf 3 (some .int) 2 := ⟨⟨wd_353, wd_5, ⟨by decide +kernel, by decide +kernel⟩, by decide +kernel⟩, wd_352, ws_11⟩
theorem kv_M_markOutside : ec_Kv "ExactMesh$CarvedMesh" y_M_markOutside b_M_markOutside 3 none 0 := ⟨⟨wd_358, wd_5, ⟨by decide +kernel, by decide +kernel⟩, by decide +kernel⟩, wd_356, wd_357⟩
theorem kv_M_beyond : ec_Kv "ExactMesh$CarvedMesh" y_M_beyond b_M_beyond 3 (some .int) 2 := ⟨⟨wd_362, wd_5, ⟨by decide +kernel, by decide +kernel⟩, by decide +kernel⟩, wd_360, wd_361⟩
theorem kv_M_isFixed : ec_Kv "ExactMesh$CarvedMesh" y_M_isFixed b_M_isFixed 3 (some .boolean) 2 := ⟨⟨wd_366, wd_5, ⟨by decide +kernel, by decide +kernel⟩, by decide +kernel⟩, wd_364, wd_365⟩
theorem kv_M_spreadMarks : ec_Kv "ExactMesh$CarvedMesh" y_M_spreadMarks b_M_spreadMarks 4 none 0 := ⟨⟨wd_370, wd_5, ⟨by decide +kernel, by decide +kernel⟩, by decide +kernel⟩, wd_368, wd_369⟩
theorem kv_M_isBesideMarked : ec_Kv "ExactMesh$CarvedMesh" y_M_isBesideMarked b_M_isBesideMarked 4 (some .boolean) 1 := ⟨⟨wd_374, wd_5, ⟨by decide +kernel, by decide +kernel⟩, by decide +kernel⟩, wd_373, ws_12⟩
theorem kv_M_dropMarked : ec_Kv "ExactMesh$CarvedMesh" y_M_dropMarked b_M_dropMarked 3 none 0 := ⟨⟨wd_378, wd_5, ⟨by decide +kernel, by decide +kernel⟩, by decide +kernel⟩, wd_376, wd_377⟩
theorem kv_X_triangles : ec_Kv "ExactMesh" y_X_triangles b_X_triangles 1 (some .int) 0 := ⟨⟨wd_382, wd_1, ⟨by decide +kernel, by decide +kernel⟩, by decide +kernel⟩, wd_380, wd_381⟩
theorem kv_X_corner : ec_Kv "ExactMesh" y_X_corner b_X_corner 3 (some .int) 2 := ⟨⟨wd_386, wd_1, ⟨by decide +kernel, by decide +kernel⟩, by decide +kernel⟩, wd_384, wd_385⟩
theorem kv_M_hasSide : ec_Kv "ExactMesh$CarvedMesh" y_M_hasSide b_M_hasSide 3 (some .boolean) 2 := ⟨⟨wd_390, wd_5, ⟨by decide +kernel, by decide +kernel⟩, by decide +kernel⟩, wd_388, wd_389⟩
theorem kv_X_across : ec_Kv "ExactMesh" y_X_across b_X_across 3 (some .int) 2 := ⟨⟨wd_395, wd_1, ⟨by decide +kernel, by decide +kernel⟩, by decide +kernel⟩, wd_393, wd_394⟩
theorem kv_X_fixed : ec_Kv "ExactMesh" y_X_fixed b_X_fixed 3 (some .boolean) 2 := ⟨⟨wd_400, wd_1, ⟨by decide +kernel, by decide +kernel⟩, by decide +kernel⟩, wd_398, wd_399⟩
theorem kv_X_locate : ec_Kv "ExactMesh" y_X_locate b_X_locate 4 (some .int) 2 := ⟨⟨wd_405, wd_1, ⟨by decide +kernel, by decide +kernel⟩, by decide +kernel⟩, wd_403, wd_404⟩
theorem kv_X_degree : ec_Kv "ExactMesh" y_X_degree b_X_degree 2 (some .int) 1 := ⟨⟨wd_410, wd_1, ⟨by decide +kernel, by decide +kernel⟩, by decide +kernel⟩, wd_408, wd_409⟩
theorem kv_M_trianglesAt : ec_Kv "ExactMesh$CarvedMesh" y_M_trianglesAt b_M_trianglesAt 4 (some .int) 1 := ⟨⟨wd_414, wd_5, ⟨by decide +kernel, by decide +kernel⟩, by decide +kernel⟩, wd_412, wd_413⟩
theorem kv_X_area : ec_Kv "ExactMesh" y_X_area b_X_area 4 (some .long) 0 := ⟨⟨wd_418, wd_1, ⟨by decide +kernel, by decide +kernel⟩, by decide +kernel⟩, wd_416, wd_417⟩
theorem kv_M_doubleArea : ec_Kv "ExactMesh$CarvedMesh" y_M_doubleArea b_M_doubleArea 4 (some .long) 2 := ⟨⟨wd_422, wd_5, ⟨by decide +kernel, by decide +kernel⟩, by decide +kernel⟩, wd_420, wd_421⟩
theorem kv_X_border : ec_Kv "ExactMesh" y_X_border b_X_border 1 (some .int) 0 := ⟨⟨wd_426, wd_1, ⟨by decide +kernel, by decide +kernel⟩, by decide +kernel⟩, wd_424, wd_425⟩
theorem kv_M_openSides : ec_Kv "ExactMesh$CarvedMesh" y_M_openSides b_M_openSides 4 (some .int) 0 := ⟨⟨wd_430, wd_5, ⟨by decide +kernel, by decide +kernel⟩, by decide +kernel⟩, wd_428, wd_429⟩
theorem kv_X_vertices : ec_Kv "ExactMesh" y_X_vertices b_X_vertices 1 (some .int) 0 := ⟨⟨wd_434, wd_1, ⟨by decide +kernel, by decide +kernel⟩, by decide +kernel⟩, wd_432, wd_433⟩
theorem kv_X_segments : ec_Kv "ExactMesh" y_X_segments b_X_segments 1 (some .int) 0 := ⟨⟨wd_438, wd_1, ⟨by decide +kernel, by decide +kernel⟩, by decide +kernel⟩, wd_436, wd_437⟩
theorem kv_X_place : ec_Kv "ExactMesh" y_X_place b_X_place 3 (some .int) 2 := ⟨⟨wd_442, wd_1, ⟨by decide +kernel, by decide +kernel⟩, by decide +kernel⟩, wd_440, wd_441⟩
theorem ki_R_init : ec_Ki y_R_init b_R_init 1 0 := ⟨⟨wd_447, wd_6, ⟨by decide +kernel, by decide +kernel⟩, by decide +kernel⟩, wd_446⟩
theorem kv_R_vertex : ec_Kv "ExactMeshModel" y_R_vertex b_R_vertex 4 (some .int) 2 := ⟨⟨wd_508, wd_6, ⟨by decide +kernel, by decide +kernel⟩, by decide +kernel⟩, wd_506, wd_507⟩
theorem ks_R_far : ec_Ks y_R_far b_R_far 2 (some .boolean) 2 := ⟨⟨wd_511, wd_6, ⟨by decide +kernel, by decide +kernel⟩, by decide +kernel⟩, wd_510⟩
theorem kv_R_on : ec_Kv "ExactMeshModel" y_R_on b_R_on 9 (some .boolean) 4 := ⟨⟨wd_517, wd_6, ⟨by decide +kernel, by decide +kernel⟩, by decide +kernel⟩, wd_516, ws_13⟩
theorem kv_R_side : ec_Kv "ExactMeshModel" y_R_side b_R_side 7 (some .long) 4 := ⟨⟨wd_521, wd_6, ⟨by decide +kernel, by decide +kernel⟩, by decide +kernel⟩, wd_520, ws_14⟩
theorem ks_R_cross : ec_Ks y_R_cross b_R_cross 12 (some .long) 6 := ⟨⟨wd_524, wd_6, ⟨by decide +kernel, by decide +kernel⟩, by decide +kernel⟩, wd_523⟩
theorem kv_R_segment : ec_Kv "ExactMeshModel" y_R_segment b_R_segment 4 (some .int) 2 := ⟨⟨wd_528, wd_6, ⟨by decide +kernel, by decide +kernel⟩, by decide +kernel⟩, wd_526, wd_527⟩
theorem kv_R_isPoint : ec_Kv "ExactMeshModel" y_R_isPoint b_R_isPoint 2 (some .boolean) 1 := ⟨⟨wd_532, wd_6, ⟨by decide +kernel, by decide +kernel⟩, by decide +kernel⟩, wd_531, ws_15⟩
theorem kv_R_isLine : ec_Kv "ExactMeshModel" y_R_isLine b_R_isLine 5 (some .boolean) 2 := ⟨⟨wd_536, wd_6, ⟨by decide +kernel, by decide +kernel⟩, by decide +kernel⟩, wd_535, ws_16⟩
theorem kv_R_crosses : ec_Kv "ExactMeshModel" y_R_crosses b_R_crosses 5 (some .boolean) 4 := ⟨⟨wd_540, wd_6, ⟨by decide +kernel, by decide +kernel⟩, by decide +kernel⟩, wd_539, ws_17⟩
theorem kv_R_of : ec_Kv "ExactMeshModel" y_R_of b_R_of 4 (some .long) 3 := ⟨⟨wd_544, wd_6, ⟨by decide +kernel, by decide +kernel⟩, by decide +kernel⟩, wd_543, ws_18⟩
theorem ks_R_sign : ec_Ks y_R_sign b_R_sign 2 (some .int) 1 := ⟨⟨wd_547, wd_6, ⟨by decide +kernel, by decide +kernel⟩, by decide +kernel⟩, wd_546⟩
theorem kv_R_hole : ec_Kv "ExactMeshModel" y_R_hole b_R_hole 3 (some .int) 2 := ⟨⟨wd_551, wd_6, ⟨by decide +kernel, by decide +kernel⟩, by decide +kernel⟩, wd_549, wd_550⟩
theorem kv_R_turn : ec_Kv "ExactMeshModel" y_R_turn b_R_turn 4 (some .int) 3 := ⟨⟨wd_555, wd_6, ⟨by decide +kernel, by decide +kernel⟩, by decide +kernel⟩, wd_553, wd_554⟩
theorem kv_R_inCircle : ec_Kv "ExactMeshModel" y_R_inCircle b_R_inCircle 6 (some .int) 4 := ⟨⟨wd_559, wd_6, ⟨by decide +kernel, by decide +kernel⟩, by decide +kernel⟩, wd_557, wd_558⟩
theorem kv_R_circle : ec_Kv "ExactMeshModel" y_R_circle b_R_circle 18 (some .int) 4 := ⟨⟨wd_564, wd_6, ⟨by decide +kernel, by decide +kernel⟩, by decide +kernel⟩, wd_563, ws_19⟩
theorem kv_R_addProduct : ec_Kv "ExactMeshModel" y_R_addProduct b_R_addProduct 11 none 2 := ⟨⟨wd_568, wd_6, ⟨by decide +kernel, by decide +kernel⟩, by decide +kernel⟩, wd_567, ws_20⟩
theorem kv_R_signOfSum : ec_Kv "ExactMeshModel" y_R_signOfSum b_R_signOfSum 3 (some .int) 0 := ⟨⟨wd_573, wd_6, ⟨by decide +kernel, by decide +kernel⟩, by decide +kernel⟩, wd_572, ws_21⟩
theorem kv_R_build : ec_Kv "ExactMeshModel" y_R_build b_R_build 7 (some .int) 2 := ⟨⟨wd_577, wd_6, ⟨by decide +kernel, by decide +kernel⟩, by decide +kernel⟩, wd_575, wd_576⟩
theorem kv_R_fill : ec_Kv "ExactMeshModel" y_R_fill b_R_fill 3 none 0 := ⟨⟨wd_581, wd_6, ⟨by decide +kernel, by decide +kernel⟩, by decide +kernel⟩, wd_580, ws_22⟩
theorem kv_R_onHull : ec_Kv "ExactMeshModel" y_R_onHull b_R_onHull 8 (some .boolean) 2 := ⟨⟨wd_585, wd_6, ⟨by decide +kernel, by decide +kernel⟩, by decide +kernel⟩, wd_584, ws_23⟩
theorem kv_R_grow : ec_Kv "ExactMeshModel" y_R_grow b_R_grow 4 none 2 := ⟨⟨wd_589, wd_6, ⟨by decide +kernel, by decide +kernel⟩, by decide +kernel⟩, wd_588, ws_24⟩
theorem kv_R_third : ec_Kv "ExactMeshModel" y_R_third b_R_third 10 (some .int) 2 := ⟨⟨wd_593, wd_6, ⟨by decide +kernel, by decide +kernel⟩, by decide +kernel⟩, wd_592, ws_25⟩
theorem kv_R_canBe : ec_Kv "ExactMeshModel" y_R_canBe b_R_canBe 4 (some .boolean) 3 := ⟨⟨wd_597, wd_6, ⟨by decide +kernel, by decide +kernel⟩, by decide +kernel⟩, wd_596, ws_26⟩
theorem kv_R_clear : ec_Kv "ExactMeshModel" y_R_clear b_R_clear 6 (some .boolean) 3 := ⟨⟨wd_601, wd_6, ⟨by decide +kernel, by decide +kernel⟩, by decide +kernel⟩, wd_600, ws_27⟩
theorem kv_R_has : ec_Kv "ExactMeshModel" y_R_has b_R_has 7 (some .boolean) 3 := ⟨⟨wd_605, wd_6, ⟨by decide +kernel, by decide +kernel⟩, by decide +kernel⟩, wd_604, ws_28⟩
theorem kv_R_carve : ec_Kv "ExactMeshModel" y_R_carve b_R_carve 5 none 2 := ⟨⟨wd_609, wd_6, ⟨by decide +kernel, by decide +kernel⟩, by decide +kernel⟩, wd_608, ws_29⟩
theorem kv_R_inside : ec_Kv "ExactMeshModel" y_R_inside b_R_inside 8 (some .boolean) 5 := ⟨⟨wd_613, wd_6, ⟨by decide +kernel, by decide +kernel⟩, by decide +kernel⟩, wd_612, ws_30⟩
theorem kv_R_open : ec_Kv "ExactMeshModel" y_R_open b_R_open 3 (some .boolean) 2 := ⟨⟨wd_617, wd_6, ⟨by decide +kernel, by decide +kernel⟩, by decide +kernel⟩, wd_616, ws_31⟩
theorem kv_R_leftOf : ec_Kv "ExactMeshModel" y_R_leftOf b_R_leftOf 6 (some .int) 2 := ⟨⟨wd_621, wd_6, ⟨by decide +kernel, by decide +kernel⟩, by decide +kernel⟩, wd_620, ws_32⟩
theorem kv_R_next : ec_Kv "ExactMeshModel" y_R_next b_R_next 4 (some .boolean) 2 := ⟨⟨wd_625, wd_6, ⟨by decide +kernel, by decide +kernel⟩, by decide +kernel⟩, wd_624, ws_33⟩
theorem kv_R_keep : ec_Kv "ExactMeshModel" y_R_keep b_R_keep 4 none 3 := ⟨⟨wd_629, wd_6, ⟨by decide +kernel, by decide +kernel⟩, by decide +kernel⟩, wd_628, ws_34⟩
theorem kv_R_triangles : ec_Kv "ExactMeshModel" y_R_triangles b_R_triangles 1 (some .int) 0 := ⟨⟨wd_633, wd_6, ⟨by decide +kernel, by decide +kernel⟩, by decide +kernel⟩, wd_631, wd_632⟩
theorem kv_R_corner : ec_Kv "ExactMeshModel" y_R_corner b_R_corner 3 (some .int) 2 := ⟨⟨wd_637, wd_6, ⟨by decide +kernel, by decide +kernel⟩, by decide +kernel⟩, wd_635, wd_636⟩
theorem kv_R_isCorner : ec_Kv "ExactMeshModel" y_R_isCorner b_R_isCorner 3 (some .boolean) 2 := ⟨⟨wd_641, wd_6, ⟨by decide +kernel, by decide +kernel⟩, by decide +kernel⟩, wd_640, ws_35⟩
theorem kv_R_across : ec_Kv "ExactMeshModel" y_R_across b_R_across 7 (some .int) 2 := ⟨⟨wd_645, wd_6, ⟨by decide +kernel, by decide +kernel⟩, by decide +kernel⟩, wd_643, wd_644⟩
theorem kv_R_fixed : ec_Kv "ExactMeshModel" y_R_fixed b_R_fixed 3 (some .boolean) 2 := ⟨⟨wd_649, wd_6, ⟨by decide +kernel, by decide +kernel⟩, by decide +kernel⟩, wd_647, wd_648⟩
theorem kv_R_locate : ec_Kv "ExactMeshModel" y_R_locate b_R_locate 4 (some .int) 2 := ⟨⟨wd_653, wd_6, ⟨by decide +kernel, by decide +kernel⟩, by decide +kernel⟩, wd_651, wd_652⟩
theorem kv_R_degree : ec_Kv "ExactMeshModel" y_R_degree b_R_degree 4 (some .int) 1 := ⟨⟨wd_657, wd_6, ⟨by decide +kernel, by decide +kernel⟩, by decide +kernel⟩, wd_655, wd_656⟩
theorem kv_R_area : ec_Kv "ExactMeshModel" y_R_area b_R_area 4 (some .long) 0 := ⟨⟨wd_661, wd_6, ⟨by decide +kernel, by decide +kernel⟩, by decide +kernel⟩, wd_659, wd_660⟩
theorem kv_R_border : ec_Kv "ExactMeshModel" y_R_border b_R_border 3 (some .int) 0 := ⟨⟨wd_665, wd_6, ⟨by decide +kernel, by decide +kernel⟩, by decide +kernel⟩, wd_663, wd_664⟩
theorem kv_R_vertices : ec_Kv "ExactMeshModel" y_R_vertices b_R_vertices 1 (some .int) 0 := ⟨⟨wd_670, wd_6, ⟨by decide +kernel, by decide +kernel⟩, by decide +kernel⟩, wd_668, wd_669⟩
theorem kv_R_segments : ec_Kv "ExactMeshModel" y_R_segments b_R_segments 1 (some .int) 0 := ⟨⟨wd_674, wd_6, ⟨by decide +kernel, by decide +kernel⟩, by decide +kernel⟩, wd_672, wd_673⟩
theorem kv_R_place : ec_Kv "ExactMeshModel" y_R_place b_R_place 3 (some .int) 2 := ⟨⟨wd_678, wd_6, ⟨by decide +kernel, by decide +kernel⟩, by decide +kernel⟩, wd_676, wd_677⟩
