/-! names: classes, fields in the order of the slots, types, methods and their codes -/
def R_C : String := "StoreyShapes"
def F_C : u_T := fun k => match k with
  | 0 => ("StoreyShapes", "storeys", "LStoreyShapes$Storeys;", true)
  | 1 => ("StoreyShapes", "types", "LStoreyShapes$Types;", true)
  | 2 => ("StoreyShapes", "walls", "LStoreyShapes$Walls;", true)
  | 3 => ("StoreyShapes", "openings", "LStoreyShapes$Openings;", true)
  | _ => ("StoreyShapes", "history", "LStoreyShapes$History;", true)
def ty_C : Nat → FieldType := fun k => match k with
  | 0 => (.object "StoreyShapes$Storeys")
  | 1 => (.object "StoreyShapes$Types")
  | 2 => (.object "StoreyShapes$Walls")
  | 3 => (.object "StoreyShapes$Openings")
  | _ => (.object "StoreyShapes$History")
def R_H : String := "StoreyShapes$History"
def F_H : u_T := fun k => match k with
  | 0 => ("StoreyShapes$History", "kinds", "[I", true)
  | 1 => ("StoreyShapes$History", "targets", "[I", true)
  | 2 => ("StoreyShapes$History", "firsts", "[I", true)
  | 3 => ("StoreyShapes$History", "seconds", "[I", true)
  | 4 => ("StoreyShapes$History", "done", "I", false)
  | _ => ("StoreyShapes$History", "held", "I", false)
def ty_H : Nat → FieldType := fun k => match k with
  | 0 => (.array .int)
  | 1 => (.array .int)
  | 2 => (.array .int)
  | 3 => (.array .int)
  | 4 => .int
  | _ => .int
def R_O : String := "StoreyShapes$Openings"
def F_O : u_T := fun k => match k with
  | 0 => ("StoreyShapes$Openings", "walls", "[I", true)
  | 1 => ("StoreyShapes$Openings", "starts", "[I", true)
  | 2 => ("StoreyShapes$Openings", "widths", "[I", true)
  | _ => ("StoreyShapes$Openings", "count", "I", false)
def ty_O : Nat → FieldType := fun k => match k with
  | 0 => (.array .int)
  | 1 => (.array .int)
  | 2 => (.array .int)
  | _ => .int
def R_S : String := "StoreyShapes$Storeys"
def F_S : u_T := fun k => match k with
  | 0 => ("StoreyShapes$Storeys", "levels", "[I", true)
  | _ => ("StoreyShapes$Storeys", "count", "I", false)
def ty_S : Nat → FieldType := fun k => match k with
  | 0 => (.array .int)
  | _ => .int
def R_T : String := "StoreyShapes$Types"
def F_T : u_T := fun k => match k with
  | 0 => ("StoreyShapes$Types", "thicknesses", "[I", true)
  | _ => ("StoreyShapes$Types", "count", "I", false)
def ty_T : Nat → FieldType := fun k => match k with
  | 0 => (.array .int)
  | _ => .int
def R_W : String := "StoreyShapes$Walls"
def F_W : u_T := fun k => match k with
  | 0 => ("StoreyShapes$Walls", "storeys", "[I", true)
  | 1 => ("StoreyShapes$Walls", "types", "[I", true)
  | 2 => ("StoreyShapes$Walls", "x0", "[I", true)
  | 3 => ("StoreyShapes$Walls", "y0", "[I", true)
  | 4 => ("StoreyShapes$Walls", "x1", "[I", true)
  | 5 => ("StoreyShapes$Walls", "y1", "[I", true)
  | 6 => ("StoreyShapes$Walls", "gone", "[Z", true)
  | _ => ("StoreyShapes$Walls", "count", "I", false)
def ty_W : Nat → FieldType := fun k => match k with
  | 0 => (.array .int)
  | 1 => (.array .int)
  | 2 => (.array .int)
  | 3 => (.array .int)
  | 4 => (.array .int)
  | 5 => (.array .int)
  | 6 => (.array .boolean)
  | _ => .int
def R_M : String := "StoreyShapesModel"
def F_M : u_T := fun k => match k with
  | 0 => ("StoreyShapesModel", "code", "I", false)
  | 1 => ("StoreyShapesModel", "acts", "[I", true)
  | 2 => ("StoreyShapesModel", "done", "I", false)
  | 3 => ("StoreyShapesModel", "undone", "I", false)
  | 4 => ("StoreyShapesModel", "storeys", "I", false)
  | 5 => ("StoreyShapesModel", "levels", "[I", true)
  | 6 => ("StoreyShapesModel", "types", "I", false)
  | 7 => ("StoreyShapesModel", "thick", "[I", true)
  | 8 => ("StoreyShapesModel", "walls", "I", false)
  | 9 => ("StoreyShapesModel", "storeyOf", "[I", true)
  | 10 => ("StoreyShapesModel", "typeOf", "[I", true)
  | 11 => ("StoreyShapesModel", "x0", "[I", true)
  | 12 => ("StoreyShapesModel", "y0", "[I", true)
  | 13 => ("StoreyShapesModel", "x1", "[I", true)
  | 14 => ("StoreyShapesModel", "y1", "[I", true)
  | 15 => ("StoreyShapesModel", "there", "[Z", true)
  | 16 => ("StoreyShapesModel", "openings", "I", false)
  | 17 => ("StoreyShapesModel", "wallOf", "[I", true)
  | 18 => ("StoreyShapesModel", "begin", "[I", true)
  | _ => ("StoreyShapesModel", "wide", "[I", true)
def ty_M : Nat → FieldType := fun k => match k with
  | 0 => .int
  | 1 => (.array .int)
  | 2 => .int
  | 3 => .int
  | 4 => .int
  | 5 => (.array .int)
  | 6 => .int
  | 7 => (.array .int)
  | 8 => .int
  | 9 => (.array .int)
  | 10 => (.array .int)
  | 11 => (.array .int)
  | 12 => (.array .int)
  | 13 => (.array .int)
  | 14 => (.array .int)
  | 15 => (.array .boolean)
  | 16 => .int
  | 17 => (.array .int)
  | 18 => (.array .int)
  | _ => (.array .int)
def R_L : String := "StoreyShapesLaw"
abbrev b_C_init : ByteArray := prog_1_method_1_code
def y_C_init : MethodName := ⟨R_C, "<init>", "()V"⟩
abbrev b_C_storey : ByteArray := prog_1_method_2_code
def y_C_storey : MethodName := ⟨R_C, "storey", "(I)I"⟩
abbrev b_C_level : ByteArray := prog_1_method_3_code
def y_C_level : MethodName := ⟨R_C, "level", "(II)V"⟩
abbrev b_C_type : ByteArray := prog_1_method_4_code
def y_C_type : MethodName := ⟨R_C, "type", "(I)I"⟩
abbrev b_C_thickness : ByteArray := prog_1_method_5_code
def y_C_thickness : MethodName := ⟨R_C, "thickness", "(II)V"⟩
abbrev b_C_wall : ByteArray := prog_1_method_6_code
def y_C_wall : MethodName := ⟨R_C, "wall", "(IIIIII)I"⟩
abbrev b_C_move : ByteArray := prog_1_method_7_code
def y_C_move : MethodName := ⟨R_C, "move", "(III)V"⟩
abbrev b_C_retype : ByteArray := prog_1_method_8_code
def y_C_retype : MethodName := ⟨R_C, "retype", "(II)V"⟩
abbrev b_C_remove : ByteArray := prog_1_method_9_code
def y_C_remove : MethodName := ⟨R_C, "remove", "(I)V"⟩
abbrev b_C_opening : ByteArray := prog_1_method_10_code
def y_C_opening : MethodName := ⟨R_C, "opening", "(III)I"⟩
abbrev b_C_copy : ByteArray := prog_1_method_11_code
def y_C_copy : MethodName := ⟨R_C, "copy", "(II)I"⟩
abbrev b_C_undo : ByteArray := prog_1_method_12_code
def y_C_undo : MethodName := ⟨R_C, "undo", "()Z"⟩
abbrev b_C_redo : ByteArray := prog_1_method_13_code
def y_C_redo : MethodName := ⟨R_C, "redo", "()Z"⟩
abbrev b_C_acts : ByteArray := prog_1_method_14_code
def y_C_acts : MethodName := ⟨R_C, "acts", "(I)I"⟩
abbrev b_C_many : ByteArray := prog_1_method_15_code
def y_C_many : MethodName := ⟨R_C, "many", "(I)I"⟩
abbrev b_C_wallAt : ByteArray := prog_1_method_16_code
def y_C_wallAt : MethodName := ⟨R_C, "wallAt", "(II)J"⟩
abbrev b_C_openingAt : ByteArray := prog_1_method_17_code
def y_C_openingAt : MethodName := ⟨R_C, "openingAt", "(II)I"⟩
abbrev b_C_storeyAt : ByteArray := prog_1_method_18_code
def y_C_storeyAt : MethodName := ⟨R_C, "storeyAt", "(II)J"⟩
abbrev b_C_typeAt : ByteArray := prog_1_method_19_code
def y_C_typeAt : MethodName := ⟨R_C, "typeAt", "(II)J"⟩
abbrev b_C_body : ByteArray := prog_1_method_20_code
def y_C_body : MethodName := ⟨R_C, "body", "(IIII)I"⟩
abbrev b_C_checkStorey : ByteArray := prog_1_method_21_code
def y_C_checkStorey : MethodName := ⟨R_C, "checkStorey", "(I)V"⟩
abbrev b_C_checkLevel : ByteArray := prog_1_method_22_code
def y_C_checkLevel : MethodName := ⟨R_C, "checkLevel", "(II)V"⟩
abbrev b_C_checkType : ByteArray := prog_1_method_23_code
def y_C_checkType : MethodName := ⟨R_C, "checkType", "(I)V"⟩
abbrev b_C_checkThickness : ByteArray := prog_1_method_24_code
def y_C_checkThickness : MethodName := ⟨R_C, "checkThickness", "(I)V"⟩
abbrev b_C_checkWall : ByteArray := prog_1_method_25_code
def y_C_checkWall : MethodName := ⟨R_C, "checkWall", "(I)V"⟩
abbrev b_C_checkPlace : ByteArray := prog_1_method_26_code
def y_C_checkPlace : MethodName := ⟨R_C, "checkPlace", "(JJ)V"⟩
abbrev b_C_checkRoomForAct : ByteArray := prog_1_method_27_code
def y_C_checkRoomForAct : MethodName := ⟨R_C, "checkRoomForAct", "()V"⟩
abbrev b_C_perform : ByteArray := prog_1_method_28_code
def y_C_perform : MethodName := ⟨R_C, "perform", "(IIII)V"⟩
abbrev b_C_goForward : ByteArray := prog_1_method_29_code
def y_C_goForward : MethodName := ⟨R_C, "goForward", "()V"⟩
abbrev b_C_step : ByteArray := prog_1_method_30_code
def y_C_step : MethodName := ⟨R_C, "step", "(II)V"⟩
abbrev b_C_exchange : ByteArray := prog_1_method_31_code
def y_C_exchange : MethodName := ⟨R_C, "exchange", "(III)I"⟩
abbrev b_C_writeCopies : ByteArray := prog_1_method_32_code
def y_C_writeCopies : MethodName := ⟨R_C, "writeCopies", "(II)V"⟩
abbrev b_C_openingsOn : ByteArray := prog_1_method_33_code
def y_C_openingsOn : MethodName := ⟨R_C, "openingsOn", "(I)I"⟩
abbrev b_C_netLength : ByteArray := prog_1_method_34_code
def y_C_netLength : MethodName := ⟨R_C, "netLength", "(I)J"⟩
abbrev b_C_gainByJoin : ByteArray := prog_1_method_35_code
def y_C_gainByJoin : MethodName := ⟨R_C, "gainByJoin", "(II)I"⟩
abbrev b_C_halfThickness : ByteArray := prog_1_method_36_code
def y_C_halfThickness : MethodName := ⟨R_C, "halfThickness", "(I)I"⟩
abbrev b_C_area : ByteArray := prog_1_method_37_code
def y_C_area : MethodName := ⟨R_C, "area", "(I)J"⟩
abbrev b_C_areaOf : ByteArray := prog_1_method_38_code
def y_C_areaOf : MethodName := ⟨R_C, "areaOf", "(I)J"⟩
abbrev b_C_netLengthWith : ByteArray := prog_1_method_39_code
def y_C_netLengthWith : MethodName := ⟨R_C, "netLengthWith", "(I)J"⟩
abbrev b_C_covers : ByteArray := prog_1_method_40_code
def y_C_covers : MethodName := ⟨R_C, "covers", "(III)Z"⟩
abbrev b_M_init : ByteArray := prog_8_method_1_code
def y_M_init : MethodName := ⟨R_M, "<init>", "()V"⟩
abbrev b_M_thrown : ByteArray := prog_8_method_2_code
def y_M_thrown : MethodName := ⟨R_M, "thrown", "()I"⟩
abbrev b_M_isIn : ByteArray := prog_8_method_3_code
def y_M_isIn : MethodName := ⟨R_M, "isIn", "(JJJ)Z"⟩
abbrev b_M_isStorey : ByteArray := prog_8_method_4_code
def y_M_isStorey : MethodName := ⟨R_M, "isStorey", "(I)Z"⟩
abbrev b_M_isType : ByteArray := prog_8_method_5_code
def y_M_isType : MethodName := ⟨R_M, "isType", "(I)Z"⟩
abbrev b_M_isWall : ByteArray := prog_8_method_6_code
def y_M_isWall : MethodName := ⟨R_M, "isWall", "(I)Z"⟩
abbrev b_M_isThick : ByteArray := prog_8_method_7_code
def y_M_isThick : MethodName := ⟨R_M, "isThick", "(I)Z"⟩
abbrev b_M_isPlace : ByteArray := prog_8_method_8_code
def y_M_isPlace : MethodName := ⟨R_M, "isPlace", "(JJ)Z"⟩
abbrev b_M_goes : ByteArray := prog_8_method_9_code
def y_M_goes : MethodName := ⟨R_M, "goes", "(ZZ)Z"⟩
abbrev b_M_act : ByteArray := prog_8_method_10_code
def y_M_act : MethodName := ⟨R_M, "act", "(IIIIIII)I"⟩
abbrev b_M_add : ByteArray := prog_8_method_11_code
def y_M_add : MethodName := ⟨R_M, "add", "(IIIIII)I"⟩
abbrev b_M_cut : ByteArray := prog_8_method_12_code
def y_M_cut : MethodName := ⟨R_M, "cut", "(III)I"⟩
abbrev b_M_copied : ByteArray := prog_8_method_13_code
def y_M_copied : MethodName := ⟨R_M, "copied", "(II)I"⟩
abbrev b_M_draw : ByteArray := prog_8_method_14_code
def y_M_draw : MethodName := ⟨R_M, "draw", "(I)I"⟩
abbrev b_M_storey : ByteArray := prog_8_method_15_code
def y_M_storey : MethodName := ⟨R_M, "storey", "(I)I"⟩
abbrev b_M_level : ByteArray := prog_8_method_16_code
def y_M_level : MethodName := ⟨R_M, "level", "(II)V"⟩
abbrev b_M_type : ByteArray := prog_8_method_17_code
def y_M_type : MethodName := ⟨R_M, "type", "(I)I"⟩
abbrev b_M_thickness : ByteArray := prog_8_method_18_code
def y_M_thickness : MethodName := ⟨R_M, "thickness", "(II)V"⟩
abbrev b_M_wall : ByteArray := prog_8_method_19_code
def y_M_wall : MethodName := ⟨R_M, "wall", "(IIIIII)I"⟩
abbrev b_M_move : ByteArray := prog_8_method_20_code
def y_M_move : MethodName := ⟨R_M, "move", "(III)V"⟩
abbrev b_M_retype : ByteArray := prog_8_method_21_code
def y_M_retype : MethodName := ⟨R_M, "retype", "(II)V"⟩
abbrev b_M_remove : ByteArray := prog_8_method_22_code
def y_M_remove : MethodName := ⟨R_M, "remove", "(I)V"⟩
abbrev b_M_opening : ByteArray := prog_8_method_23_code
def y_M_opening : MethodName := ⟨R_M, "opening", "(III)I"⟩
abbrev b_M_copy : ByteArray := prog_8_method_24_code
def y_M_copy : MethodName := ⟨R_M, "copy", "(II)I"⟩
abbrev b_M_undo : ByteArray := prog_8_method_25_code
def y_M_undo : MethodName := ⟨R_M, "undo", "()Z"⟩
abbrev b_M_redo : ByteArray := prog_8_method_26_code
def y_M_redo : MethodName := ⟨R_M, "redo", "()Z"⟩
abbrev b_M_acts : ByteArray := prog_8_method_27_code
def y_M_acts : MethodName := ⟨R_M, "acts", "(I)I"⟩
abbrev b_M_size : ByteArray := prog_8_method_28_code
def y_M_size : MethodName := ⟨R_M, "size", "(I)I"⟩
abbrev b_M_length : ByteArray := prog_8_method_29_code
def y_M_length : MethodName := ⟨R_M, "length", "(I)I"⟩
abbrev b_M_isAcross : ByteArray := prog_8_method_30_code
def y_M_isAcross : MethodName := ⟨R_M, "isAcross", "(I)Z"⟩
abbrev b_M_joined : ByteArray := prog_8_method_31_code
def y_M_joined : MethodName := ⟨R_M, "joined", "(III)I"⟩
abbrev b_M_net : ByteArray := prog_8_method_32_code
def y_M_net : MethodName := ⟨R_M, "net", "(I)I"⟩
abbrev b_M_height : ByteArray := prog_8_method_33_code
def y_M_height : MethodName := ⟨R_M, "height", "(I)I"⟩
abbrev b_M_cuts : ByteArray := prog_8_method_34_code
def y_M_cuts : MethodName := ⟨R_M, "cuts", "(I)I"⟩
abbrev b_M_area : ByteArray := prog_8_method_35_code
def y_M_area : MethodName := ⟨R_M, "area", "(I)J"⟩
abbrev b_M_tells : ByteArray := prog_8_method_36_code
def y_M_tells : MethodName := ⟨R_M, "tells", "(Z)Z"⟩
abbrev b_M_many : ByteArray := prog_8_method_37_code
def y_M_many : MethodName := ⟨R_M, "many", "(I)I"⟩
abbrev b_M_wallAt : ByteArray := prog_8_method_38_code
def y_M_wallAt : MethodName := ⟨R_M, "wallAt", "(II)J"⟩
abbrev b_M_openingAt : ByteArray := prog_8_method_39_code
def y_M_openingAt : MethodName := ⟨R_M, "openingAt", "(II)I"⟩
abbrev b_M_storeyAt : ByteArray := prog_8_method_40_code
def y_M_storeyAt : MethodName := ⟨R_M, "storeyAt", "(II)J"⟩
abbrev b_M_typeAt : ByteArray := prog_8_method_41_code
def y_M_typeAt : MethodName := ⟨R_M, "typeAt", "(II)J"⟩
abbrev b_M_hasBody : ByteArray := prog_8_method_42_code
def y_M_hasBody : MethodName := ⟨R_M, "hasBody", "(III)Z"⟩
abbrev b_M_body : ByteArray := prog_8_method_43_code
def y_M_body : MethodName := ⟨R_M, "body", "(IIII)I"⟩
abbrev b_H_init : ByteArray := prog_2_method_1_code
def y_H_init : MethodName := ⟨R_H, "<init>", "()V"⟩
abbrev b_H_write : ByteArray := prog_2_method_2_code
def y_H_write : MethodName := ⟨R_H, "write", "(IIII)V"⟩
abbrev b_O_init : ByteArray := prog_3_method_1_code
def y_O_init : MethodName := ⟨R_O, "<init>", "()V"⟩
abbrev b_O_has : ByteArray := prog_3_method_2_code
def y_O_has : MethodName := ⟨R_O, "has", "(I)Z"⟩
abbrev b_O_manyOf : ByteArray := prog_3_method_3_code
def y_O_manyOf : MethodName := ⟨R_O, "manyOf", "(I)I"⟩
abbrev b_O_widthOf : ByteArray := prog_3_method_4_code
def y_O_widthOf : MethodName := ⟨R_O, "widthOf", "(I)I"⟩
abbrev b_O_overlap : ByteArray := prog_3_method_5_code
def y_O_overlap : MethodName := ⟨R_O, "overlap", "(III)Z"⟩
abbrev b_O_write : ByteArray := prog_3_method_6_code
def y_O_write : MethodName := ⟨R_O, "write", "(IIII)V"⟩
abbrev b_O_writeCopies : ByteArray := prog_3_method_7_code
def y_O_writeCopies : MethodName := ⟨R_O, "writeCopies", "(III)I"⟩
abbrev b_S_init : ByteArray := prog_4_method_1_code
def y_S_init : MethodName := ⟨R_S, "<init>", "()V"⟩
abbrev b_S_has : ByteArray := prog_4_method_2_code
def y_S_has : MethodName := ⟨R_S, "has", "(I)Z"⟩
abbrev b_S_isBetweenNeighbours : ByteArray := prog_4_method_3_code
def y_S_isBetweenNeighbours : MethodName := ⟨R_S, "isBetweenNeighbours", "(II)Z"⟩
abbrev b_S_height : ByteArray := prog_4_method_4_code
def y_S_height : MethodName := ⟨R_S, "height", "(I)I"⟩
abbrev b_T_init : ByteArray := prog_5_method_1_code
def y_T_init : MethodName := ⟨R_T, "<init>", "()V"⟩
abbrev b_T_has : ByteArray := prog_5_method_2_code
def y_T_has : MethodName := ⟨R_T, "has", "(I)Z"⟩
abbrev b_W_init : ByteArray := prog_6_method_1_code
def y_W_init : MethodName := ⟨R_W, "<init>", "()V"⟩
abbrev b_W_isThere : ByteArray := prog_6_method_2_code
def y_W_isThere : MethodName := ⟨R_W, "isThere", "(I)Z"⟩
abbrev b_W_isOn : ByteArray := prog_6_method_3_code
def y_W_isOn : MethodName := ⟨R_W, "isOn", "(II)Z"⟩
abbrev b_W_isWith : ByteArray := prog_6_method_4_code
def y_W_isWith : MethodName := ⟨R_W, "isWith", "(II)Z"⟩
abbrev b_W_goesAlongX : ByteArray := prog_6_method_5_code
def y_W_goesAlongX : MethodName := ⟨R_W, "goesAlongX", "(I)Z"⟩
abbrev b_W_hasEndAt : ByteArray := prog_6_method_6_code
def y_W_hasEndAt : MethodName := ⟨R_W, "hasEndAt", "(III)Z"⟩
abbrev b_W_length : ByteArray := prog_6_method_7_code
def y_W_length : MethodName := ⟨R_W, "length", "(I)I"⟩
abbrev b_W_manyOn : ByteArray := prog_6_method_8_code
def y_W_manyOn : MethodName := ⟨R_W, "manyOn", "(I)I"⟩
abbrev b_W_manyWith : ByteArray := prog_6_method_9_code
def y_W_manyWith : MethodName := ⟨R_W, "manyWith", "(I)I"⟩
abbrev b_W_leastAcross : ByteArray := prog_6_method_10_code
def y_W_leastAcross : MethodName := ⟨R_W, "leastAcross", "(III)I"⟩
abbrev b_W_shift : ByteArray := prog_6_method_11_code
def y_W_shift : MethodName := ⟨R_W, "shift", "(III)V"⟩
abbrev b_W_writeNext : ByteArray := prog_6_method_12_code
def y_W_writeNext : MethodName := ⟨R_W, "writeNext", "(IIIIII)V"⟩
abbrev b_W_writeCopy : ByteArray := prog_6_method_13_code
def y_W_writeCopy : MethodName := ⟨R_W, "writeCopy", "(III)V"⟩
abbrev b_L_storey : ByteArray := method_3_code
def y_L_storey : MethodName := ⟨R_L, "storey", "(LStoreyShapes;I[J)I"⟩
abbrev b_L_level : ByteArray := method_4_code
def y_L_level : MethodName := ⟨R_L, "level", "(LStoreyShapes;II)I"⟩
abbrev b_L_type : ByteArray := method_5_code
def y_L_type : MethodName := ⟨R_L, "type", "(LStoreyShapes;I[J)I"⟩
abbrev b_L_thickness : ByteArray := method_6_code
def y_L_thickness : MethodName := ⟨R_L, "thickness", "(LStoreyShapes;II)I"⟩
abbrev b_L_wall : ByteArray := method_7_code
def y_L_wall : MethodName := ⟨R_L, "wall", "(LStoreyShapes;IIIIII[J)I"⟩
abbrev b_L_move : ByteArray := method_8_code
def y_L_move : MethodName := ⟨R_L, "move", "(LStoreyShapes;III)I"⟩
abbrev b_L_retype : ByteArray := method_9_code
def y_L_retype : MethodName := ⟨R_L, "retype", "(LStoreyShapes;II)I"⟩
abbrev b_L_remove : ByteArray := method_10_code
def y_L_remove : MethodName := ⟨R_L, "remove", "(LStoreyShapes;I)I"⟩
abbrev b_L_opening : ByteArray := method_11_code
def y_L_opening : MethodName := ⟨R_L, "opening", "(LStoreyShapes;III[J)I"⟩
abbrev b_L_copy : ByteArray := method_12_code
def y_L_copy : MethodName := ⟨R_L, "copy", "(LStoreyShapes;II[J)I"⟩
abbrev b_L_acts : ByteArray := method_13_code
def y_L_acts : MethodName := ⟨R_L, "acts", "(LStoreyShapes;I[J)I"⟩
abbrev b_L_many : ByteArray := method_14_code
def y_L_many : MethodName := ⟨R_L, "many", "(LStoreyShapes;I[J)I"⟩
abbrev b_L_wallAt : ByteArray := method_15_code
def y_L_wallAt : MethodName := ⟨R_L, "wallAt", "(LStoreyShapes;II[J)I"⟩
abbrev b_L_openingAt : ByteArray := method_16_code
def y_L_openingAt : MethodName := ⟨R_L, "openingAt", "(LStoreyShapes;II[J)I"⟩
abbrev b_L_storeyAt : ByteArray := method_17_code
def y_L_storeyAt : MethodName := ⟨R_L, "storeyAt", "(LStoreyShapes;II[J)I"⟩
abbrev b_L_typeAt : ByteArray := method_18_code
def y_L_typeAt : MethodName := ⟨R_L, "typeAt", "(LStoreyShapes;II[J)I"⟩
abbrev b_L_body : ByteArray := method_19_code
def y_L_body : MethodName := ⟨R_L, "body", "(LStoreyShapes;IIII[J)I"⟩
abbrev b_L_law : ByteArray := code
def y_L_law : MethodName := ⟨R_L, "law", "([I)Z"⟩
abbrev classes : List vw_C := [(R_C, F_C, 5), (R_H, F_H, 6), (R_O, F_O, 4), (R_S, F_S, 2), (R_T, F_T, 2), (R_W, F_W, 8), (R_M, F_M, 20)]
theorem n_C : ∀ a, a < 5 → ∀ b, b < 5 → a ≠ b → (F_C a).2.1 ≠ (F_C b).2.1 := by decide +kernel
theorem tok_C : ∀ k, k < 5 → parseFieldDescriptor (F_C k).2.2.1 = some (ty_C k) := by decide +kernel
theorem n_H : ∀ a, a < 6 → ∀ b, b < 6 → a ≠ b → (F_H a).2.1 ≠ (F_H b).2.1 := by decide +kernel
theorem tok_H : ∀ k, k < 6 → parseFieldDescriptor (F_H k).2.2.1 = some (ty_H k) := by decide +kernel
theorem n_O : ∀ a, a < 4 → ∀ b, b < 4 → a ≠ b → (F_O a).2.1 ≠ (F_O b).2.1 := by decide +kernel
theorem tok_O : ∀ k, k < 4 → parseFieldDescriptor (F_O k).2.2.1 = some (ty_O k) := by decide +kernel
theorem n_S : ∀ a, a < 2 → ∀ b, b < 2 → a ≠ b → (F_S a).2.1 ≠ (F_S b).2.1 := by decide +kernel
theorem tok_S : ∀ k, k < 2 → parseFieldDescriptor (F_S k).2.2.1 = some (ty_S k) := by decide +kernel
theorem n_T : ∀ a, a < 2 → ∀ b, b < 2 → a ≠ b → (F_T a).2.1 ≠ (F_T b).2.1 := by decide +kernel
theorem tok_T : ∀ k, k < 2 → parseFieldDescriptor (F_T k).2.2.1 = some (ty_T k) := by decide +kernel
theorem n_W : ∀ a, a < 8 → ∀ b, b < 8 → a ≠ b → (F_W a).2.1 ≠ (F_W b).2.1 := by decide +kernel
theorem tok_W : ∀ k, k < 8 → parseFieldDescriptor (F_W k).2.2.1 = some (ty_W k) := by decide +kernel
theorem n_M : ∀ a, a < 20 → ∀ b, b < 20 → a ≠ b → (F_M a).2.1 ≠ (F_M b).2.1 := by decide +kernel
theorem tok_M : ∀ k, k < 20 → parseFieldDescriptor (F_M k).2.2.1 = some (ty_M k) := by decide +kernel
/-! words: BG is what every method is given: the tables' good words -/
def BG : List Cond := lw_tbl.filter goodWord
theorem BG_tbl : ∀ w ∈ BG, w ∈ lw_tbl := fun w h => (List.mem_filter.mp h).1
theorem BG_ok : ∀ w ∈ BG, goodWord w = true := fun w h => (List.mem_filter.mp h).2
theorem BG_0 {w : Cond} (h : w ∈ k2_sels lw_privs) (g : goodWord w = true) : w ∈ BG := List.mem_filter.mpr ⟨List.mem_append_left _ h, g⟩
theorem BG_1 {w : Cond} (h : w ∈ tables_1_1) (g : goodWord w = true) : w ∈ BG := List.mem_filter.mpr ⟨List.mem_append_right _ (List.mem_append_left _ h), g⟩
theorem BG_2 {w : Cond} (h : w ∈ tables_1_2) (g : goodWord w = true) : w ∈ BG := List.mem_filter.mpr ⟨List.mem_append_right _ (List.mem_append_right _ (List.mem_append_left _ h)), g⟩
theorem BG_3 {w : Cond} (h : w ∈ tables_1_3) (g : goodWord w = true) : w ∈ BG := List.mem_filter.mpr ⟨List.mem_append_right _ (List.mem_append_right _ (List.mem_append_right _ (List.mem_append_left _ h))), g⟩
theorem BG_4 {w : Cond} (h : w ∈ tables_1_4) (g : goodWord w = true) : w ∈ BG := List.mem_filter.mpr ⟨List.mem_append_right _ (List.mem_append_right _ (List.mem_append_right _ (List.mem_append_right _ h))), g⟩
abbrev wB (y : MethodName) (b : ByteArray) (n : Nat) (r : Option FieldType) : List Cond := Cond.code y b n r :: BG
theorem wB_in {y : MethodName} {b : ByteArray} {n : Nat} {r : Option FieldType} (h : Cond.code y b n r ∈ BG) : ∀ w ∈ wB y b n r, w ∈ BG := fun w hw => (List.mem_cons.mp hw).elim (fun e => e ▸ h) id
theorem wB_good {Ts : List Cond} (hT : ∀ w ∈ BG, w ∈ Ts) {y : MethodName} {b : ByteArray} {n : Nat} {r : Option FieldType} (h : Cond.code y b n r ∈ BG) : GoodIn Ts (wB y b n r) := fun w hw => ⟨hT w (wB_in h w hw), good_of_word (BG_ok w (wB_in h w hw))⟩
theorem wB_goodV {Ts : List Cond} (hT : ∀ w ∈ BG, w ∈ Ts) {own C : String} {idx : Nat} {y : MethodName} {b : ByteArray} {n : Nat} {r : Option FieldType} (h1 : Cond.methodLink own idx y ∈ BG) (h2 : Cond.instanceMethod y ∈ BG) (h3 : Cond.selects C y y ∈ BG) (h4 : Cond.initialized C ∈ BG) (h : Cond.code y b n r ∈ BG) : GoodIn Ts (wsV own idx C y (wB y b n r)) := by
  have g : ∀ w ∈ BG, w ∈ Ts ∧ ((w.onTables && w.keeps) = true ∨ ∃ ty, w = .arrayClass ty) := fun w hw => ⟨hT w hw, good_of_word (BG_ok w hw)⟩
  intro w hw
  rcases List.mem_append.mp hw with hw | hw
  · rcases List.mem_cons.mp hw with rfl | hw
    · exact g _ h1
    rcases List.mem_cons.mp hw with rfl | hw
    · exact g _ h2
    rcases List.mem_cons.mp hw with rfl | hw
    · exact g _ h3
    rcases List.mem_cons.mp hw with rfl | hw
    · exact g _ h4
    · cases hw
  · exact wB_good hT h w hw
theorem wB_goodS {Ts : List Cond} (hT : ∀ w ∈ BG, w ∈ Ts) {own : String} {idx : Nat} {y : MethodName} {b : ByteArray} {n : Nat} {r : Option FieldType} (h1 : Cond.methodLink own idx y ∈ BG) (h2 : Cond.static y ∈ BG) (h4 : Cond.initialized own ∈ BG) (h : Cond.code y b n r ∈ BG) : GoodIn Ts (wsS own idx y (wB y b n r)) := by
  have g : ∀ w ∈ BG, w ∈ Ts ∧ ((w.onTables && w.keeps) = true ∨ ∃ ty, w = .arrayClass ty) := fun w hw => ⟨hT w hw, good_of_word (BG_ok w hw)⟩
  intro w hw
  rcases List.mem_append.mp hw with hw | hw
  · rcases List.mem_cons.mp hw with rfl | hw
    · exact g _ h1
    rcases List.mem_cons.mp hw with rfl | hw
    · exact g _ h2
    rcases List.mem_cons.mp hw with rfl | hw
    · exact g _ h4
    · cases hw
  · exact wB_good hT h w hw
theorem ini_L : Cond.initialized R_L ∈ BG := BG_1 (List.mem_of_getElem? (i := 0) rfl) rfl
theorem ini_C : Cond.initialized R_C ∈ BG := BG_1 (List.mem_of_getElem? (i := 1) rfl) rfl
theorem ini_S : Cond.initialized R_S ∈ BG := BG_1 (List.mem_of_getElem? (i := 2) rfl) rfl
theorem ini_T : Cond.initialized R_T ∈ BG := BG_1 (List.mem_of_getElem? (i := 3) rfl) rfl
theorem ini_W : Cond.initialized R_W ∈ BG := BG_1 (List.mem_of_getElem? (i := 4) rfl) rfl
theorem ini_O : Cond.initialized R_O ∈ BG := BG_1 (List.mem_of_getElem? (i := 5) rfl) rfl
theorem ini_H : Cond.initialized R_H ∈ BG := BG_1 (List.mem_of_getElem? (i := 6) rfl) rfl
theorem ini_M : Cond.initialized R_M ∈ BG := BG_1 (List.mem_of_getElem? (i := 7) rfl) rfl
theorem ini_Throwable : Cond.initialized "java/lang/Throwable" ∈ BG := BG_1 (List.mem_of_getElem? (i := 8) rfl) rfl
theorem ini_Exception : Cond.initialized "java/lang/Exception" ∈ BG := BG_1 (List.mem_of_getElem? (i := 9) rfl) rfl
theorem ini_RuntimeException : Cond.initialized "java/lang/RuntimeException" ∈ BG := BG_1 (List.mem_of_getElem? (i := 10) rfl) rfl
theorem ini_IllegalArgumentException : Cond.initialized "java/lang/IllegalArgumentException" ∈ BG := BG_1 (List.mem_of_getElem? (i := 11) rfl) rfl
theorem ini_IllegalStateException : Cond.initialized "java/lang/IllegalStateException" ∈ BG := BG_1 (List.mem_of_getElem? (i := 12) rfl) rfl
theorem ini_Math : Cond.initialized "java/lang/Math" ∈ BG := BG_1 (List.mem_of_getElem? (i := 13) rfl) rfl
theorem cl_L_8 : Cond.classLink R_L 8 R_C ∈ BG := BG_1 (List.mem_of_getElem? (i := 14) rfl) rfl
theorem ins_C : Cond.instantiable R_C 5 ∈ BG := BG_1 (List.mem_of_getElem? (i := 15) rfl) rfl
theorem ml_L_73 : Cond.methodLink R_L 73 y_C_init ∈ BG := BG_1 (List.mem_of_getElem? (i := 16) rfl) rfl
theorem im_C_init : Cond.instanceMethod y_C_init ∈ BG := BG_1 (List.mem_of_getElem? (i := 17) rfl) rfl
theorem co_C_init : Cond.code y_C_init b_C_init 1 none ∈ BG := BG_1 (List.mem_of_getElem? (i := 18) rfl) rfl
theorem ml_C_1 : Cond.methodLink R_C 1 ⟨"java/lang/Object", "<init>", "()V"⟩ ∈ BG := BG_1 (List.mem_of_getElem? (i := 19) rfl) rfl
theorem im_Object_initV : Cond.instanceMethod ⟨"java/lang/Object", "<init>", "()V"⟩ ∈ BG := BG_1 (List.mem_of_getElem? (i := 20) rfl) rfl
theorem co_Object_initV : Cond.code ⟨"java/lang/Object", "<init>", "()V"⟩ object_method_1_code 1 (Option.none : Option Jvm.ClassFile.FieldType) ∈ BG := BG_1 (List.mem_of_getElem? (i := 21) rfl) rfl
theorem cl_C_7 : Cond.classLink R_C 7 R_S ∈ BG := BG_1 (List.mem_of_getElem? (i := 22) rfl) rfl
theorem ins_S : Cond.instantiable R_S 2 ∈ BG := BG_1 (List.mem_of_getElem? (i := 23) rfl) rfl
theorem im_S_init : Cond.instanceMethod y_S_init ∈ BG := BG_1 (List.mem_of_getElem? (i := 25) rfl) rfl
theorem co_S_init : Cond.code y_S_init b_S_init 1 none ∈ BG := BG_1 (List.mem_of_getElem? (i := 26) rfl) rfl
theorem ml_S_3 : Cond.methodLink R_S 3 ⟨"java/lang/Object", "<init>", "()V"⟩ ∈ BG := BG_1 (List.mem_of_getElem? (i := 27) rfl) rfl
theorem fl_S_9 : Cond.fieldLink R_S 9 "StoreyShapes$Storeys" "levels" "[I" ∈ BG := BG_1 (List.mem_of_getElem? (i := 28) rfl) rfl
theorem fl_C_62 : Cond.fieldLink R_C 62 "StoreyShapes$Storeys" "levels" "[I" ∈ BG := BG_1 (List.mem_of_getElem? (i := 29) rfl) rfl
theorem fl_S_15 : Cond.fieldLink R_S 15 "StoreyShapes$Storeys" "count" "I" ∈ BG := BG_1 (List.mem_of_getElem? (i := 30) rfl) rfl
theorem fl_C_44 : Cond.fieldLink R_C 44 "StoreyShapes$Storeys" "count" "I" ∈ BG := BG_1 (List.mem_of_getElem? (i := 31) rfl) rfl
theorem ac_int : Cond.arrayClass .int ∈ BG := BG_1 (List.mem_of_getElem? (i := 37) rfl) rfl
theorem cl_C_16 : Cond.classLink R_C 16 R_T ∈ BG := BG_1 (List.mem_of_getElem? (i := 38) rfl) rfl
theorem ins_T : Cond.instantiable R_T 2 ∈ BG := BG_1 (List.mem_of_getElem? (i := 39) rfl) rfl
theorem im_T_init : Cond.instanceMethod y_T_init ∈ BG := BG_1 (List.mem_of_getElem? (i := 41) rfl) rfl
theorem co_T_init : Cond.code y_T_init b_T_init 1 none ∈ BG := BG_1 (List.mem_of_getElem? (i := 42) rfl) rfl
theorem ml_T_3 : Cond.methodLink R_T 3 ⟨"java/lang/Object", "<init>", "()V"⟩ ∈ BG := BG_1 (List.mem_of_getElem? (i := 43) rfl) rfl
theorem fl_T_9 : Cond.fieldLink R_T 9 "StoreyShapes$Types" "thicknesses" "[I" ∈ BG := BG_1 (List.mem_of_getElem? (i := 44) rfl) rfl
theorem fl_C_80 : Cond.fieldLink R_C 80 "StoreyShapes$Types" "thicknesses" "[I" ∈ BG := BG_1 (List.mem_of_getElem? (i := 45) rfl) rfl
theorem fl_T_15 : Cond.fieldLink R_T 15 "StoreyShapes$Types" "count" "I" ∈ BG := BG_1 (List.mem_of_getElem? (i := 46) rfl) rfl
theorem fl_C_74 : Cond.fieldLink R_C 74 "StoreyShapes$Types" "count" "I" ∈ BG := BG_1 (List.mem_of_getElem? (i := 47) rfl) rfl
theorem cl_C_23 : Cond.classLink R_C 23 R_W ∈ BG := BG_1 (List.mem_of_getElem? (i := 53) rfl) rfl
theorem ins_W : Cond.instantiable R_W 8 ∈ BG := BG_1 (List.mem_of_getElem? (i := 54) rfl) rfl
theorem im_W_init : Cond.instanceMethod y_W_init ∈ BG := BG_1 (List.mem_of_getElem? (i := 56) rfl) rfl
theorem co_W_init : Cond.code y_W_init b_W_init 1 none ∈ BG := BG_1 (List.mem_of_getElem? (i := 57) rfl) rfl
theorem ml_W_3 : Cond.methodLink R_W 3 ⟨"java/lang/Object", "<init>", "()V"⟩ ∈ BG := BG_1 (List.mem_of_getElem? (i := 58) rfl) rfl
theorem fl_W_9 : Cond.fieldLink R_W 9 "StoreyShapes$Walls" "storeys" "[I" ∈ BG := BG_1 (List.mem_of_getElem? (i := 59) rfl) rfl
theorem fl_C_166 : Cond.fieldLink R_C 166 "StoreyShapes$Walls" "storeys" "[I" ∈ BG := BG_1 (List.mem_of_getElem? (i := 60) rfl) rfl
theorem fl_W_15 : Cond.fieldLink R_W 15 "StoreyShapes$Walls" "types" "[I" ∈ BG := BG_1 (List.mem_of_getElem? (i := 61) rfl) rfl
theorem fl_C_168 : Cond.fieldLink R_C 168 "StoreyShapes$Walls" "types" "[I" ∈ BG := BG_1 (List.mem_of_getElem? (i := 62) rfl) rfl
theorem fl_W_18 : Cond.fieldLink R_W 18 "StoreyShapes$Walls" "x0" "[I" ∈ BG := BG_1 (List.mem_of_getElem? (i := 63) rfl) rfl
theorem fl_C_105 : Cond.fieldLink R_C 105 "StoreyShapes$Walls" "x0" "[I" ∈ BG := BG_1 (List.mem_of_getElem? (i := 64) rfl) rfl
theorem fl_W_21 : Cond.fieldLink R_W 21 "StoreyShapes$Walls" "y0" "[I" ∈ BG := BG_1 (List.mem_of_getElem? (i := 65) rfl) rfl
theorem fl_C_108 : Cond.fieldLink R_C 108 "StoreyShapes$Walls" "y0" "[I" ∈ BG := BG_1 (List.mem_of_getElem? (i := 66) rfl) rfl
theorem fl_W_24 : Cond.fieldLink R_W 24 "StoreyShapes$Walls" "x1" "[I" ∈ BG := BG_1 (List.mem_of_getElem? (i := 67) rfl) rfl
theorem fl_C_111 : Cond.fieldLink R_C 111 "StoreyShapes$Walls" "x1" "[I" ∈ BG := BG_1 (List.mem_of_getElem? (i := 68) rfl) rfl
theorem fl_W_27 : Cond.fieldLink R_W 27 "StoreyShapes$Walls" "y1" "[I" ∈ BG := BG_1 (List.mem_of_getElem? (i := 69) rfl) rfl
theorem fl_C_114 : Cond.fieldLink R_C 114 "StoreyShapes$Walls" "y1" "[I" ∈ BG := BG_1 (List.mem_of_getElem? (i := 70) rfl) rfl
theorem fl_W_30 : Cond.fieldLink R_W 30 "StoreyShapes$Walls" "gone" "[Z" ∈ BG := BG_1 (List.mem_of_getElem? (i := 71) rfl) rfl
theorem fl_C_268 : Cond.fieldLink R_C 268 "StoreyShapes$Walls" "gone" "[Z" ∈ BG := BG_1 (List.mem_of_getElem? (i := 72) rfl) rfl
theorem fl_W_34 : Cond.fieldLink R_W 34 "StoreyShapes$Walls" "count" "I" ∈ BG := BG_1 (List.mem_of_getElem? (i := 73) rfl) rfl
theorem fl_C_95 : Cond.fieldLink R_C 95 "StoreyShapes$Walls" "count" "I" ∈ BG := BG_1 (List.mem_of_getElem? (i := 74) rfl) rfl
theorem ac_boolean : Cond.arrayClass .boolean ∈ BG := BG_1 (List.mem_of_getElem? (i := 92) rfl) rfl
theorem cl_C_30 : Cond.classLink R_C 30 R_O ∈ BG := BG_1 (List.mem_of_getElem? (i := 93) rfl) rfl
theorem ins_O : Cond.instantiable R_O 4 ∈ BG := BG_1 (List.mem_of_getElem? (i := 94) rfl) rfl
theorem im_O_init : Cond.instanceMethod y_O_init ∈ BG := BG_1 (List.mem_of_getElem? (i := 96) rfl) rfl
theorem co_O_init : Cond.code y_O_init b_O_init 1 none ∈ BG := BG_1 (List.mem_of_getElem? (i := 97) rfl) rfl
theorem ml_O_3 : Cond.methodLink R_O 3 ⟨"java/lang/Object", "<init>", "()V"⟩ ∈ BG := BG_1 (List.mem_of_getElem? (i := 98) rfl) rfl
theorem fl_O_9 : Cond.fieldLink R_O 9 "StoreyShapes$Openings" "walls" "[I" ∈ BG := BG_1 (List.mem_of_getElem? (i := 99) rfl) rfl
theorem fl_C_186 : Cond.fieldLink R_C 186 "StoreyShapes$Openings" "walls" "[I" ∈ BG := BG_1 (List.mem_of_getElem? (i := 100) rfl) rfl
theorem fl_O_15 : Cond.fieldLink R_O 15 "StoreyShapes$Openings" "starts" "[I" ∈ BG := BG_1 (List.mem_of_getElem? (i := 101) rfl) rfl
theorem fl_C_193 : Cond.fieldLink R_C 193 "StoreyShapes$Openings" "starts" "[I" ∈ BG := BG_1 (List.mem_of_getElem? (i := 102) rfl) rfl
theorem fl_O_18 : Cond.fieldLink R_O 18 "StoreyShapes$Openings" "widths" "[I" ∈ BG := BG_1 (List.mem_of_getElem? (i := 103) rfl) rfl
theorem fl_C_196 : Cond.fieldLink R_C 196 "StoreyShapes$Openings" "widths" "[I" ∈ BG := BG_1 (List.mem_of_getElem? (i := 104) rfl) rfl
theorem fl_O_21 : Cond.fieldLink R_O 21 "StoreyShapes$Openings" "count" "I" ∈ BG := BG_1 (List.mem_of_getElem? (i := 105) rfl) rfl
theorem fl_C_123 : Cond.fieldLink R_C 123 "StoreyShapes$Openings" "count" "I" ∈ BG := BG_1 (List.mem_of_getElem? (i := 106) rfl) rfl
theorem cl_C_37 : Cond.classLink R_C 37 R_H ∈ BG := BG_1 (List.mem_of_getElem? (i := 116) rfl) rfl
theorem ins_H : Cond.instantiable R_H 6 ∈ BG := BG_1 (List.mem_of_getElem? (i := 117) rfl) rfl
theorem im_H_init : Cond.instanceMethod y_H_init ∈ BG := BG_1 (List.mem_of_getElem? (i := 119) rfl) rfl
theorem co_H_init : Cond.code y_H_init b_H_init 1 none ∈ BG := BG_1 (List.mem_of_getElem? (i := 120) rfl) rfl
theorem ml_H_3 : Cond.methodLink R_H 3 ⟨"java/lang/Object", "<init>", "()V"⟩ ∈ BG := BG_1 (List.mem_of_getElem? (i := 121) rfl) rfl
theorem fl_H_9 : Cond.fieldLink R_H 9 "StoreyShapes$History" "kinds" "[I" ∈ BG := BG_1 (List.mem_of_getElem? (i := 122) rfl) rfl
theorem fl_C_261 : Cond.fieldLink R_C 261 "StoreyShapes$History" "kinds" "[I" ∈ BG := BG_1 (List.mem_of_getElem? (i := 123) rfl) rfl
theorem fl_H_15 : Cond.fieldLink R_H 15 "StoreyShapes$History" "targets" "[I" ∈ BG := BG_1 (List.mem_of_getElem? (i := 124) rfl) rfl
theorem fl_C_252 : Cond.fieldLink R_C 252 "StoreyShapes$History" "targets" "[I" ∈ BG := BG_1 (List.mem_of_getElem? (i := 125) rfl) rfl
theorem fl_H_18 : Cond.fieldLink R_H 18 "StoreyShapes$History" "firsts" "[I" ∈ BG := BG_1 (List.mem_of_getElem? (i := 126) rfl) rfl
theorem fl_C_255 : Cond.fieldLink R_C 255 "StoreyShapes$History" "firsts" "[I" ∈ BG := BG_1 (List.mem_of_getElem? (i := 127) rfl) rfl
theorem fl_H_21 : Cond.fieldLink R_H 21 "StoreyShapes$History" "seconds" "[I" ∈ BG := BG_1 (List.mem_of_getElem? (i := 128) rfl) rfl
theorem fl_C_258 : Cond.fieldLink R_C 258 "StoreyShapes$History" "seconds" "[I" ∈ BG := BG_1 (List.mem_of_getElem? (i := 129) rfl) rfl
theorem fl_H_24 : Cond.fieldLink R_H 24 "StoreyShapes$History" "done" "I" ∈ BG := BG_1 (List.mem_of_getElem? (i := 130) rfl) rfl
theorem fl_C_150 : Cond.fieldLink R_C 150 "StoreyShapes$History" "done" "I" ∈ BG := BG_1 (List.mem_of_getElem? (i := 131) rfl) rfl
theorem fl_H_28 : Cond.fieldLink R_H 28 "StoreyShapes$History" "held" "I" ∈ BG := BG_1 (List.mem_of_getElem? (i := 132) rfl) rfl
theorem fl_C_156 : Cond.fieldLink R_C 156 "StoreyShapes$History" "held" "I" ∈ BG := BG_1 (List.mem_of_getElem? (i := 133) rfl) rfl
theorem fl_C_10 : Cond.fieldLink R_C 10 "StoreyShapes" "storeys" "LStoreyShapes$Storeys;" ∈ BG := BG_1 (List.mem_of_getElem? (i := 147) rfl) rfl
theorem fl_C_19 : Cond.fieldLink R_C 19 "StoreyShapes" "types" "LStoreyShapes$Types;" ∈ BG := BG_1 (List.mem_of_getElem? (i := 148) rfl) rfl
theorem fl_C_26 : Cond.fieldLink R_C 26 "StoreyShapes" "walls" "LStoreyShapes$Walls;" ∈ BG := BG_1 (List.mem_of_getElem? (i := 149) rfl) rfl
theorem fl_C_33 : Cond.fieldLink R_C 33 "StoreyShapes" "openings" "LStoreyShapes$Openings;" ∈ BG := BG_1 (List.mem_of_getElem? (i := 150) rfl) rfl
theorem fl_C_40 : Cond.fieldLink R_C 40 "StoreyShapes" "history" "LStoreyShapes$History;" ∈ BG := BG_1 (List.mem_of_getElem? (i := 151) rfl) rfl
theorem ml_L_120 : Cond.methodLink R_L 120 y_C_undo ∈ BG := BG_1 (List.mem_of_getElem? (i := 163) rfl) rfl
theorem im_C_undo : Cond.instanceMethod y_C_undo ∈ BG := BG_1 (List.mem_of_getElem? (i := 164) rfl) rfl
theorem se_C_undo : Cond.selects R_C y_C_undo y_C_undo ∈ BG := BG_1 (List.mem_of_getElem? (i := 165) rfl) rfl
theorem co_C_undo : Cond.code y_C_undo b_C_undo 1 (some .boolean) ∈ BG := BG_1 (List.mem_of_getElem? (i := 166) rfl) rfl
theorem ml_C_153 : Cond.methodLink R_C 153 y_C_step ∈ BG := BG_1 (List.mem_of_getElem? (i := 167) rfl) rfl
theorem im_C_step : Cond.instanceMethod y_C_step ∈ BG := BG_1 (List.mem_of_getElem? (i := 169) rfl) rfl
theorem co_C_step : Cond.code y_C_step b_C_step 6 none ∈ BG := BG_1 (List.mem_of_getElem? (i := 170) rfl) rfl
theorem ml_C_264 : Cond.methodLink R_C 264 y_W_shift ∈ BG := BG_1 (List.mem_of_getElem? (i := 171) rfl) rfl
theorem im_W_shift : Cond.instanceMethod y_W_shift ∈ BG := BG_1 (List.mem_of_getElem? (i := 172) rfl) rfl
theorem se_W_shift : Cond.selects R_W y_W_shift y_W_shift ∈ BG := BG_1 (List.mem_of_getElem? (i := 173) rfl) rfl
theorem co_W_shift : Cond.code y_W_shift b_W_shift 4 none ∈ BG := BG_1 (List.mem_of_getElem? (i := 174) rfl) rfl
theorem ml_C_272 : Cond.methodLink R_C 272 y_C_exchange ∈ BG := BG_1 (List.mem_of_getElem? (i := 175) rfl) rfl
theorem im_C_exchange : Cond.instanceMethod y_C_exchange ∈ BG := BG_1 (List.mem_of_getElem? (i := 177) rfl) rfl
theorem co_C_exchange : Cond.code y_C_exchange b_C_exchange 5 (some .int) ∈ BG := BG_1 (List.mem_of_getElem? (i := 178) rfl) rfl
theorem ml_L_125 : Cond.methodLink R_L 125 y_C_redo ∈ BG := BG_1 (List.mem_of_getElem? (i := 179) rfl) rfl
theorem im_C_redo : Cond.instanceMethod y_C_redo ∈ BG := BG_1 (List.mem_of_getElem? (i := 180) rfl) rfl
theorem se_C_redo : Cond.selects R_C y_C_redo y_C_redo ∈ BG := BG_1 (List.mem_of_getElem? (i := 181) rfl) rfl
theorem co_C_redo : Cond.code y_C_redo b_C_redo 1 (some .boolean) ∈ BG := BG_1 (List.mem_of_getElem? (i := 182) rfl) rfl
theorem ml_C_159 : Cond.methodLink R_C 159 y_C_goForward ∈ BG := BG_1 (List.mem_of_getElem? (i := 183) rfl) rfl
theorem im_C_goForward : Cond.instanceMethod y_C_goForward ∈ BG := BG_1 (List.mem_of_getElem? (i := 185) rfl) rfl
theorem co_C_goForward : Cond.code y_C_goForward b_C_goForward 1 none ∈ BG := BG_1 (List.mem_of_getElem? (i := 186) rfl) rfl
theorem ml_L_77 : Cond.methodLink R_L 77 y_L_storey ∈ BG := BG_1 (List.mem_of_getElem? (i := 187) rfl) rfl
theorem st_L_storey : Cond.static y_L_storey ∈ BG := BG_1 (List.mem_of_getElem? (i := 188) rfl) rfl
theorem cw_L_storey : Cond.codeWith y_L_storey b_L_storey 4 (some .int) [((0 : Nat), (9 : Nat), (12 : Nat), (13 : Nat)), ((0 : Nat), (9 : Nat), (15 : Nat), (15 : Nat))] ∈ BG := BG_1 (List.mem_of_getElem? (i := 189) rfl) rfl
theorem cl_L_13 : Cond.classLink R_L 13 "java/lang/IllegalArgumentException" ∈ BG := BG_1 (List.mem_of_getElem? (i := 190) rfl) rfl
theorem cl_L_15 : Cond.classLink R_L 15 "java/lang/IllegalStateException" ∈ BG := BG_1 (List.mem_of_getElem? (i := 191) rfl) rfl
theorem ml_L_7 : Cond.methodLink R_L 7 y_C_storey ∈ BG := BG_1 (List.mem_of_getElem? (i := 192) rfl) rfl
theorem im_C_storey : Cond.instanceMethod y_C_storey ∈ BG := BG_1 (List.mem_of_getElem? (i := 193) rfl) rfl
theorem se_C_storey : Cond.selects R_C y_C_storey y_C_storey ∈ BG := BG_1 (List.mem_of_getElem? (i := 194) rfl) rfl
theorem co_C_storey : Cond.code y_C_storey b_C_storey 3 (some .int) ∈ BG := BG_1 (List.mem_of_getElem? (i := 195) rfl) rfl
theorem ml_C_48 : Cond.methodLink R_C 48 y_C_checkLevel ∈ BG := BG_1 (List.mem_of_getElem? (i := 196) rfl) rfl
theorem im_C_checkLevel : Cond.instanceMethod y_C_checkLevel ∈ BG := BG_1 (List.mem_of_getElem? (i := 198) rfl) rfl
theorem co_C_checkLevel : Cond.code y_C_checkLevel b_C_checkLevel 3 none ∈ BG := BG_1 (List.mem_of_getElem? (i := 199) rfl) rfl
theorem cl_C_90 : Cond.classLink R_C 90 "java/lang/IllegalArgumentException" ∈ BG := BG_1 (List.mem_of_getElem? (i := 200) rfl) rfl
theorem ins_IllegalArgumentException : Cond.instantiable "java/lang/IllegalArgumentException" 6 ∈ BG := BG_1 (List.mem_of_getElem? (i := 201) rfl) rfl
theorem im_Throwable_initV : Cond.instanceMethod ⟨"java/lang/Throwable", "<init>", "()V"⟩ ∈ BG := BG_1 (List.mem_of_getElem? (i := 223) rfl) rfl
theorem im_Throwable_fillInStackTraceLjavalangThrowable : Cond.instanceMethod ⟨"java/lang/Throwable", "fillInStackTrace", "()Ljava/lang/Throwable;"⟩ ∈ BG := BG_1 (List.mem_of_getElem? (i := 231) rfl) rfl
theorem im_Throwable_fillInStackTraceILjavalangThrowable : Cond.instanceMethod ⟨"java/lang/Throwable", "fillInStackTrace", "(I)Ljava/lang/Throwable;"⟩ ∈ BG := BG_1 (List.mem_of_getElem? (i := 237) rfl) rfl
theorem ins_Throwable : Cond.instantiable "java/lang/Throwable" 6 ∈ BG := BG_1 (List.mem_of_getElem? (i := 238) rfl) rfl
theorem ml_C_94 : Cond.methodLink R_C 94 ⟨"java/lang/IllegalArgumentException", "<init>", "(Ljava/lang/String;)V"⟩ ∈ BG := BG_2 (List.mem_of_getElem? (i := 1) rfl) rfl
theorem im_IllegalArgumentException_initLjavalangStringV : Cond.instanceMethod ⟨"java/lang/IllegalArgumentException", "<init>", "(Ljava/lang/String;)V"⟩ ∈ BG := BG_2 (List.mem_of_getElem? (i := 2) rfl) rfl
theorem im_RuntimeException_initLjavalangStringV : Cond.instanceMethod ⟨"java/lang/RuntimeException", "<init>", "(Ljava/lang/String;)V"⟩ ∈ BG := BG_2 (List.mem_of_getElem? (i := 5) rfl) rfl
theorem im_Exception_initLjavalangStringV : Cond.instanceMethod ⟨"java/lang/Exception", "<init>", "(Ljava/lang/String;)V"⟩ ∈ BG := BG_2 (List.mem_of_getElem? (i := 8) rfl) rfl
theorem im_Throwable_initLjavalangStringV : Cond.instanceMethod ⟨"java/lang/Throwable", "<init>", "(Ljava/lang/String;)V"⟩ ∈ BG := BG_2 (List.mem_of_getElem? (i := 11) rfl) rfl
theorem ac_byte : Cond.arrayClass .byte ∈ BG := BG_2 (List.mem_of_getElem? (i := 26) rfl) rfl
theorem ml_C_231 : Cond.methodLink R_C 231 y_S_isBetweenNeighbours ∈ BG := BG_2 (List.mem_of_getElem? (i := 27) rfl) rfl
theorem im_S_isBetweenNeighbours : Cond.instanceMethod y_S_isBetweenNeighbours ∈ BG := BG_2 (List.mem_of_getElem? (i := 28) rfl) rfl
theorem se_S_isBetweenNeighbours : Cond.selects R_S y_S_isBetweenNeighbours y_S_isBetweenNeighbours ∈ BG := BG_2 (List.mem_of_getElem? (i := 29) rfl) rfl
theorem co_S_isBetweenNeighbours : Cond.code y_S_isBetweenNeighbours b_S_isBetweenNeighbours 3 (some .boolean) ∈ BG := BG_2 (List.mem_of_getElem? (i := 30) rfl) rfl
theorem cl_C_52 : Cond.classLink R_C 52 "java/lang/IllegalStateException" ∈ BG := BG_2 (List.mem_of_getElem? (i := 32) rfl) rfl
theorem ins_IllegalStateException : Cond.instantiable "java/lang/IllegalStateException" 6 ∈ BG := BG_2 (List.mem_of_getElem? (i := 33) rfl) rfl
theorem ml_C_56 : Cond.methodLink R_C 56 ⟨"java/lang/IllegalStateException", "<init>", "(Ljava/lang/String;)V"⟩ ∈ BG := BG_2 (List.mem_of_getElem? (i := 42) rfl) rfl
theorem im_IllegalStateException_initLjavalangStringV : Cond.instanceMethod ⟨"java/lang/IllegalStateException", "<init>", "(Ljava/lang/String;)V"⟩ ∈ BG := BG_2 (List.mem_of_getElem? (i := 43) rfl) rfl
theorem ml_C_59 : Cond.methodLink R_C 59 y_C_checkRoomForAct ∈ BG := BG_2 (List.mem_of_getElem? (i := 48) rfl) rfl
theorem im_C_checkRoomForAct : Cond.instanceMethod y_C_checkRoomForAct ∈ BG := BG_2 (List.mem_of_getElem? (i := 50) rfl) rfl
theorem co_C_checkRoomForAct : Cond.code y_C_checkRoomForAct b_C_checkRoomForAct 1 none ∈ BG := BG_2 (List.mem_of_getElem? (i := 51) rfl) rfl
theorem ml_C_66 : Cond.methodLink R_C 66 y_C_perform ∈ BG := BG_2 (List.mem_of_getElem? (i := 53) rfl) rfl
theorem im_C_perform : Cond.instanceMethod y_C_perform ∈ BG := BG_2 (List.mem_of_getElem? (i := 55) rfl) rfl
theorem co_C_perform : Cond.code y_C_perform b_C_perform 5 none ∈ BG := BG_2 (List.mem_of_getElem? (i := 56) rfl) rfl
theorem ml_C_251 : Cond.methodLink R_C 251 y_H_write ∈ BG := BG_2 (List.mem_of_getElem? (i := 57) rfl) rfl
theorem im_H_write : Cond.instanceMethod y_H_write ∈ BG := BG_2 (List.mem_of_getElem? (i := 58) rfl) rfl
theorem se_H_write : Cond.selects R_H y_H_write y_H_write ∈ BG := BG_2 (List.mem_of_getElem? (i := 59) rfl) rfl
theorem co_H_write : Cond.code y_H_write b_H_write 5 none ∈ BG := BG_2 (List.mem_of_getElem? (i := 60) rfl) rfl
theorem ml_L_87 : Cond.methodLink R_L 87 y_L_level ∈ BG := BG_2 (List.mem_of_getElem? (i := 61) rfl) rfl
theorem st_L_level : Cond.static y_L_level ∈ BG := BG_2 (List.mem_of_getElem? (i := 62) rfl) rfl
theorem cw_L_level : Cond.codeWith y_L_level b_L_level 4 (some .int) [((0 : Nat), (6 : Nat), (9 : Nat), (13 : Nat)), ((0 : Nat), (6 : Nat), (12 : Nat), (15 : Nat))] ∈ BG := BG_2 (List.mem_of_getElem? (i := 63) rfl) rfl
theorem ml_L_17 : Cond.methodLink R_L 17 y_C_level ∈ BG := BG_2 (List.mem_of_getElem? (i := 64) rfl) rfl
theorem im_C_level : Cond.instanceMethod y_C_level ∈ BG := BG_2 (List.mem_of_getElem? (i := 65) rfl) rfl
theorem se_C_level : Cond.selects R_C y_C_level y_C_level ∈ BG := BG_2 (List.mem_of_getElem? (i := 66) rfl) rfl
theorem co_C_level : Cond.code y_C_level b_C_level 3 none ∈ BG := BG_2 (List.mem_of_getElem? (i := 67) rfl) rfl
theorem ml_C_70 : Cond.methodLink R_C 70 y_C_checkStorey ∈ BG := BG_2 (List.mem_of_getElem? (i := 68) rfl) rfl
theorem im_C_checkStorey : Cond.instanceMethod y_C_checkStorey ∈ BG := BG_2 (List.mem_of_getElem? (i := 70) rfl) rfl
theorem co_C_checkStorey : Cond.code y_C_checkStorey b_C_checkStorey 2 none ∈ BG := BG_2 (List.mem_of_getElem? (i := 71) rfl) rfl
theorem ml_C_226 : Cond.methodLink R_C 226 y_S_has ∈ BG := BG_2 (List.mem_of_getElem? (i := 72) rfl) rfl
theorem im_S_has : Cond.instanceMethod y_S_has ∈ BG := BG_2 (List.mem_of_getElem? (i := 73) rfl) rfl
theorem se_S_has : Cond.selects R_S y_S_has y_S_has ∈ BG := BG_2 (List.mem_of_getElem? (i := 74) rfl) rfl
theorem co_S_has : Cond.code y_S_has b_S_has 2 (some .boolean) ∈ BG := BG_2 (List.mem_of_getElem? (i := 75) rfl) rfl
theorem ml_L_91 : Cond.methodLink R_L 91 y_L_type ∈ BG := BG_2 (List.mem_of_getElem? (i := 77) rfl) rfl
theorem st_L_type : Cond.static y_L_type ∈ BG := BG_2 (List.mem_of_getElem? (i := 78) rfl) rfl
theorem cw_L_type : Cond.codeWith y_L_type b_L_type 4 (some .int) [((0 : Nat), (9 : Nat), (12 : Nat), (13 : Nat)), ((0 : Nat), (9 : Nat), (15 : Nat), (15 : Nat))] ∈ BG := BG_2 (List.mem_of_getElem? (i := 79) rfl) rfl
theorem ml_L_21 : Cond.methodLink R_L 21 y_C_type ∈ BG := BG_2 (List.mem_of_getElem? (i := 80) rfl) rfl
theorem im_C_type : Cond.instanceMethod y_C_type ∈ BG := BG_2 (List.mem_of_getElem? (i := 81) rfl) rfl
theorem se_C_type : Cond.selects R_C y_C_type y_C_type ∈ BG := BG_2 (List.mem_of_getElem? (i := 82) rfl) rfl
theorem co_C_type : Cond.code y_C_type b_C_type 3 (some .int) ∈ BG := BG_2 (List.mem_of_getElem? (i := 83) rfl) rfl
theorem ml_C_75 : Cond.methodLink R_C 75 y_C_checkThickness ∈ BG := BG_2 (List.mem_of_getElem? (i := 84) rfl) rfl
theorem st_C_checkThickness : Cond.static y_C_checkThickness ∈ BG := BG_2 (List.mem_of_getElem? (i := 85) rfl) rfl
theorem co_C_checkThickness : Cond.code y_C_checkThickness b_C_checkThickness 1 none ∈ BG := BG_2 (List.mem_of_getElem? (i := 86) rfl) rfl
theorem ml_L_94 : Cond.methodLink R_L 94 y_L_thickness ∈ BG := BG_2 (List.mem_of_getElem? (i := 89) rfl) rfl
theorem st_L_thickness : Cond.static y_L_thickness ∈ BG := BG_2 (List.mem_of_getElem? (i := 90) rfl) rfl
theorem cw_L_thickness : Cond.codeWith y_L_thickness b_L_thickness 4 (some .int) [((0 : Nat), (6 : Nat), (9 : Nat), (13 : Nat)), ((0 : Nat), (6 : Nat), (12 : Nat), (15 : Nat))] ∈ BG := BG_2 (List.mem_of_getElem? (i := 91) rfl) rfl
theorem ml_L_24 : Cond.methodLink R_L 24 y_C_thickness ∈ BG := BG_2 (List.mem_of_getElem? (i := 92) rfl) rfl
theorem im_C_thickness : Cond.instanceMethod y_C_thickness ∈ BG := BG_2 (List.mem_of_getElem? (i := 93) rfl) rfl
theorem se_C_thickness : Cond.selects R_C y_C_thickness y_C_thickness ∈ BG := BG_2 (List.mem_of_getElem? (i := 94) rfl) rfl
theorem co_C_thickness : Cond.code y_C_thickness b_C_thickness 3 none ∈ BG := BG_2 (List.mem_of_getElem? (i := 95) rfl) rfl
theorem ml_C_83 : Cond.methodLink R_C 83 y_C_checkType ∈ BG := BG_2 (List.mem_of_getElem? (i := 96) rfl) rfl
theorem im_C_checkType : Cond.instanceMethod y_C_checkType ∈ BG := BG_2 (List.mem_of_getElem? (i := 98) rfl) rfl
theorem co_C_checkType : Cond.code y_C_checkType b_C_checkType 2 none ∈ BG := BG_2 (List.mem_of_getElem? (i := 99) rfl) rfl
theorem ml_C_236 : Cond.methodLink R_C 236 y_T_has ∈ BG := BG_2 (List.mem_of_getElem? (i := 100) rfl) rfl
theorem im_T_has : Cond.instanceMethod y_T_has ∈ BG := BG_2 (List.mem_of_getElem? (i := 101) rfl) rfl
theorem se_T_has : Cond.selects R_T y_T_has y_T_has ∈ BG := BG_2 (List.mem_of_getElem? (i := 102) rfl) rfl
theorem co_T_has : Cond.code y_T_has b_T_has 2 (some .boolean) ∈ BG := BG_2 (List.mem_of_getElem? (i := 103) rfl) rfl
theorem ml_L_97 : Cond.methodLink R_L 97 y_L_wall ∈ BG := BG_2 (List.mem_of_getElem? (i := 105) rfl) rfl
theorem st_L_wall : Cond.static y_L_wall ∈ BG := BG_2 (List.mem_of_getElem? (i := 106) rfl) rfl
theorem cw_L_wall : Cond.codeWith y_L_wall b_L_wall 9 (some .int) [((0 : Nat), (18 : Nat), (21 : Nat), (13 : Nat)), ((0 : Nat), (18 : Nat), (25 : Nat), (15 : Nat))] ∈ BG := BG_2 (List.mem_of_getElem? (i := 107) rfl) rfl
theorem ml_L_27 : Cond.methodLink R_L 27 y_C_wall ∈ BG := BG_2 (List.mem_of_getElem? (i := 108) rfl) rfl
theorem im_C_wall : Cond.instanceMethod y_C_wall ∈ BG := BG_2 (List.mem_of_getElem? (i := 109) rfl) rfl
theorem se_C_wall : Cond.selects R_C y_C_wall y_C_wall ∈ BG := BG_2 (List.mem_of_getElem? (i := 110) rfl) rfl
theorem co_C_wall : Cond.code y_C_wall b_C_wall 8 (some .int) ∈ BG := BG_2 (List.mem_of_getElem? (i := 111) rfl) rfl
theorem ml_C_86 : Cond.methodLink R_C 86 y_C_checkPlace ∈ BG := BG_2 (List.mem_of_getElem? (i := 112) rfl) rfl
theorem st_C_checkPlace : Cond.static y_C_checkPlace ∈ BG := BG_2 (List.mem_of_getElem? (i := 113) rfl) rfl
theorem co_C_checkPlace : Cond.code y_C_checkPlace b_C_checkPlace 4 none ∈ BG := BG_2 (List.mem_of_getElem? (i := 114) rfl) rfl
theorem kl_C_243 : Cond.constantLong R_C 243 (-1000 : Int64) ∈ BG := BG_2 (List.mem_of_getElem? (i := 115) rfl) rfl
theorem kl_C_245 : Cond.constantLong R_C 245 (1000 : Int64) ∈ BG := BG_2 (List.mem_of_getElem? (i := 116) rfl) rfl
theorem ml_C_98 : Cond.methodLink R_C 98 y_W_writeNext ∈ BG := BG_2 (List.mem_of_getElem? (i := 120) rfl) rfl
theorem im_W_writeNext : Cond.instanceMethod y_W_writeNext ∈ BG := BG_2 (List.mem_of_getElem? (i := 121) rfl) rfl
theorem se_W_writeNext : Cond.selects R_W y_W_writeNext y_W_writeNext ∈ BG := BG_2 (List.mem_of_getElem? (i := 122) rfl) rfl
theorem co_W_writeNext : Cond.code y_W_writeNext b_W_writeNext 7 none ∈ BG := BG_2 (List.mem_of_getElem? (i := 123) rfl) rfl
theorem ml_L_101 : Cond.methodLink R_L 101 y_L_move ∈ BG := BG_2 (List.mem_of_getElem? (i := 124) rfl) rfl
theorem st_L_move : Cond.static y_L_move ∈ BG := BG_2 (List.mem_of_getElem? (i := 125) rfl) rfl
theorem cw_L_move : Cond.codeWith y_L_move b_L_move 5 (some .int) [((0 : Nat), (7 : Nat), (10 : Nat), (13 : Nat)), ((0 : Nat), (7 : Nat), (14 : Nat), (15 : Nat))] ∈ BG := BG_2 (List.mem_of_getElem? (i := 126) rfl) rfl
theorem ml_L_31 : Cond.methodLink R_L 31 y_C_move ∈ BG := BG_2 (List.mem_of_getElem? (i := 127) rfl) rfl
theorem im_C_move : Cond.instanceMethod y_C_move ∈ BG := BG_2 (List.mem_of_getElem? (i := 128) rfl) rfl
theorem se_C_move : Cond.selects R_C y_C_move y_C_move ∈ BG := BG_2 (List.mem_of_getElem? (i := 129) rfl) rfl
theorem co_C_move : Cond.code y_C_move b_C_move 4 none ∈ BG := BG_2 (List.mem_of_getElem? (i := 130) rfl) rfl
theorem ml_C_102 : Cond.methodLink R_C 102 y_C_checkWall ∈ BG := BG_2 (List.mem_of_getElem? (i := 131) rfl) rfl
theorem im_C_checkWall : Cond.instanceMethod y_C_checkWall ∈ BG := BG_2 (List.mem_of_getElem? (i := 133) rfl) rfl
theorem co_C_checkWall : Cond.code y_C_checkWall b_C_checkWall 2 none ∈ BG := BG_2 (List.mem_of_getElem? (i := 134) rfl) rfl
theorem ml_C_188 : Cond.methodLink R_C 188 y_W_isThere ∈ BG := BG_2 (List.mem_of_getElem? (i := 135) rfl) rfl
theorem im_W_isThere : Cond.instanceMethod y_W_isThere ∈ BG := BG_2 (List.mem_of_getElem? (i := 136) rfl) rfl
theorem se_W_isThere : Cond.selects R_W y_W_isThere y_W_isThere ∈ BG := BG_2 (List.mem_of_getElem? (i := 137) rfl) rfl
theorem co_W_isThere : Cond.code y_W_isThere b_W_isThere 2 (some .boolean) ∈ BG := BG_2 (List.mem_of_getElem? (i := 138) rfl) rfl
theorem ml_L_105 : Cond.methodLink R_L 105 y_L_retype ∈ BG := BG_2 (List.mem_of_getElem? (i := 140) rfl) rfl
theorem st_L_retype : Cond.static y_L_retype ∈ BG := BG_2 (List.mem_of_getElem? (i := 141) rfl) rfl
theorem cw_L_retype : Cond.codeWith y_L_retype b_L_retype 4 (some .int) [((0 : Nat), (6 : Nat), (9 : Nat), (13 : Nat)), ((0 : Nat), (6 : Nat), (12 : Nat), (15 : Nat))] ∈ BG := BG_2 (List.mem_of_getElem? (i := 142) rfl) rfl
theorem ml_L_35 : Cond.methodLink R_L 35 y_C_retype ∈ BG := BG_2 (List.mem_of_getElem? (i := 143) rfl) rfl
theorem im_C_retype : Cond.instanceMethod y_C_retype ∈ BG := BG_2 (List.mem_of_getElem? (i := 144) rfl) rfl
theorem se_C_retype : Cond.selects R_C y_C_retype y_C_retype ∈ BG := BG_2 (List.mem_of_getElem? (i := 145) rfl) rfl
theorem co_C_retype : Cond.code y_C_retype b_C_retype 3 none ∈ BG := BG_2 (List.mem_of_getElem? (i := 146) rfl) rfl
theorem ml_L_108 : Cond.methodLink R_L 108 y_L_remove ∈ BG := BG_2 (List.mem_of_getElem? (i := 147) rfl) rfl
theorem st_L_remove : Cond.static y_L_remove ∈ BG := BG_2 (List.mem_of_getElem? (i := 148) rfl) rfl
theorem cw_L_remove : Cond.codeWith y_L_remove b_L_remove 3 (some .int) [((0 : Nat), (5 : Nat), (8 : Nat), (13 : Nat)), ((0 : Nat), (5 : Nat), (11 : Nat), (15 : Nat))] ∈ BG := BG_2 (List.mem_of_getElem? (i := 149) rfl) rfl
theorem ml_L_38 : Cond.methodLink R_L 38 y_C_remove ∈ BG := BG_2 (List.mem_of_getElem? (i := 150) rfl) rfl
theorem im_C_remove : Cond.instanceMethod y_C_remove ∈ BG := BG_2 (List.mem_of_getElem? (i := 151) rfl) rfl
theorem se_C_remove : Cond.selects R_C y_C_remove y_C_remove ∈ BG := BG_2 (List.mem_of_getElem? (i := 152) rfl) rfl
theorem co_C_remove : Cond.code y_C_remove b_C_remove 2 none ∈ BG := BG_2 (List.mem_of_getElem? (i := 153) rfl) rfl
theorem ml_L_112 : Cond.methodLink R_L 112 y_L_opening ∈ BG := BG_2 (List.mem_of_getElem? (i := 154) rfl) rfl
theorem st_L_opening : Cond.static y_L_opening ∈ BG := BG_2 (List.mem_of_getElem? (i := 155) rfl) rfl
theorem cw_L_opening : Cond.codeWith y_L_opening b_L_opening 6 (some .int) [((0 : Nat), (12 : Nat), (15 : Nat), (13 : Nat)), ((0 : Nat), (12 : Nat), (19 : Nat), (15 : Nat))] ∈ BG := BG_2 (List.mem_of_getElem? (i := 156) rfl) rfl
theorem ml_L_42 : Cond.methodLink R_L 42 y_C_opening ∈ BG := BG_2 (List.mem_of_getElem? (i := 157) rfl) rfl
theorem im_C_opening : Cond.instanceMethod y_C_opening ∈ BG := BG_2 (List.mem_of_getElem? (i := 158) rfl) rfl
theorem se_C_opening : Cond.selects R_C y_C_opening y_C_opening ∈ BG := BG_2 (List.mem_of_getElem? (i := 159) rfl) rfl
theorem co_C_opening : Cond.code y_C_opening b_C_opening 5 (some .int) ∈ BG := BG_2 (List.mem_of_getElem? (i := 160) rfl) rfl
theorem ml_C_117 : Cond.methodLink R_C 117 y_W_length ∈ BG := BG_2 (List.mem_of_getElem? (i := 161) rfl) rfl
theorem im_W_length : Cond.instanceMethod y_W_length ∈ BG := BG_2 (List.mem_of_getElem? (i := 162) rfl) rfl
theorem se_W_length : Cond.selects R_W y_W_length y_W_length ∈ BG := BG_2 (List.mem_of_getElem? (i := 163) rfl) rfl
theorem co_W_length : Cond.code y_W_length b_W_length 2 (some .int) ∈ BG := BG_2 (List.mem_of_getElem? (i := 164) rfl) rfl
theorem ml_W_42 : Cond.methodLink R_W 42 ⟨"java/lang/Math", "abs", "(I)I"⟩ ∈ BG := BG_2 (List.mem_of_getElem? (i := 165) rfl) rfl
theorem st_Math_absII : Cond.static ⟨"java/lang/Math", "abs", "(I)I"⟩ ∈ BG := BG_2 (List.mem_of_getElem? (i := 166) rfl) rfl
theorem co_Math_absII : Cond.code ⟨"java/lang/Math", "abs", "(I)I"⟩ prog_12_method_59_code 1 (Option.some Jvm.ClassFile.FieldType.int) ∈ BG := BG_2 (List.mem_of_getElem? (i := 167) rfl) rfl
theorem ml_C_124 : Cond.methodLink R_C 124 y_O_overlap ∈ BG := BG_2 (List.mem_of_getElem? (i := 169) rfl) rfl
theorem im_O_overlap : Cond.instanceMethod y_O_overlap ∈ BG := BG_2 (List.mem_of_getElem? (i := 170) rfl) rfl
theorem se_O_overlap : Cond.selects R_O y_O_overlap y_O_overlap ∈ BG := BG_2 (List.mem_of_getElem? (i := 171) rfl) rfl
theorem co_O_overlap : Cond.code y_O_overlap b_O_overlap 5 (some .boolean) ∈ BG := BG_2 (List.mem_of_getElem? (i := 172) rfl) rfl
theorem ml_C_132 : Cond.methodLink R_C 132 y_O_write ∈ BG := BG_2 (List.mem_of_getElem? (i := 175) rfl) rfl
theorem im_O_write : Cond.instanceMethod y_O_write ∈ BG := BG_2 (List.mem_of_getElem? (i := 176) rfl) rfl
theorem se_O_write : Cond.selects R_O y_O_write y_O_write ∈ BG := BG_2 (List.mem_of_getElem? (i := 177) rfl) rfl
theorem co_O_write : Cond.code y_O_write b_O_write 5 none ∈ BG := BG_2 (List.mem_of_getElem? (i := 178) rfl) rfl
theorem ml_L_116 : Cond.methodLink R_L 116 y_L_copy ∈ BG := BG_2 (List.mem_of_getElem? (i := 179) rfl) rfl
theorem st_L_copy : Cond.static y_L_copy ∈ BG := BG_2 (List.mem_of_getElem? (i := 180) rfl) rfl
theorem cw_L_copy : Cond.codeWith y_L_copy b_L_copy 5 (some .int) [((0 : Nat), (10 : Nat), (13 : Nat), (13 : Nat)), ((0 : Nat), (10 : Nat), (17 : Nat), (15 : Nat))] ∈ BG := BG_2 (List.mem_of_getElem? (i := 181) rfl) rfl
theorem ml_L_46 : Cond.methodLink R_L 46 y_C_copy ∈ BG := BG_2 (List.mem_of_getElem? (i := 182) rfl) rfl
theorem im_C_copy : Cond.instanceMethod y_C_copy ∈ BG := BG_2 (List.mem_of_getElem? (i := 183) rfl) rfl
theorem se_C_copy : Cond.selects R_C y_C_copy y_C_copy ∈ BG := BG_2 (List.mem_of_getElem? (i := 184) rfl) rfl
theorem co_C_copy : Cond.code y_C_copy b_C_copy 5 (some .int) ∈ BG := BG_2 (List.mem_of_getElem? (i := 185) rfl) rfl
theorem ml_C_137 : Cond.methodLink R_C 137 y_W_manyOn ∈ BG := BG_2 (List.mem_of_getElem? (i := 187) rfl) rfl
theorem im_W_manyOn : Cond.instanceMethod y_W_manyOn ∈ BG := BG_2 (List.mem_of_getElem? (i := 188) rfl) rfl
theorem se_W_manyOn : Cond.selects R_W y_W_manyOn y_W_manyOn ∈ BG := BG_2 (List.mem_of_getElem? (i := 189) rfl) rfl
theorem co_W_manyOn : Cond.code y_W_manyOn b_W_manyOn 4 (some .int) ∈ BG := BG_2 (List.mem_of_getElem? (i := 190) rfl) rfl
theorem ml_W_48 : Cond.methodLink R_W 48 y_W_isOn ∈ BG := BG_2 (List.mem_of_getElem? (i := 191) rfl) rfl
theorem im_W_isOn : Cond.instanceMethod y_W_isOn ∈ BG := BG_2 (List.mem_of_getElem? (i := 192) rfl) rfl
theorem se_W_isOn : Cond.selects R_W y_W_isOn y_W_isOn ∈ BG := BG_2 (List.mem_of_getElem? (i := 193) rfl) rfl
theorem co_W_isOn : Cond.code y_W_isOn b_W_isOn 3 (some .boolean) ∈ BG := BG_2 (List.mem_of_getElem? (i := 194) rfl) rfl
theorem ml_W_38 : Cond.methodLink R_W 38 y_W_isThere ∈ BG := BG_2 (List.mem_of_getElem? (i := 195) rfl) rfl
theorem ml_C_140 : Cond.methodLink R_C 140 y_C_openingsOn ∈ BG := BG_2 (List.mem_of_getElem? (i := 196) rfl) rfl
theorem im_C_openingsOn : Cond.instanceMethod y_C_openingsOn ∈ BG := BG_2 (List.mem_of_getElem? (i := 198) rfl) rfl
theorem co_C_openingsOn : Cond.code y_C_openingsOn b_C_openingsOn 4 (some .int) ∈ BG := BG_2 (List.mem_of_getElem? (i := 199) rfl) rfl
theorem ml_C_219 : Cond.methodLink R_C 219 y_W_isOn ∈ BG := BG_2 (List.mem_of_getElem? (i := 200) rfl) rfl
theorem ml_C_147 : Cond.methodLink R_C 147 y_C_writeCopies ∈ BG := BG_2 (List.mem_of_getElem? (i := 203) rfl) rfl
theorem im_C_writeCopies : Cond.instanceMethod y_C_writeCopies ∈ BG := BG_2 (List.mem_of_getElem? (i := 205) rfl) rfl
theorem co_C_writeCopies : Cond.code y_C_writeCopies b_C_writeCopies 6 none ∈ BG := BG_2 (List.mem_of_getElem? (i := 206) rfl) rfl
theorem ml_C_276 : Cond.methodLink R_C 276 y_W_writeCopy ∈ BG := BG_2 (List.mem_of_getElem? (i := 207) rfl) rfl
theorem im_W_writeCopy : Cond.instanceMethod y_W_writeCopy ∈ BG := BG_2 (List.mem_of_getElem? (i := 208) rfl) rfl
theorem se_W_writeCopy : Cond.selects R_W y_W_writeCopy y_W_writeCopy ∈ BG := BG_2 (List.mem_of_getElem? (i := 209) rfl) rfl
theorem co_W_writeCopy : Cond.code y_W_writeCopy b_W_writeCopy 4 none ∈ BG := BG_2 (List.mem_of_getElem? (i := 210) rfl) rfl
theorem ml_C_279 : Cond.methodLink R_C 279 y_O_writeCopies ∈ BG := BG_2 (List.mem_of_getElem? (i := 211) rfl) rfl
theorem im_O_writeCopies : Cond.instanceMethod y_O_writeCopies ∈ BG := BG_2 (List.mem_of_getElem? (i := 212) rfl) rfl
theorem se_O_writeCopies : Cond.selects R_O y_O_writeCopies y_O_writeCopies ∈ BG := BG_2 (List.mem_of_getElem? (i := 213) rfl) rfl
theorem co_O_writeCopies : Cond.code y_O_writeCopies b_O_writeCopies 6 (some .int) ∈ BG := BG_2 (List.mem_of_getElem? (i := 214) rfl) rfl
theorem ml_O_25 : Cond.methodLink R_O 25 y_O_write ∈ BG := BG_2 (List.mem_of_getElem? (i := 215) rfl) rfl
theorem ml_L_129 : Cond.methodLink R_L 129 y_L_acts ∈ BG := BG_2 (List.mem_of_getElem? (i := 216) rfl) rfl
theorem st_L_acts : Cond.static y_L_acts ∈ BG := BG_2 (List.mem_of_getElem? (i := 217) rfl) rfl
theorem cw_L_acts : Cond.codeWith y_L_acts b_L_acts 4 (some .int) [((0 : Nat), (9 : Nat), (12 : Nat), (13 : Nat))] ∈ BG := BG_2 (List.mem_of_getElem? (i := 218) rfl) rfl
theorem ml_L_50 : Cond.methodLink R_L 50 y_C_acts ∈ BG := BG_2 (List.mem_of_getElem? (i := 219) rfl) rfl
theorem im_C_acts : Cond.instanceMethod y_C_acts ∈ BG := BG_2 (List.mem_of_getElem? (i := 220) rfl) rfl
theorem se_C_acts : Cond.selects R_C y_C_acts y_C_acts ∈ BG := BG_2 (List.mem_of_getElem? (i := 221) rfl) rfl
theorem co_C_acts : Cond.code y_C_acts b_C_acts 2 (some .int) ∈ BG := BG_2 (List.mem_of_getElem? (i := 222) rfl) rfl
theorem ml_L_132 : Cond.methodLink R_L 132 y_L_many ∈ BG := BG_2 (List.mem_of_getElem? (i := 224) rfl) rfl
theorem st_L_many : Cond.static y_L_many ∈ BG := BG_2 (List.mem_of_getElem? (i := 225) rfl) rfl
theorem cw_L_many : Cond.codeWith y_L_many b_L_many 4 (some .int) [((0 : Nat), (9 : Nat), (12 : Nat), (13 : Nat))] ∈ BG := BG_2 (List.mem_of_getElem? (i := 226) rfl) rfl
theorem ml_L_53 : Cond.methodLink R_L 53 y_C_many ∈ BG := BG_2 (List.mem_of_getElem? (i := 227) rfl) rfl
theorem im_C_many : Cond.instanceMethod y_C_many ∈ BG := BG_2 (List.mem_of_getElem? (i := 228) rfl) rfl
theorem se_C_many : Cond.selects R_C y_C_many y_C_many ∈ BG := BG_2 (List.mem_of_getElem? (i := 229) rfl) rfl
theorem co_C_many : Cond.code y_C_many b_C_many 2 (some .int) ∈ BG := BG_2 (List.mem_of_getElem? (i := 230) rfl) rfl
theorem ml_L_135 : Cond.methodLink R_L 135 y_L_wallAt ∈ BG := BG_2 (List.mem_of_getElem? (i := 232) rfl) rfl
theorem st_L_wallAt : Cond.static y_L_wallAt ∈ BG := BG_2 (List.mem_of_getElem? (i := 233) rfl) rfl
theorem cw_L_wallAt : Cond.codeWith y_L_wallAt b_L_wallAt 5 (some .int) [((0 : Nat), (9 : Nat), (12 : Nat), (13 : Nat))] ∈ BG := BG_2 (List.mem_of_getElem? (i := 234) rfl) rfl
theorem ml_L_56 : Cond.methodLink R_L 56 y_C_wallAt ∈ BG := BG_2 (List.mem_of_getElem? (i := 235) rfl) rfl
theorem im_C_wallAt : Cond.instanceMethod y_C_wallAt ∈ BG := BG_2 (List.mem_of_getElem? (i := 236) rfl) rfl
theorem se_C_wallAt : Cond.selects R_C y_C_wallAt y_C_wallAt ∈ BG := BG_2 (List.mem_of_getElem? (i := 237) rfl) rfl
theorem co_C_wallAt : Cond.code y_C_wallAt b_C_wallAt 3 (some .long) ∈ BG := BG_2 (List.mem_of_getElem? (i := 238) rfl) rfl
theorem ml_C_170 : Cond.methodLink R_C 170 y_C_netLength ∈ BG := BG_2 (List.mem_of_getElem? (i := 239) rfl) rfl
theorem im_C_netLength : Cond.instanceMethod y_C_netLength ∈ BG := BG_3 (List.mem_of_getElem? (i := 1) rfl) rfl
theorem co_C_netLength : Cond.code y_C_netLength b_C_netLength 4 (some .long) ∈ BG := BG_3 (List.mem_of_getElem? (i := 2) rfl) rfl
theorem ml_C_281 : Cond.methodLink R_C 281 y_W_leastAcross ∈ BG := BG_3 (List.mem_of_getElem? (i := 3) rfl) rfl
theorem im_W_leastAcross : Cond.instanceMethod y_W_leastAcross ∈ BG := BG_3 (List.mem_of_getElem? (i := 4) rfl) rfl
theorem se_W_leastAcross : Cond.selects R_W y_W_leastAcross y_W_leastAcross ∈ BG := BG_3 (List.mem_of_getElem? (i := 5) rfl) rfl
theorem co_W_leastAcross : Cond.code y_W_leastAcross b_W_leastAcross 5 (some .int) ∈ BG := BG_3 (List.mem_of_getElem? (i := 6) rfl) rfl
theorem ml_W_55 : Cond.methodLink R_W 55 y_W_goesAlongX ∈ BG := BG_3 (List.mem_of_getElem? (i := 7) rfl) rfl
theorem im_W_goesAlongX : Cond.instanceMethod y_W_goesAlongX ∈ BG := BG_3 (List.mem_of_getElem? (i := 8) rfl) rfl
theorem se_W_goesAlongX : Cond.selects R_W y_W_goesAlongX y_W_goesAlongX ∈ BG := BG_3 (List.mem_of_getElem? (i := 9) rfl) rfl
theorem co_W_goesAlongX : Cond.code y_W_goesAlongX b_W_goesAlongX 2 (some .boolean) ∈ BG := BG_3 (List.mem_of_getElem? (i := 10) rfl) rfl
theorem ml_W_58 : Cond.methodLink R_W 58 y_W_hasEndAt ∈ BG := BG_3 (List.mem_of_getElem? (i := 11) rfl) rfl
theorem im_W_hasEndAt : Cond.instanceMethod y_W_hasEndAt ∈ BG := BG_3 (List.mem_of_getElem? (i := 12) rfl) rfl
theorem se_W_hasEndAt : Cond.selects R_W y_W_hasEndAt y_W_hasEndAt ∈ BG := BG_3 (List.mem_of_getElem? (i := 13) rfl) rfl
theorem co_W_hasEndAt : Cond.code y_W_hasEndAt b_W_hasEndAt 4 (some .boolean) ∈ BG := BG_3 (List.mem_of_getElem? (i := 14) rfl) rfl
theorem ml_C_284 : Cond.methodLink R_C 284 y_C_gainByJoin ∈ BG := BG_3 (List.mem_of_getElem? (i := 15) rfl) rfl
theorem im_C_gainByJoin : Cond.instanceMethod y_C_gainByJoin ∈ BG := BG_3 (List.mem_of_getElem? (i := 17) rfl) rfl
theorem co_C_gainByJoin : Cond.code y_C_gainByJoin b_C_gainByJoin 4 (some .int) ∈ BG := BG_3 (List.mem_of_getElem? (i := 18) rfl) rfl
theorem ml_C_288 : Cond.methodLink R_C 288 y_C_halfThickness ∈ BG := BG_3 (List.mem_of_getElem? (i := 19) rfl) rfl
theorem im_C_halfThickness : Cond.instanceMethod y_C_halfThickness ∈ BG := BG_3 (List.mem_of_getElem? (i := 21) rfl) rfl
theorem co_C_halfThickness : Cond.code y_C_halfThickness b_C_halfThickness 2 (some .int) ∈ BG := BG_3 (List.mem_of_getElem? (i := 22) rfl) rfl
theorem ml_C_174 : Cond.methodLink R_C 174 y_C_area ∈ BG := BG_3 (List.mem_of_getElem? (i := 23) rfl) rfl
theorem im_C_area : Cond.instanceMethod y_C_area ∈ BG := BG_3 (List.mem_of_getElem? (i := 25) rfl) rfl
theorem co_C_area : Cond.code y_C_area b_C_area 4 (some .long) ∈ BG := BG_3 (List.mem_of_getElem? (i := 26) rfl) rfl
theorem ml_C_201 : Cond.methodLink R_C 201 y_S_height ∈ BG := BG_3 (List.mem_of_getElem? (i := 27) rfl) rfl
theorem im_S_height : Cond.instanceMethod y_S_height ∈ BG := BG_3 (List.mem_of_getElem? (i := 28) rfl) rfl
theorem se_S_height : Cond.selects R_S y_S_height y_S_height ∈ BG := BG_3 (List.mem_of_getElem? (i := 29) rfl) rfl
theorem co_S_height : Cond.code y_S_height b_S_height 2 (some .int) ∈ BG := BG_3 (List.mem_of_getElem? (i := 30) rfl) rfl
theorem ml_C_291 : Cond.methodLink R_C 291 ⟨"java/lang/Math", "min", "(II)I"⟩ ∈ BG := BG_3 (List.mem_of_getElem? (i := 31) rfl) rfl
theorem st_Math_minIII : Cond.static ⟨"java/lang/Math", "min", "(II)I"⟩ ∈ BG := BG_3 (List.mem_of_getElem? (i := 32) rfl) rfl
theorem co_Math_minIII : Cond.code ⟨"java/lang/Math", "min", "(II)I"⟩ prog_12_method_69_code 2 (Option.some Jvm.ClassFile.FieldType.int) ∈ BG := BG_3 (List.mem_of_getElem? (i := 33) rfl) rfl
theorem ml_C_296 : Cond.methodLink R_C 296 y_O_widthOf ∈ BG := BG_3 (List.mem_of_getElem? (i := 34) rfl) rfl
theorem im_O_widthOf : Cond.instanceMethod y_O_widthOf ∈ BG := BG_3 (List.mem_of_getElem? (i := 35) rfl) rfl
theorem se_O_widthOf : Cond.selects R_O y_O_widthOf y_O_widthOf ∈ BG := BG_3 (List.mem_of_getElem? (i := 36) rfl) rfl
theorem co_O_widthOf : Cond.code y_O_widthOf b_O_widthOf 4 (some .int) ∈ BG := BG_3 (List.mem_of_getElem? (i := 37) rfl) rfl
theorem ml_C_177 : Cond.methodLink R_C 177 y_O_manyOf ∈ BG := BG_3 (List.mem_of_getElem? (i := 38) rfl) rfl
theorem im_O_manyOf : Cond.instanceMethod y_O_manyOf ∈ BG := BG_3 (List.mem_of_getElem? (i := 39) rfl) rfl
theorem se_O_manyOf : Cond.selects R_O y_O_manyOf y_O_manyOf ∈ BG := BG_3 (List.mem_of_getElem? (i := 40) rfl) rfl
theorem co_O_manyOf : Cond.code y_O_manyOf b_O_manyOf 4 (some .int) ∈ BG := BG_3 (List.mem_of_getElem? (i := 41) rfl) rfl
theorem ml_L_138 : Cond.methodLink R_L 138 y_L_openingAt ∈ BG := BG_3 (List.mem_of_getElem? (i := 43) rfl) rfl
theorem st_L_openingAt : Cond.static y_L_openingAt ∈ BG := BG_3 (List.mem_of_getElem? (i := 44) rfl) rfl
theorem cw_L_openingAt : Cond.codeWith y_L_openingAt b_L_openingAt 5 (some .int) [((0 : Nat), (10 : Nat), (13 : Nat), (13 : Nat))] ∈ BG := BG_3 (List.mem_of_getElem? (i := 45) rfl) rfl
theorem ml_L_60 : Cond.methodLink R_L 60 y_C_openingAt ∈ BG := BG_3 (List.mem_of_getElem? (i := 46) rfl) rfl
theorem im_C_openingAt : Cond.instanceMethod y_C_openingAt ∈ BG := BG_3 (List.mem_of_getElem? (i := 47) rfl) rfl
theorem se_C_openingAt : Cond.selects R_C y_C_openingAt y_C_openingAt ∈ BG := BG_3 (List.mem_of_getElem? (i := 48) rfl) rfl
theorem co_C_openingAt : Cond.code y_C_openingAt b_C_openingAt 3 (some .int) ∈ BG := BG_3 (List.mem_of_getElem? (i := 49) rfl) rfl
theorem ml_C_182 : Cond.methodLink R_C 182 y_O_has ∈ BG := BG_3 (List.mem_of_getElem? (i := 50) rfl) rfl
theorem im_O_has : Cond.instanceMethod y_O_has ∈ BG := BG_3 (List.mem_of_getElem? (i := 51) rfl) rfl
theorem se_O_has : Cond.selects R_O y_O_has y_O_has ∈ BG := BG_3 (List.mem_of_getElem? (i := 52) rfl) rfl
theorem co_O_has : Cond.code y_O_has b_O_has 2 (some .boolean) ∈ BG := BG_3 (List.mem_of_getElem? (i := 53) rfl) rfl
theorem ml_L_141 : Cond.methodLink R_L 141 y_L_storeyAt ∈ BG := BG_3 (List.mem_of_getElem? (i := 56) rfl) rfl
theorem st_L_storeyAt : Cond.static y_L_storeyAt ∈ BG := BG_3 (List.mem_of_getElem? (i := 57) rfl) rfl
theorem cw_L_storeyAt : Cond.codeWith y_L_storeyAt b_L_storeyAt 5 (some .int) [((0 : Nat), (9 : Nat), (12 : Nat), (13 : Nat))] ∈ BG := BG_3 (List.mem_of_getElem? (i := 58) rfl) rfl
theorem ml_L_63 : Cond.methodLink R_L 63 y_C_storeyAt ∈ BG := BG_3 (List.mem_of_getElem? (i := 59) rfl) rfl
theorem im_C_storeyAt : Cond.instanceMethod y_C_storeyAt ∈ BG := BG_3 (List.mem_of_getElem? (i := 60) rfl) rfl
theorem se_C_storeyAt : Cond.selects R_C y_C_storeyAt y_C_storeyAt ∈ BG := BG_3 (List.mem_of_getElem? (i := 61) rfl) rfl
theorem co_C_storeyAt : Cond.code y_C_storeyAt b_C_storeyAt 3 (some .long) ∈ BG := BG_3 (List.mem_of_getElem? (i := 62) rfl) rfl
theorem ml_C_204 : Cond.methodLink R_C 204 y_C_areaOf ∈ BG := BG_3 (List.mem_of_getElem? (i := 63) rfl) rfl
theorem im_C_areaOf : Cond.instanceMethod y_C_areaOf ∈ BG := BG_3 (List.mem_of_getElem? (i := 65) rfl) rfl
theorem co_C_areaOf : Cond.code y_C_areaOf b_C_areaOf 5 (some .long) ∈ BG := BG_3 (List.mem_of_getElem? (i := 66) rfl) rfl
theorem ml_L_144 : Cond.methodLink R_L 144 y_L_typeAt ∈ BG := BG_3 (List.mem_of_getElem? (i := 68) rfl) rfl
theorem st_L_typeAt : Cond.static y_L_typeAt ∈ BG := BG_3 (List.mem_of_getElem? (i := 69) rfl) rfl
theorem cw_L_typeAt : Cond.codeWith y_L_typeAt b_L_typeAt 5 (some .int) [((0 : Nat), (9 : Nat), (12 : Nat), (13 : Nat))] ∈ BG := BG_3 (List.mem_of_getElem? (i := 70) rfl) rfl
theorem ml_L_66 : Cond.methodLink R_L 66 y_C_typeAt ∈ BG := BG_3 (List.mem_of_getElem? (i := 71) rfl) rfl
theorem im_C_typeAt : Cond.instanceMethod y_C_typeAt ∈ BG := BG_3 (List.mem_of_getElem? (i := 72) rfl) rfl
theorem se_C_typeAt : Cond.selects R_C y_C_typeAt y_C_typeAt ∈ BG := BG_3 (List.mem_of_getElem? (i := 73) rfl) rfl
theorem co_C_typeAt : Cond.code y_C_typeAt b_C_typeAt 3 (some .long) ∈ BG := BG_3 (List.mem_of_getElem? (i := 74) rfl) rfl
theorem ml_C_209 : Cond.methodLink R_C 209 y_W_manyWith ∈ BG := BG_3 (List.mem_of_getElem? (i := 75) rfl) rfl
theorem im_W_manyWith : Cond.instanceMethod y_W_manyWith ∈ BG := BG_3 (List.mem_of_getElem? (i := 76) rfl) rfl
theorem se_W_manyWith : Cond.selects R_W y_W_manyWith y_W_manyWith ∈ BG := BG_3 (List.mem_of_getElem? (i := 77) rfl) rfl
theorem co_W_manyWith : Cond.code y_W_manyWith b_W_manyWith 4 (some .int) ∈ BG := BG_3 (List.mem_of_getElem? (i := 78) rfl) rfl
theorem ml_W_52 : Cond.methodLink R_W 52 y_W_isWith ∈ BG := BG_3 (List.mem_of_getElem? (i := 79) rfl) rfl
theorem im_W_isWith : Cond.instanceMethod y_W_isWith ∈ BG := BG_3 (List.mem_of_getElem? (i := 80) rfl) rfl
theorem se_W_isWith : Cond.selects R_W y_W_isWith y_W_isWith ∈ BG := BG_3 (List.mem_of_getElem? (i := 81) rfl) rfl
theorem co_W_isWith : Cond.code y_W_isWith b_W_isWith 3 (some .boolean) ∈ BG := BG_3 (List.mem_of_getElem? (i := 82) rfl) rfl
theorem ml_C_212 : Cond.methodLink R_C 212 y_C_netLengthWith ∈ BG := BG_3 (List.mem_of_getElem? (i := 83) rfl) rfl
theorem im_C_netLengthWith : Cond.instanceMethod y_C_netLengthWith ∈ BG := BG_3 (List.mem_of_getElem? (i := 85) rfl) rfl
theorem co_C_netLengthWith : Cond.code y_C_netLengthWith b_C_netLengthWith 5 (some .long) ∈ BG := BG_3 (List.mem_of_getElem? (i := 86) rfl) rfl
theorem ml_C_299 : Cond.methodLink R_C 299 y_W_isWith ∈ BG := BG_3 (List.mem_of_getElem? (i := 87) rfl) rfl
theorem ml_L_147 : Cond.methodLink R_L 147 y_L_body ∈ BG := BG_3 (List.mem_of_getElem? (i := 89) rfl) rfl
theorem st_L_body : Cond.static y_L_body ∈ BG := BG_3 (List.mem_of_getElem? (i := 90) rfl) rfl
theorem cw_L_body : Cond.codeWith y_L_body b_L_body 7 (some .int) [((0 : Nat), (14 : Nat), (17 : Nat), (13 : Nat))] ∈ BG := BG_3 (List.mem_of_getElem? (i := 91) rfl) rfl
theorem ml_L_69 : Cond.methodLink R_L 69 y_C_body ∈ BG := BG_3 (List.mem_of_getElem? (i := 92) rfl) rfl
theorem im_C_body : Cond.instanceMethod y_C_body ∈ BG := BG_3 (List.mem_of_getElem? (i := 93) rfl) rfl
theorem se_C_body : Cond.selects R_C y_C_body y_C_body ∈ BG := BG_3 (List.mem_of_getElem? (i := 94) rfl) rfl
theorem co_C_body : Cond.code y_C_body b_C_body 7 (some .int) ∈ BG := BG_3 (List.mem_of_getElem? (i := 95) rfl) rfl
theorem ml_C_223 : Cond.methodLink R_C 223 y_C_covers ∈ BG := BG_3 (List.mem_of_getElem? (i := 97) rfl) rfl
theorem im_C_covers : Cond.instanceMethod y_C_covers ∈ BG := BG_3 (List.mem_of_getElem? (i := 99) rfl) rfl
theorem co_C_covers : Cond.code y_C_covers b_C_covers 7 (some .boolean) ∈ BG := BG_3 (List.mem_of_getElem? (i := 100) rfl) rfl
theorem ml_C_302 : Cond.methodLink R_C 302 y_W_goesAlongX ∈ BG := BG_3 (List.mem_of_getElem? (i := 101) rfl) rfl
theorem ml_C_305 : Cond.methodLink R_C 305 ⟨"java/lang/Math", "max", "(II)I"⟩ ∈ BG := BG_3 (List.mem_of_getElem? (i := 102) rfl) rfl
theorem st_Math_maxIII : Cond.static ⟨"java/lang/Math", "max", "(II)I"⟩ ∈ BG := BG_3 (List.mem_of_getElem? (i := 103) rfl) rfl
theorem co_Math_maxIII : Cond.code ⟨"java/lang/Math", "max", "(II)I"⟩ prog_12_method_65_code 2 (Option.some Jvm.ClassFile.FieldType.int) ∈ BG := BG_3 (List.mem_of_getElem? (i := 104) rfl) rfl
theorem cl_L_74 : Cond.classLink R_L 74 R_M ∈ BG := BG_3 (List.mem_of_getElem? (i := 105) rfl) rfl
theorem ins_M : Cond.instantiable R_M 20 ∈ BG := BG_3 (List.mem_of_getElem? (i := 106) rfl) rfl
theorem ml_L_76 : Cond.methodLink R_L 76 y_M_init ∈ BG := BG_3 (List.mem_of_getElem? (i := 107) rfl) rfl
theorem im_M_init : Cond.instanceMethod y_M_init ∈ BG := BG_3 (List.mem_of_getElem? (i := 108) rfl) rfl
theorem co_M_init : Cond.code y_M_init b_M_init 1 none ∈ BG := BG_3 (List.mem_of_getElem? (i := 109) rfl) rfl
theorem ml_M_1 : Cond.methodLink R_M 1 ⟨"java/lang/Object", "<init>", "()V"⟩ ∈ BG := BG_3 (List.mem_of_getElem? (i := 110) rfl) rfl
theorem fl_M_50 : Cond.fieldLink R_M 50 "StoreyShapesModel" "code" "I" ∈ BG := BG_3 (List.mem_of_getElem? (i := 111) rfl) rfl
theorem fl_M_7 : Cond.fieldLink R_M 7 "StoreyShapesModel" "acts" "[I" ∈ BG := BG_3 (List.mem_of_getElem? (i := 112) rfl) rfl
theorem fl_M_71 : Cond.fieldLink R_M 71 "StoreyShapesModel" "done" "I" ∈ BG := BG_3 (List.mem_of_getElem? (i := 113) rfl) rfl
theorem fl_M_74 : Cond.fieldLink R_M 74 "StoreyShapesModel" "undone" "I" ∈ BG := BG_3 (List.mem_of_getElem? (i := 114) rfl) rfl
theorem fl_M_54 : Cond.fieldLink R_M 54 "StoreyShapesModel" "storeys" "I" ∈ BG := BG_3 (List.mem_of_getElem? (i := 115) rfl) rfl
theorem fl_M_13 : Cond.fieldLink R_M 13 "StoreyShapesModel" "levels" "[I" ∈ BG := BG_3 (List.mem_of_getElem? (i := 116) rfl) rfl
theorem fl_M_57 : Cond.fieldLink R_M 57 "StoreyShapesModel" "types" "I" ∈ BG := BG_3 (List.mem_of_getElem? (i := 117) rfl) rfl
theorem fl_M_16 : Cond.fieldLink R_M 16 "StoreyShapesModel" "thick" "[I" ∈ BG := BG_3 (List.mem_of_getElem? (i := 118) rfl) rfl
theorem fl_M_60 : Cond.fieldLink R_M 60 "StoreyShapesModel" "walls" "I" ∈ BG := BG_3 (List.mem_of_getElem? (i := 119) rfl) rfl
theorem fl_M_19 : Cond.fieldLink R_M 19 "StoreyShapesModel" "storeyOf" "[I" ∈ BG := BG_3 (List.mem_of_getElem? (i := 120) rfl) rfl
theorem fl_M_22 : Cond.fieldLink R_M 22 "StoreyShapesModel" "typeOf" "[I" ∈ BG := BG_3 (List.mem_of_getElem? (i := 121) rfl) rfl
theorem fl_M_25 : Cond.fieldLink R_M 25 "StoreyShapesModel" "x0" "[I" ∈ BG := BG_3 (List.mem_of_getElem? (i := 122) rfl) rfl
theorem fl_M_28 : Cond.fieldLink R_M 28 "StoreyShapesModel" "y0" "[I" ∈ BG := BG_3 (List.mem_of_getElem? (i := 123) rfl) rfl
theorem fl_M_31 : Cond.fieldLink R_M 31 "StoreyShapesModel" "x1" "[I" ∈ BG := BG_3 (List.mem_of_getElem? (i := 124) rfl) rfl
theorem fl_M_34 : Cond.fieldLink R_M 34 "StoreyShapesModel" "y1" "[I" ∈ BG := BG_3 (List.mem_of_getElem? (i := 125) rfl) rfl
theorem fl_M_37 : Cond.fieldLink R_M 37 "StoreyShapesModel" "there" "[Z" ∈ BG := BG_3 (List.mem_of_getElem? (i := 126) rfl) rfl
theorem fl_M_81 : Cond.fieldLink R_M 81 "StoreyShapesModel" "openings" "I" ∈ BG := BG_3 (List.mem_of_getElem? (i := 127) rfl) rfl
theorem fl_M_41 : Cond.fieldLink R_M 41 "StoreyShapesModel" "wallOf" "[I" ∈ BG := BG_3 (List.mem_of_getElem? (i := 128) rfl) rfl
theorem fl_M_44 : Cond.fieldLink R_M 44 "StoreyShapesModel" "begin" "[I" ∈ BG := BG_3 (List.mem_of_getElem? (i := 129) rfl) rfl
theorem fl_M_47 : Cond.fieldLink R_M 47 "StoreyShapesModel" "wide" "[I" ∈ BG := BG_3 (List.mem_of_getElem? (i := 130) rfl) rfl
theorem ml_L_83 : Cond.methodLink R_L 83 y_M_thrown ∈ BG := BG_3 (List.mem_of_getElem? (i := 172) rfl) rfl
theorem im_M_thrown : Cond.instanceMethod y_M_thrown ∈ BG := BG_3 (List.mem_of_getElem? (i := 173) rfl) rfl
theorem se_M_thrown : Cond.selects R_M y_M_thrown y_M_thrown ∈ BG := BG_3 (List.mem_of_getElem? (i := 174) rfl) rfl
theorem co_M_thrown : Cond.code y_M_thrown b_M_thrown 1 (some .int) ∈ BG := BG_3 (List.mem_of_getElem? (i := 175) rfl) rfl
theorem ml_L_82 : Cond.methodLink R_L 82 y_M_storey ∈ BG := BG_3 (List.mem_of_getElem? (i := 176) rfl) rfl
theorem im_M_storey : Cond.instanceMethod y_M_storey ∈ BG := BG_3 (List.mem_of_getElem? (i := 177) rfl) rfl
theorem se_M_storey : Cond.selects R_M y_M_storey y_M_storey ∈ BG := BG_3 (List.mem_of_getElem? (i := 178) rfl) rfl
theorem co_M_storey : Cond.code y_M_storey b_M_storey 3 (some .int) ∈ BG := BG_3 (List.mem_of_getElem? (i := 179) rfl) rfl
theorem kl_M_63 : Cond.constantLong R_M 63 (-1000 : Int64) ∈ BG := BG_3 (List.mem_of_getElem? (i := 180) rfl) rfl
theorem kl_M_96 : Cond.constantLong R_M 96 (10000 : Int64) ∈ BG := BG_3 (List.mem_of_getElem? (i := 181) rfl) rfl
theorem ml_M_67 : Cond.methodLink R_M 67 y_M_isIn ∈ BG := BG_3 (List.mem_of_getElem? (i := 182) rfl) rfl
theorem st_M_isIn : Cond.static y_M_isIn ∈ BG := BG_3 (List.mem_of_getElem? (i := 183) rfl) rfl
theorem co_M_isIn : Cond.code y_M_isIn b_M_isIn 6 (some .boolean) ∈ BG := BG_3 (List.mem_of_getElem? (i := 184) rfl) rfl
theorem ml_M_98 : Cond.methodLink R_M 98 y_M_goes ∈ BG := BG_3 (List.mem_of_getElem? (i := 185) rfl) rfl
theorem im_M_goes : Cond.instanceMethod y_M_goes ∈ BG := BG_3 (List.mem_of_getElem? (i := 187) rfl) rfl
theorem co_M_goes : Cond.code y_M_goes b_M_goes 3 (some .boolean) ∈ BG := BG_3 (List.mem_of_getElem? (i := 188) rfl) rfl
theorem ml_M_102 : Cond.methodLink R_M 102 y_M_act ∈ BG := BG_3 (List.mem_of_getElem? (i := 189) rfl) rfl
theorem im_M_act : Cond.instanceMethod y_M_act ∈ BG := BG_3 (List.mem_of_getElem? (i := 191) rfl) rfl
theorem co_M_act : Cond.code y_M_act b_M_act 9 (some .int) ∈ BG := BG_3 (List.mem_of_getElem? (i := 192) rfl) rfl
theorem ml_M_77 : Cond.methodLink R_M 77 y_M_draw ∈ BG := BG_3 (List.mem_of_getElem? (i := 193) rfl) rfl
theorem im_M_draw : Cond.instanceMethod y_M_draw ∈ BG := BG_3 (List.mem_of_getElem? (i := 195) rfl) rfl
theorem co_M_draw : Cond.code y_M_draw b_M_draw 6 (some .int) ∈ BG := BG_3 (List.mem_of_getElem? (i := 196) rfl) rfl
theorem ml_M_84 : Cond.methodLink R_M 84 y_M_add ∈ BG := BG_3 (List.mem_of_getElem? (i := 197) rfl) rfl
theorem im_M_add : Cond.instanceMethod y_M_add ∈ BG := BG_3 (List.mem_of_getElem? (i := 199) rfl) rfl
theorem co_M_add : Cond.code y_M_add b_M_add 7 (some .int) ∈ BG := BG_3 (List.mem_of_getElem? (i := 200) rfl) rfl
theorem ml_M_88 : Cond.methodLink R_M 88 y_M_cut ∈ BG := BG_3 (List.mem_of_getElem? (i := 201) rfl) rfl
theorem im_M_cut : Cond.instanceMethod y_M_cut ∈ BG := BG_3 (List.mem_of_getElem? (i := 203) rfl) rfl
theorem co_M_cut : Cond.code y_M_cut b_M_cut 4 (some .int) ∈ BG := BG_3 (List.mem_of_getElem? (i := 204) rfl) rfl
theorem ml_M_92 : Cond.methodLink R_M 92 y_M_copied ∈ BG := BG_3 (List.mem_of_getElem? (i := 205) rfl) rfl
theorem im_M_copied : Cond.instanceMethod y_M_copied ∈ BG := BG_3 (List.mem_of_getElem? (i := 207) rfl) rfl
theorem co_M_copied : Cond.code y_M_copied b_M_copied 9 (some .int) ∈ BG := BG_3 (List.mem_of_getElem? (i := 208) rfl) rfl
theorem ml_L_90 : Cond.methodLink R_L 90 y_M_level ∈ BG := BG_3 (List.mem_of_getElem? (i := 209) rfl) rfl
theorem im_M_level : Cond.instanceMethod y_M_level ∈ BG := BG_3 (List.mem_of_getElem? (i := 210) rfl) rfl
theorem se_M_level : Cond.selects R_M y_M_level y_M_level ∈ BG := BG_3 (List.mem_of_getElem? (i := 211) rfl) rfl
theorem co_M_level : Cond.code y_M_level b_M_level 4 none ∈ BG := BG_3 (List.mem_of_getElem? (i := 212) rfl) rfl
theorem ml_M_106 : Cond.methodLink R_M 106 y_M_isStorey ∈ BG := BG_3 (List.mem_of_getElem? (i := 213) rfl) rfl
theorem im_M_isStorey : Cond.instanceMethod y_M_isStorey ∈ BG := BG_3 (List.mem_of_getElem? (i := 215) rfl) rfl
theorem co_M_isStorey : Cond.code y_M_isStorey b_M_isStorey 2 (some .boolean) ∈ BG := BG_3 (List.mem_of_getElem? (i := 216) rfl) rfl
theorem ml_L_93 : Cond.methodLink R_L 93 y_M_type ∈ BG := BG_3 (List.mem_of_getElem? (i := 217) rfl) rfl
theorem im_M_type : Cond.instanceMethod y_M_type ∈ BG := BG_3 (List.mem_of_getElem? (i := 218) rfl) rfl
theorem se_M_type : Cond.selects R_M y_M_type y_M_type ∈ BG := BG_3 (List.mem_of_getElem? (i := 219) rfl) rfl
theorem co_M_type : Cond.code y_M_type b_M_type 2 (some .int) ∈ BG := BG_3 (List.mem_of_getElem? (i := 220) rfl) rfl
theorem ml_M_110 : Cond.methodLink R_M 110 y_M_isThick ∈ BG := BG_3 (List.mem_of_getElem? (i := 221) rfl) rfl
theorem st_M_isThick : Cond.static y_M_isThick ∈ BG := BG_3 (List.mem_of_getElem? (i := 222) rfl) rfl
theorem co_M_isThick : Cond.code y_M_isThick b_M_isThick 1 (some .boolean) ∈ BG := BG_3 (List.mem_of_getElem? (i := 223) rfl) rfl
theorem ml_L_96 : Cond.methodLink R_L 96 y_M_thickness ∈ BG := BG_3 (List.mem_of_getElem? (i := 224) rfl) rfl
theorem im_M_thickness : Cond.instanceMethod y_M_thickness ∈ BG := BG_3 (List.mem_of_getElem? (i := 225) rfl) rfl
theorem se_M_thickness : Cond.selects R_M y_M_thickness y_M_thickness ∈ BG := BG_3 (List.mem_of_getElem? (i := 226) rfl) rfl
theorem co_M_thickness : Cond.code y_M_thickness b_M_thickness 3 none ∈ BG := BG_3 (List.mem_of_getElem? (i := 227) rfl) rfl
theorem ml_M_113 : Cond.methodLink R_M 113 y_M_isType ∈ BG := BG_3 (List.mem_of_getElem? (i := 228) rfl) rfl
theorem im_M_isType : Cond.instanceMethod y_M_isType ∈ BG := BG_3 (List.mem_of_getElem? (i := 230) rfl) rfl
theorem co_M_isType : Cond.code y_M_isType b_M_isType 2 (some .boolean) ∈ BG := BG_3 (List.mem_of_getElem? (i := 231) rfl) rfl
theorem ml_L_100 : Cond.methodLink R_L 100 y_M_wall ∈ BG := BG_3 (List.mem_of_getElem? (i := 232) rfl) rfl
theorem im_M_wall : Cond.instanceMethod y_M_wall ∈ BG := BG_3 (List.mem_of_getElem? (i := 233) rfl) rfl
theorem se_M_wall : Cond.selects R_M y_M_wall y_M_wall ∈ BG := BG_3 (List.mem_of_getElem? (i := 234) rfl) rfl
theorem co_M_wall : Cond.code y_M_wall b_M_wall 8 (some .int) ∈ BG := BG_3 (List.mem_of_getElem? (i := 235) rfl) rfl
theorem ml_M_116 : Cond.methodLink R_M 116 y_M_isPlace ∈ BG := BG_3 (List.mem_of_getElem? (i := 236) rfl) rfl
theorem st_M_isPlace : Cond.static y_M_isPlace ∈ BG := BG_3 (List.mem_of_getElem? (i := 237) rfl) rfl
theorem co_M_isPlace : Cond.code y_M_isPlace b_M_isPlace 4 (some .boolean) ∈ BG := BG_3 (List.mem_of_getElem? (i := 238) rfl) rfl
theorem kl_M_65 : Cond.constantLong R_M 65 (1000 : Int64) ∈ BG := BG_3 (List.mem_of_getElem? (i := 239) rfl) rfl
theorem ml_L_104 : Cond.methodLink R_L 104 y_M_move ∈ BG := BG_4 (List.mem_of_getElem? (i := 0) rfl) rfl
theorem im_M_move : Cond.instanceMethod y_M_move ∈ BG := BG_4 (List.mem_of_getElem? (i := 1) rfl) rfl
theorem se_M_move : Cond.selects R_M y_M_move y_M_move ∈ BG := BG_4 (List.mem_of_getElem? (i := 2) rfl) rfl
theorem co_M_move : Cond.code y_M_move b_M_move 5 none ∈ BG := BG_4 (List.mem_of_getElem? (i := 3) rfl) rfl
theorem ml_M_120 : Cond.methodLink R_M 120 y_M_isWall ∈ BG := BG_4 (List.mem_of_getElem? (i := 4) rfl) rfl
theorem im_M_isWall : Cond.instanceMethod y_M_isWall ∈ BG := BG_4 (List.mem_of_getElem? (i := 6) rfl) rfl
theorem co_M_isWall : Cond.code y_M_isWall b_M_isWall 2 (some .boolean) ∈ BG := BG_4 (List.mem_of_getElem? (i := 7) rfl) rfl
theorem ml_L_107 : Cond.methodLink R_L 107 y_M_retype ∈ BG := BG_4 (List.mem_of_getElem? (i := 8) rfl) rfl
theorem im_M_retype : Cond.instanceMethod y_M_retype ∈ BG := BG_4 (List.mem_of_getElem? (i := 9) rfl) rfl
theorem se_M_retype : Cond.selects R_M y_M_retype y_M_retype ∈ BG := BG_4 (List.mem_of_getElem? (i := 10) rfl) rfl
theorem co_M_retype : Cond.code y_M_retype b_M_retype 3 none ∈ BG := BG_4 (List.mem_of_getElem? (i := 11) rfl) rfl
theorem ml_L_111 : Cond.methodLink R_L 111 y_M_remove ∈ BG := BG_4 (List.mem_of_getElem? (i := 12) rfl) rfl
theorem im_M_remove : Cond.instanceMethod y_M_remove ∈ BG := BG_4 (List.mem_of_getElem? (i := 13) rfl) rfl
theorem se_M_remove : Cond.selects R_M y_M_remove y_M_remove ∈ BG := BG_4 (List.mem_of_getElem? (i := 14) rfl) rfl
theorem co_M_remove : Cond.code y_M_remove b_M_remove 2 none ∈ BG := BG_4 (List.mem_of_getElem? (i := 15) rfl) rfl
theorem ml_L_115 : Cond.methodLink R_L 115 y_M_opening ∈ BG := BG_4 (List.mem_of_getElem? (i := 16) rfl) rfl
theorem im_M_opening : Cond.instanceMethod y_M_opening ∈ BG := BG_4 (List.mem_of_getElem? (i := 17) rfl) rfl
theorem se_M_opening : Cond.selects R_M y_M_opening y_M_opening ∈ BG := BG_4 (List.mem_of_getElem? (i := 18) rfl) rfl
theorem co_M_opening : Cond.code y_M_opening b_M_opening 7 (some .int) ∈ BG := BG_4 (List.mem_of_getElem? (i := 19) rfl) rfl
theorem ml_M_123 : Cond.methodLink R_M 123 y_M_length ∈ BG := BG_4 (List.mem_of_getElem? (i := 20) rfl) rfl
theorem im_M_length : Cond.instanceMethod y_M_length ∈ BG := BG_4 (List.mem_of_getElem? (i := 22) rfl) rfl
theorem co_M_length : Cond.code y_M_length b_M_length 2 (some .int) ∈ BG := BG_4 (List.mem_of_getElem? (i := 23) rfl) rfl
theorem ml_M_129 : Cond.methodLink R_M 129 y_M_size ∈ BG := BG_4 (List.mem_of_getElem? (i := 24) rfl) rfl
theorem st_M_size : Cond.static y_M_size ∈ BG := BG_4 (List.mem_of_getElem? (i := 25) rfl) rfl
theorem co_M_size : Cond.code y_M_size b_M_size 1 (some .int) ∈ BG := BG_4 (List.mem_of_getElem? (i := 26) rfl) rfl
theorem ml_L_119 : Cond.methodLink R_L 119 y_M_copy ∈ BG := BG_4 (List.mem_of_getElem? (i := 27) rfl) rfl
theorem im_M_copy : Cond.instanceMethod y_M_copy ∈ BG := BG_4 (List.mem_of_getElem? (i := 28) rfl) rfl
theorem se_M_copy : Cond.selects R_M y_M_copy y_M_copy ∈ BG := BG_4 (List.mem_of_getElem? (i := 29) rfl) rfl
theorem co_M_copy : Cond.code y_M_copy b_M_copy 7 (some .int) ∈ BG := BG_4 (List.mem_of_getElem? (i := 30) rfl) rfl
theorem ml_M_126 : Cond.methodLink R_M 126 y_M_cuts ∈ BG := BG_4 (List.mem_of_getElem? (i := 31) rfl) rfl
theorem im_M_cuts : Cond.instanceMethod y_M_cuts ∈ BG := BG_4 (List.mem_of_getElem? (i := 33) rfl) rfl
theorem co_M_cuts : Cond.code y_M_cuts b_M_cuts 4 (some .int) ∈ BG := BG_4 (List.mem_of_getElem? (i := 34) rfl) rfl
theorem ml_L_124 : Cond.methodLink R_L 124 y_M_undo ∈ BG := BG_4 (List.mem_of_getElem? (i := 35) rfl) rfl
theorem im_M_undo : Cond.instanceMethod y_M_undo ∈ BG := BG_4 (List.mem_of_getElem? (i := 36) rfl) rfl
theorem se_M_undo : Cond.selects R_M y_M_undo y_M_undo ∈ BG := BG_4 (List.mem_of_getElem? (i := 37) rfl) rfl
theorem co_M_undo : Cond.code y_M_undo b_M_undo 2 (some .boolean) ∈ BG := BG_4 (List.mem_of_getElem? (i := 38) rfl) rfl
theorem ml_L_128 : Cond.methodLink R_L 128 y_M_redo ∈ BG := BG_4 (List.mem_of_getElem? (i := 39) rfl) rfl
theorem im_M_redo : Cond.instanceMethod y_M_redo ∈ BG := BG_4 (List.mem_of_getElem? (i := 40) rfl) rfl
theorem se_M_redo : Cond.selects R_M y_M_redo y_M_redo ∈ BG := BG_4 (List.mem_of_getElem? (i := 41) rfl) rfl
theorem co_M_redo : Cond.code y_M_redo b_M_redo 1 (some .boolean) ∈ BG := BG_4 (List.mem_of_getElem? (i := 42) rfl) rfl
theorem ml_L_131 : Cond.methodLink R_L 131 y_M_acts ∈ BG := BG_4 (List.mem_of_getElem? (i := 43) rfl) rfl
theorem im_M_acts : Cond.instanceMethod y_M_acts ∈ BG := BG_4 (List.mem_of_getElem? (i := 44) rfl) rfl
theorem se_M_acts : Cond.selects R_M y_M_acts y_M_acts ∈ BG := BG_4 (List.mem_of_getElem? (i := 45) rfl) rfl
theorem co_M_acts : Cond.code y_M_acts b_M_acts 2 (some .int) ∈ BG := BG_4 (List.mem_of_getElem? (i := 46) rfl) rfl
theorem ml_L_134 : Cond.methodLink R_L 134 y_M_many ∈ BG := BG_4 (List.mem_of_getElem? (i := 47) rfl) rfl
theorem im_M_many : Cond.instanceMethod y_M_many ∈ BG := BG_4 (List.mem_of_getElem? (i := 48) rfl) rfl
theorem se_M_many : Cond.selects R_M y_M_many y_M_many ∈ BG := BG_4 (List.mem_of_getElem? (i := 49) rfl) rfl
theorem co_M_many : Cond.code y_M_many b_M_many 2 (some .int) ∈ BG := BG_4 (List.mem_of_getElem? (i := 50) rfl) rfl
theorem kl_M_146 : Cond.constantLong R_M 146 (3 : Int64) ∈ BG := BG_4 (List.mem_of_getElem? (i := 51) rfl) rfl
theorem ml_M_148 : Cond.methodLink R_M 148 y_M_tells ∈ BG := BG_4 (List.mem_of_getElem? (i := 52) rfl) rfl
theorem im_M_tells : Cond.instanceMethod y_M_tells ∈ BG := BG_4 (List.mem_of_getElem? (i := 54) rfl) rfl
theorem co_M_tells : Cond.code y_M_tells b_M_tells 2 (some .boolean) ∈ BG := BG_4 (List.mem_of_getElem? (i := 55) rfl) rfl
theorem ml_L_137 : Cond.methodLink R_L 137 y_M_wallAt ∈ BG := BG_4 (List.mem_of_getElem? (i := 56) rfl) rfl
theorem im_M_wallAt : Cond.instanceMethod y_M_wallAt ∈ BG := BG_4 (List.mem_of_getElem? (i := 57) rfl) rfl
theorem se_M_wallAt : Cond.selects R_M y_M_wallAt y_M_wallAt ∈ BG := BG_4 (List.mem_of_getElem? (i := 58) rfl) rfl
theorem co_M_wallAt : Cond.code y_M_wallAt b_M_wallAt 3 (some .long) ∈ BG := BG_4 (List.mem_of_getElem? (i := 59) rfl) rfl
theorem kl_M_152 : Cond.constantLong R_M 152 (9 : Int64) ∈ BG := BG_4 (List.mem_of_getElem? (i := 60) rfl) rfl
theorem ml_M_141 : Cond.methodLink R_M 141 y_M_net ∈ BG := BG_4 (List.mem_of_getElem? (i := 61) rfl) rfl
theorem im_M_net : Cond.instanceMethod y_M_net ∈ BG := BG_4 (List.mem_of_getElem? (i := 63) rfl) rfl
theorem co_M_net : Cond.code y_M_net b_M_net 2 (some .int) ∈ BG := BG_4 (List.mem_of_getElem? (i := 64) rfl) rfl
theorem ml_M_135 : Cond.methodLink R_M 135 y_M_joined ∈ BG := BG_4 (List.mem_of_getElem? (i := 65) rfl) rfl
theorem im_M_joined : Cond.instanceMethod y_M_joined ∈ BG := BG_4 (List.mem_of_getElem? (i := 67) rfl) rfl
theorem co_M_joined : Cond.code y_M_joined b_M_joined 7 (some .int) ∈ BG := BG_4 (List.mem_of_getElem? (i := 68) rfl) rfl
theorem ml_M_132 : Cond.methodLink R_M 132 y_M_isAcross ∈ BG := BG_4 (List.mem_of_getElem? (i := 69) rfl) rfl
theorem im_M_isAcross : Cond.instanceMethod y_M_isAcross ∈ BG := BG_4 (List.mem_of_getElem? (i := 71) rfl) rfl
theorem co_M_isAcross : Cond.code y_M_isAcross b_M_isAcross 2 (some .boolean) ∈ BG := BG_4 (List.mem_of_getElem? (i := 72) rfl) rfl
theorem ml_M_154 : Cond.methodLink R_M 154 y_M_area ∈ BG := BG_4 (List.mem_of_getElem? (i := 73) rfl) rfl
theorem im_M_area : Cond.instanceMethod y_M_area ∈ BG := BG_4 (List.mem_of_getElem? (i := 75) rfl) rfl
theorem co_M_area : Cond.code y_M_area b_M_area 7 (some .long) ∈ BG := BG_4 (List.mem_of_getElem? (i := 76) rfl) rfl
theorem ml_M_138 : Cond.methodLink R_M 138 y_M_height ∈ BG := BG_4 (List.mem_of_getElem? (i := 77) rfl) rfl
theorem im_M_height : Cond.instanceMethod y_M_height ∈ BG := BG_4 (List.mem_of_getElem? (i := 79) rfl) rfl
theorem co_M_height : Cond.code y_M_height b_M_height 2 (some .int) ∈ BG := BG_4 (List.mem_of_getElem? (i := 80) rfl) rfl
theorem kl_M_144 : Cond.constantLong R_M 144 (200 : Int64) ∈ BG := BG_4 (List.mem_of_getElem? (i := 81) rfl) rfl
theorem ml_L_140 : Cond.methodLink R_L 140 y_M_openingAt ∈ BG := BG_4 (List.mem_of_getElem? (i := 82) rfl) rfl
theorem im_M_openingAt : Cond.instanceMethod y_M_openingAt ∈ BG := BG_4 (List.mem_of_getElem? (i := 83) rfl) rfl
theorem se_M_openingAt : Cond.selects R_M y_M_openingAt y_M_openingAt ∈ BG := BG_4 (List.mem_of_getElem? (i := 84) rfl) rfl
theorem co_M_openingAt : Cond.code y_M_openingAt b_M_openingAt 3 (some .int) ∈ BG := BG_4 (List.mem_of_getElem? (i := 85) rfl) rfl
theorem kl_M_158 : Cond.constantLong R_M 158 (2 : Int64) ∈ BG := BG_4 (List.mem_of_getElem? (i := 86) rfl) rfl
theorem ml_L_143 : Cond.methodLink R_L 143 y_M_storeyAt ∈ BG := BG_4 (List.mem_of_getElem? (i := 87) rfl) rfl
theorem im_M_storeyAt : Cond.instanceMethod y_M_storeyAt ∈ BG := BG_4 (List.mem_of_getElem? (i := 88) rfl) rfl
theorem se_M_storeyAt : Cond.selects R_M y_M_storeyAt y_M_storeyAt ∈ BG := BG_4 (List.mem_of_getElem? (i := 89) rfl) rfl
theorem co_M_storeyAt : Cond.code y_M_storeyAt b_M_storeyAt 8 (some .long) ∈ BG := BG_4 (List.mem_of_getElem? (i := 90) rfl) rfl
theorem ml_L_146 : Cond.methodLink R_L 146 y_M_typeAt ∈ BG := BG_4 (List.mem_of_getElem? (i := 91) rfl) rfl
theorem im_M_typeAt : Cond.instanceMethod y_M_typeAt ∈ BG := BG_4 (List.mem_of_getElem? (i := 92) rfl) rfl
theorem se_M_typeAt : Cond.selects R_M y_M_typeAt y_M_typeAt ∈ BG := BG_4 (List.mem_of_getElem? (i := 93) rfl) rfl
theorem co_M_typeAt : Cond.code y_M_typeAt b_M_typeAt 8 (some .long) ∈ BG := BG_4 (List.mem_of_getElem? (i := 94) rfl) rfl
theorem ml_L_150 : Cond.methodLink R_L 150 y_M_body ∈ BG := BG_4 (List.mem_of_getElem? (i := 95) rfl) rfl
theorem im_M_body : Cond.instanceMethod y_M_body ∈ BG := BG_4 (List.mem_of_getElem? (i := 96) rfl) rfl
theorem se_M_body : Cond.selects R_M y_M_body y_M_body ∈ BG := BG_4 (List.mem_of_getElem? (i := 97) rfl) rfl
theorem co_M_body : Cond.code y_M_body b_M_body 7 (some .int) ∈ BG := BG_4 (List.mem_of_getElem? (i := 98) rfl) rfl
theorem ml_M_160 : Cond.methodLink R_M 160 y_M_hasBody ∈ BG := BG_4 (List.mem_of_getElem? (i := 99) rfl) rfl
theorem im_M_hasBody : Cond.instanceMethod y_M_hasBody ∈ BG := BG_4 (List.mem_of_getElem? (i := 101) rfl) rfl
theorem co_M_hasBody : Cond.code y_M_hasBody b_M_hasBody 11 (some .boolean) ∈ BG := BG_4 (List.mem_of_getElem? (i := 102) rfl) rfl
theorem ac_long : Cond.arrayClass .long ∈ BG := BG_4 (List.mem_of_getElem? (i := 103) rfl) rfl
theorem se_C_step : Cond.selects R_C y_C_step y_C_step ∈ BG := BG_0 (List.mem_of_getElem? (i := 0) rfl) rfl
theorem se_C_exchange : Cond.selects R_C y_C_exchange y_C_exchange ∈ BG := BG_0 (List.mem_of_getElem? (i := 1) rfl) rfl
theorem se_C_goForward : Cond.selects R_C y_C_goForward y_C_goForward ∈ BG := BG_0 (List.mem_of_getElem? (i := 2) rfl) rfl
theorem se_C_checkLevel : Cond.selects R_C y_C_checkLevel y_C_checkLevel ∈ BG := BG_0 (List.mem_of_getElem? (i := 3) rfl) rfl
theorem se_C_checkRoomForAct : Cond.selects R_C y_C_checkRoomForAct y_C_checkRoomForAct ∈ BG := BG_0 (List.mem_of_getElem? (i := 5) rfl) rfl
theorem se_C_perform : Cond.selects R_C y_C_perform y_C_perform ∈ BG := BG_0 (List.mem_of_getElem? (i := 6) rfl) rfl
theorem se_C_checkStorey : Cond.selects R_C y_C_checkStorey y_C_checkStorey ∈ BG := BG_0 (List.mem_of_getElem? (i := 7) rfl) rfl
theorem se_C_checkType : Cond.selects R_C y_C_checkType y_C_checkType ∈ BG := BG_0 (List.mem_of_getElem? (i := 8) rfl) rfl
theorem se_C_checkWall : Cond.selects R_C y_C_checkWall y_C_checkWall ∈ BG := BG_0 (List.mem_of_getElem? (i := 9) rfl) rfl
theorem se_C_openingsOn : Cond.selects R_C y_C_openingsOn y_C_openingsOn ∈ BG := BG_0 (List.mem_of_getElem? (i := 10) rfl) rfl
theorem se_C_writeCopies : Cond.selects R_C y_C_writeCopies y_C_writeCopies ∈ BG := BG_0 (List.mem_of_getElem? (i := 11) rfl) rfl
theorem se_C_netLength : Cond.selects R_C y_C_netLength y_C_netLength ∈ BG := BG_0 (List.mem_of_getElem? (i := 12) rfl) rfl
theorem se_C_gainByJoin : Cond.selects R_C y_C_gainByJoin y_C_gainByJoin ∈ BG := BG_0 (List.mem_of_getElem? (i := 13) rfl) rfl
theorem se_C_halfThickness : Cond.selects R_C y_C_halfThickness y_C_halfThickness ∈ BG := BG_0 (List.mem_of_getElem? (i := 14) rfl) rfl
theorem se_C_area : Cond.selects R_C y_C_area y_C_area ∈ BG := BG_0 (List.mem_of_getElem? (i := 15) rfl) rfl
theorem se_C_areaOf : Cond.selects R_C y_C_areaOf y_C_areaOf ∈ BG := BG_0 (List.mem_of_getElem? (i := 16) rfl) rfl
theorem se_C_netLengthWith : Cond.selects R_C y_C_netLengthWith y_C_netLengthWith ∈ BG := BG_0 (List.mem_of_getElem? (i := 17) rfl) rfl
theorem se_C_covers : Cond.selects R_C y_C_covers y_C_covers ∈ BG := BG_0 (List.mem_of_getElem? (i := 18) rfl) rfl
theorem se_M_goes : Cond.selects R_M y_M_goes y_M_goes ∈ BG := BG_0 (List.mem_of_getElem? (i := 19) rfl) rfl
theorem se_M_act : Cond.selects R_M y_M_act y_M_act ∈ BG := BG_0 (List.mem_of_getElem? (i := 20) rfl) rfl
theorem se_M_draw : Cond.selects R_M y_M_draw y_M_draw ∈ BG := BG_0 (List.mem_of_getElem? (i := 21) rfl) rfl
theorem se_M_add : Cond.selects R_M y_M_add y_M_add ∈ BG := BG_0 (List.mem_of_getElem? (i := 22) rfl) rfl
theorem se_M_cut : Cond.selects R_M y_M_cut y_M_cut ∈ BG := BG_0 (List.mem_of_getElem? (i := 23) rfl) rfl
theorem se_M_copied : Cond.selects R_M y_M_copied y_M_copied ∈ BG := BG_0 (List.mem_of_getElem? (i := 24) rfl) rfl
theorem se_M_isStorey : Cond.selects R_M y_M_isStorey y_M_isStorey ∈ BG := BG_0 (List.mem_of_getElem? (i := 25) rfl) rfl
theorem se_M_isType : Cond.selects R_M y_M_isType y_M_isType ∈ BG := BG_0 (List.mem_of_getElem? (i := 26) rfl) rfl
theorem se_M_isWall : Cond.selects R_M y_M_isWall y_M_isWall ∈ BG := BG_0 (List.mem_of_getElem? (i := 27) rfl) rfl
theorem se_M_length : Cond.selects R_M y_M_length y_M_length ∈ BG := BG_0 (List.mem_of_getElem? (i := 28) rfl) rfl
theorem se_M_cuts : Cond.selects R_M y_M_cuts y_M_cuts ∈ BG := BG_0 (List.mem_of_getElem? (i := 29) rfl) rfl
theorem se_M_tells : Cond.selects R_M y_M_tells y_M_tells ∈ BG := BG_0 (List.mem_of_getElem? (i := 30) rfl) rfl
theorem se_M_net : Cond.selects R_M y_M_net y_M_net ∈ BG := BG_0 (List.mem_of_getElem? (i := 31) rfl) rfl
theorem se_M_joined : Cond.selects R_M y_M_joined y_M_joined ∈ BG := BG_0 (List.mem_of_getElem? (i := 32) rfl) rfl
theorem se_M_isAcross : Cond.selects R_M y_M_isAcross y_M_isAcross ∈ BG := BG_0 (List.mem_of_getElem? (i := 33) rfl) rfl
theorem se_M_area : Cond.selects R_M y_M_area y_M_area ∈ BG := BG_0 (List.mem_of_getElem? (i := 34) rfl) rfl
theorem se_M_height : Cond.selects R_M y_M_height y_M_height ∈ BG := BG_0 (List.mem_of_getElem? (i := 35) rfl) rfl
theorem se_M_hasBody : Cond.selects R_M y_M_hasBody y_M_hasBody ∈ BG := BG_0 (List.mem_of_getElem? (i := 36) rfl) rfl
theorem i_C : ∀ w ∈ u_ws R_C F_C 5, w ∈ BG := by
  intro w hw
  obtain ⟨k, hk, rfl⟩ := List.mem_map.mp hw
  rw [List.mem_range] at hk
  match k, hk with
  | 0, _ => exact BG_1 (List.mem_of_getElem? (i := 152) rfl) rfl
  | 1, _ => exact BG_1 (List.mem_of_getElem? (i := 154) rfl) rfl
  | 2, _ => exact BG_1 (List.mem_of_getElem? (i := 156) rfl) rfl
  | 3, _ => exact BG_1 (List.mem_of_getElem? (i := 158) rfl) rfl
  | 4, _ => exact BG_1 (List.mem_of_getElem? (i := 160) rfl) rfl
  | k + 5, h => exact absurd h (by omega)
theorem i_H : ∀ w ∈ u_ws R_H F_H 6, w ∈ BG := by
  intro w hw
  obtain ⟨k, hk, rfl⟩ := List.mem_map.mp hw
  rw [List.mem_range] at hk
  match k, hk with
  | 0, _ => exact BG_1 (List.mem_of_getElem? (i := 134) rfl) rfl
  | 1, _ => exact BG_1 (List.mem_of_getElem? (i := 136) rfl) rfl
  | 2, _ => exact BG_1 (List.mem_of_getElem? (i := 138) rfl) rfl
  | 3, _ => exact BG_1 (List.mem_of_getElem? (i := 140) rfl) rfl
  | 4, _ => exact BG_1 (List.mem_of_getElem? (i := 142) rfl) rfl
  | 5, _ => exact BG_1 (List.mem_of_getElem? (i := 144) rfl) rfl
  | k + 6, h => exact absurd h (by omega)
theorem i_O : ∀ w ∈ u_ws R_O F_O 4, w ∈ BG := by
  intro w hw
  obtain ⟨k, hk, rfl⟩ := List.mem_map.mp hw
  rw [List.mem_range] at hk
  match k, hk with
  | 0, _ => exact BG_1 (List.mem_of_getElem? (i := 107) rfl) rfl
  | 1, _ => exact BG_1 (List.mem_of_getElem? (i := 109) rfl) rfl
  | 2, _ => exact BG_1 (List.mem_of_getElem? (i := 111) rfl) rfl
  | 3, _ => exact BG_1 (List.mem_of_getElem? (i := 113) rfl) rfl
  | k + 4, h => exact absurd h (by omega)
theorem i_S : ∀ w ∈ u_ws R_S F_S 2, w ∈ BG := by
  intro w hw
  obtain ⟨k, hk, rfl⟩ := List.mem_map.mp hw
  rw [List.mem_range] at hk
  match k, hk with
  | 0, _ => exact BG_1 (List.mem_of_getElem? (i := 32) rfl) rfl
  | 1, _ => exact BG_1 (List.mem_of_getElem? (i := 34) rfl) rfl
  | k + 2, h => exact absurd h (by omega)
theorem i_T : ∀ w ∈ u_ws R_T F_T 2, w ∈ BG := by
  intro w hw
  obtain ⟨k, hk, rfl⟩ := List.mem_map.mp hw
  rw [List.mem_range] at hk
  match k, hk with
  | 0, _ => exact BG_1 (List.mem_of_getElem? (i := 48) rfl) rfl
  | 1, _ => exact BG_1 (List.mem_of_getElem? (i := 50) rfl) rfl
  | k + 2, h => exact absurd h (by omega)
theorem i_W : ∀ w ∈ u_ws R_W F_W 8, w ∈ BG := by
  intro w hw
  obtain ⟨k, hk, rfl⟩ := List.mem_map.mp hw
  rw [List.mem_range] at hk
  match k, hk with
  | 0, _ => exact BG_1 (List.mem_of_getElem? (i := 75) rfl) rfl
  | 1, _ => exact BG_1 (List.mem_of_getElem? (i := 77) rfl) rfl
  | 2, _ => exact BG_1 (List.mem_of_getElem? (i := 79) rfl) rfl
  | 3, _ => exact BG_1 (List.mem_of_getElem? (i := 81) rfl) rfl
  | 4, _ => exact BG_1 (List.mem_of_getElem? (i := 83) rfl) rfl
  | 5, _ => exact BG_1 (List.mem_of_getElem? (i := 85) rfl) rfl
  | 6, _ => exact BG_1 (List.mem_of_getElem? (i := 87) rfl) rfl
  | 7, _ => exact BG_1 (List.mem_of_getElem? (i := 89) rfl) rfl
  | k + 8, h => exact absurd h (by omega)
theorem i_M : ∀ w ∈ u_ws R_M F_M 20, w ∈ BG := by
  intro w hw
  obtain ⟨k, hk, rfl⟩ := List.mem_map.mp hw
  rw [List.mem_range] at hk
  match k, hk with
  | 0, _ => exact BG_3 (List.mem_of_getElem? (i := 131) rfl) rfl
  | 1, _ => exact BG_3 (List.mem_of_getElem? (i := 133) rfl) rfl
  | 2, _ => exact BG_3 (List.mem_of_getElem? (i := 135) rfl) rfl
  | 3, _ => exact BG_3 (List.mem_of_getElem? (i := 137) rfl) rfl
  | 4, _ => exact BG_3 (List.mem_of_getElem? (i := 139) rfl) rfl
  | 5, _ => exact BG_3 (List.mem_of_getElem? (i := 141) rfl) rfl
  | 6, _ => exact BG_3 (List.mem_of_getElem? (i := 143) rfl) rfl
  | 7, _ => exact BG_3 (List.mem_of_getElem? (i := 145) rfl) rfl
  | 8, _ => exact BG_3 (List.mem_of_getElem? (i := 147) rfl) rfl
  | 9, _ => exact BG_3 (List.mem_of_getElem? (i := 149) rfl) rfl
  | 10, _ => exact BG_3 (List.mem_of_getElem? (i := 151) rfl) rfl
  | 11, _ => exact BG_3 (List.mem_of_getElem? (i := 153) rfl) rfl
  | 12, _ => exact BG_3 (List.mem_of_getElem? (i := 155) rfl) rfl
  | 13, _ => exact BG_3 (List.mem_of_getElem? (i := 157) rfl) rfl
  | 14, _ => exact BG_3 (List.mem_of_getElem? (i := 159) rfl) rfl
  | 15, _ => exact BG_3 (List.mem_of_getElem? (i := 161) rfl) rfl
  | 16, _ => exact BG_3 (List.mem_of_getElem? (i := 163) rfl) rfl
  | 17, _ => exact BG_3 (List.mem_of_getElem? (i := 165) rfl) rfl
  | 18, _ => exact BG_3 (List.mem_of_getElem? (i := 167) rfl) rfl
  | 19, _ => exact BG_3 (List.mem_of_getElem? (i := 169) rfl) rfl
  | k + 20, h => exact absurd h (by omega)
