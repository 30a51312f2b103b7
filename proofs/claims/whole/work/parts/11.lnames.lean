abbrev c_L_cell : ByteArray := method_2_code
def y_L_cell : MethodName := ⟨R_L, "cell", "([II)I"⟩
def ws_L_cell : List Cond := .code y_L_cell c_L_cell 2 (some .int) :: WB_
abbrev c_L_number : ByteArray := method_3_code
def y_L_number : MethodName := ⟨R_L, "number", "(LTabledStore;II)I"⟩
def ws_L_number : List Cond := .codeWith y_L_number c_L_number 4 (some .int) [(0, 6, 9, 13)] :: WB_
abbrev c_L_move : ByteArray := method_4_code
def y_L_move : MethodName := ⟨R_L, "move", "(LTabledStore;II)I"⟩
def ws_L_move : List Cond := .codeWith y_L_move c_L_move 4 (some .int) [(0, 6, 9, 13)] :: WB_
abbrev c_L_clear : ByteArray := method_5_code
def y_L_clear : MethodName := ⟨R_L, "clear", "(LTabledStore;I)I"⟩
def ws_L_clear : List Cond := .codeWith y_L_clear c_L_clear 3 (some .int) [(0, 5, 8, 13)] :: WB_
abbrev c_L_make : ByteArray := method_6_code
def y_L_make : MethodName := ⟨R_L, "make", "(LTabledStore;IIIZ[J)I"⟩
def ws_L_make : List Cond := .codeWith y_L_make c_L_make 7 (some .int) [(0, 14, 17, 13), (0, 14, 21, 26)] :: WB_
abbrev c_L_copy : ByteArray := method_7_code
def y_L_copy : MethodName := ⟨R_L, "copy", "(LTabledStore;II[J)I"⟩
def ws_L_copy : List Cond := .codeWith y_L_copy c_L_copy 5 (some .int) [(0, 10, 13, 13), (0, 10, 17, 26)] :: WB_
abbrev c_L_chain : ByteArray := method_8_code
def y_L_chain : MethodName := ⟨R_L, "chain", "(LTabledStore;IIII[J)I"⟩
def ws_L_chain : List Cond := .codeWith y_L_chain c_L_chain 7 (some .int) [(0, 14, 17, 13)] :: WB_
abbrev c_L_get : ByteArray := method_9_code
def y_L_get : MethodName := ⟨R_L, "get", "(LTabledStore;III)I"⟩
def ws_L_get : List Cond := .codeWith y_L_get c_L_get 5 (some .int) [(0, 7, 10, 13), (0, 7, 14, 40)] :: WB_
abbrev c_L_put : ByteArray := method_10_code
def y_L_put : MethodName := ⟨R_L, "put", "(LTabledStore;III)I"⟩
def ws_L_put : List Cond := .codeWith y_L_put c_L_put 5 (some .int) [(0, 7, 10, 13), (0, 7, 14, 40)] :: WB_
abbrev c_L_walk : ByteArray := method_11_code
def y_L_walk : MethodName := ⟨R_L, "walk", "(LTabledStore;III[J)I"⟩
def ws_L_walk : List Cond := .codeWith y_L_walk c_L_walk 6 (some .int) [(0, 12, 15, 13)] :: WB_
abbrev c_L_classOf : ByteArray := method_12_code
def y_L_classOf : MethodName := ⟨R_L, "classOf", "(LTabledStore;II)I"⟩
def ws_L_classOf : List Cond := .codeWith y_L_classOf c_L_classOf 4 (some .int) [(0, 6, 9, 13)] :: WB_
abbrev c_L_setClass : ByteArray := method_13_code
def y_L_setClass : MethodName := ⟨R_L, "setClass", "(LTabledStore;II)I"⟩
def ws_L_setClass : List Cond := .codeWith y_L_setClass c_L_setClass 4 (some .int) [(0, 6, 9, 13)] :: WB_
abbrev c_L_byteAt : ByteArray := method_14_code
def y_L_byteAt : MethodName := ⟨R_L, "byteAt", "(LTabledStore;II[J)I"⟩
def ws_L_byteAt : List Cond := .codeWith y_L_byteAt c_L_byteAt 5 (some .int) [(0, 10, 13, 13), (0, 10, 17, 40)] :: WB_
abbrev c_L_bytePut : ByteArray := method_15_code
def y_L_bytePut : MethodName := ⟨R_L, "bytePut", "(LTabledStore;IIJ)I"⟩
def ws_L_bytePut : List Cond := .codeWith y_L_bytePut c_L_bytePut 6 (some .int) [(0, 7, 10, 13), (0, 7, 14, 40)] :: WB_
abbrev c_L_kind : ByteArray := method_16_code
def y_L_kind : MethodName := ⟨R_L, "kind", "(LTabledStore;I[J)I"⟩
def ws_L_kind : List Cond := .codeWith y_L_kind c_L_kind 4 (some .int) [(0, 9, 12, 13)] :: WB_
abbrev c_L_value : ByteArray := method_17_code
def y_L_value : MethodName := ⟨R_L, "value", "(LTabledStore;I[J)I"⟩
def ws_L_value : List Cond := .codeWith y_L_value c_L_value 4 (some .int) [(0, 9, 12, 13)] :: WB_
abbrev c_L_size : ByteArray := method_18_code
def y_L_size : MethodName := ⟨R_L, "size", "(LTabledStore;I[J)I"⟩
def ws_L_size : List Cond := .codeWith y_L_size c_L_size 4 (some .int) [(0, 9, 12, 13)] :: WB_
abbrev c_L_become : ByteArray := method_19_code
def y_L_become : MethodName := ⟨R_L, "become", "(LTabledStore;II)I"⟩
def ws_L_become : List Cond := .codeWith y_L_become c_L_become 4 (some .int) [(0, 6, 9, 13)] :: WB_
abbrev c_L_instance : ByteArray := method_20_code
def y_L_instance : MethodName := ⟨R_L, "instance", "(LTabledStore;III[J)I"⟩
def ws_L_instance : List Cond := .codeWith y_L_instance c_L_instance 6 (some .int) [(0, 12, 15, 13)] :: WB_
abbrev c_L_owners : ByteArray := method_21_code
def y_L_owners : MethodName := ⟨R_L, "owners", "(LTabledStore;I[J)I"⟩
def ws_L_owners : List Cond := .codeWith y_L_owners c_L_owners 4 (some .int) [(0, 9, 12, 13)] :: WB_
abbrev c_L_reaches : ByteArray := method_22_code
def y_L_reaches : MethodName := ⟨R_L, "reaches", "(LTabledStore;II[J)I"⟩
def ws_L_reaches : List Cond := .codeWith y_L_reaches c_L_reaches 5 (some .int) [(0, 17, 20, 13)] :: WB_
abbrev c_L_sum : ByteArray := method_23_code
def y_L_sum : MethodName := ⟨R_L, "sum", "(LTabledStore;I[J)I"⟩
def ws_L_sum : List Cond := .codeWith y_L_sum c_L_sum 4 (some .int) [(0, 9, 12, 13)] :: WB_
theorem wd_209 : (Jvm.Cond.classLink "TabledStoreLaw" (13 : Nat) "java/lang/IllegalArgumentException") ∈ WB_ := wb_mk (i := 209) (by decide +kernel) (by decide +kernel)
theorem wd_210 : (Jvm.Cond.methodLink "TabledStoreLaw" (7 : Nat) ({ cls := "TabledStore", name := "number", desc := "(II)V" } : Jvm.MethodName)) ∈ WB_ := wb_mk (i := 210) (by decide +kernel) (by decide +kernel)
theorem wd_211 : (Jvm.Cond.instanceMethod ({ cls := "TabledStore", name := "number", desc := "(II)V" } : Jvm.MethodName)) ∈ WB_ := wb_mk (i := 211) (by decide +kernel) (by decide +kernel)
theorem wd_212 : (Jvm.Cond.selects "TabledStore" ({ cls := "TabledStore", name := "number", desc := "(II)V" } : Jvm.MethodName) ({ cls := "TabledStore", name := "number", desc := "(II)V" } : Jvm.MethodName)) ∈ WB_ := wb_mk (i := 212) (by decide +kernel) (by decide +kernel)
theorem wd_213 : (Jvm.Cond.code ({ cls := "TabledStore", name := "number", desc := "(II)V" } : Jvm.MethodName) prog_1_method_2_code (3 : Nat) (Option.none : Option Jvm.ClassFile.FieldType)) ∈ WB_ := wb_mk (i := 213) (by decide +kernel) (by decide +kernel)
theorem wd_305 : (Jvm.Cond.methodLink "TabledStoreLaw" (15 : Nat) ({ cls := "TabledStore", name := "move", desc := "(II)V" } : Jvm.MethodName)) ∈ WB_ := wb_mk (i := 305) (by decide +kernel) (by decide +kernel)
theorem wd_306 : (Jvm.Cond.instanceMethod ({ cls := "TabledStore", name := "move", desc := "(II)V" } : Jvm.MethodName)) ∈ WB_ := wb_mk (i := 306) (by decide +kernel) (by decide +kernel)
theorem wd_307 : (Jvm.Cond.selects "TabledStore" ({ cls := "TabledStore", name := "move", desc := "(II)V" } : Jvm.MethodName) ({ cls := "TabledStore", name := "move", desc := "(II)V" } : Jvm.MethodName)) ∈ WB_ := wb_mk (i := 307) (by decide +kernel) (by decide +kernel)
theorem wd_308 : (Jvm.Cond.code ({ cls := "TabledStore", name := "move", desc := "(II)V" } : Jvm.MethodName) prog_1_method_3_code (3 : Nat) (Option.none : Option Jvm.ClassFile.FieldType)) ∈ WB_ := wb_mk (i := 308) (by decide +kernel) (by decide +kernel)
theorem wd_312 : (Jvm.Cond.methodLink "TabledStoreLaw" (18 : Nat) ({ cls := "TabledStore", name := "clear", desc := "(I)V" } : Jvm.MethodName)) ∈ WB_ := wb_mk (i := 312) (by decide +kernel) (by decide +kernel)
theorem wd_313 : (Jvm.Cond.instanceMethod ({ cls := "TabledStore", name := "clear", desc := "(I)V" } : Jvm.MethodName)) ∈ WB_ := wb_mk (i := 313) (by decide +kernel) (by decide +kernel)
theorem wd_314 : (Jvm.Cond.selects "TabledStore" ({ cls := "TabledStore", name := "clear", desc := "(I)V" } : Jvm.MethodName) ({ cls := "TabledStore", name := "clear", desc := "(I)V" } : Jvm.MethodName)) ∈ WB_ := wb_mk (i := 314) (by decide +kernel) (by decide +kernel)
theorem wd_315 : (Jvm.Cond.code ({ cls := "TabledStore", name := "clear", desc := "(I)V" } : Jvm.MethodName) prog_1_method_4_code (2 : Nat) (Option.none : Option Jvm.ClassFile.FieldType)) ∈ WB_ := wb_mk (i := 315) (by decide +kernel) (by decide +kernel)
theorem wd_319 : (Jvm.Cond.classLink "TabledStoreLaw" (26 : Nat) "java/lang/UnsupportedOperationException") ∈ WB_ := wb_mk (i := 319) (by decide +kernel) (by decide +kernel)
theorem wd_320 : (Jvm.Cond.methodLink "TabledStoreLaw" (22 : Nat) ({ cls := "TabledStore", name := "make", desc := "(IIIZ)I" } : Jvm.MethodName)) ∈ WB_ := wb_mk (i := 320) (by decide +kernel) (by decide +kernel)
theorem wd_321 : (Jvm.Cond.instanceMethod ({ cls := "TabledStore", name := "make", desc := "(IIIZ)I" } : Jvm.MethodName)) ∈ WB_ := wb_mk (i := 321) (by decide +kernel) (by decide +kernel)
theorem wd_322 : (Jvm.Cond.selects "TabledStore" ({ cls := "TabledStore", name := "make", desc := "(IIIZ)I" } : Jvm.MethodName) ({ cls := "TabledStore", name := "make", desc := "(IIIZ)I" } : Jvm.MethodName)) ∈ WB_ := wb_mk (i := 322) (by decide +kernel) (by decide +kernel)
theorem wd_323 : (Jvm.Cond.code ({ cls := "TabledStore", name := "make", desc := "(IIIZ)I" } : Jvm.MethodName) prog_1_method_5_code (6 : Nat) (Option.some Jvm.ClassFile.FieldType.int)) ∈ WB_ := wb_mk (i := 323) (by decide +kernel) (by decide +kernel)
theorem wd_365 : (Jvm.Cond.methodLink "TabledStoreLaw" (28 : Nat) ({ cls := "TabledStore", name := "copy", desc := "(II)I" } : Jvm.MethodName)) ∈ WB_ := wb_mk (i := 365) (by decide +kernel) (by decide +kernel)
theorem wd_366 : (Jvm.Cond.instanceMethod ({ cls := "TabledStore", name := "copy", desc := "(II)I" } : Jvm.MethodName)) ∈ WB_ := wb_mk (i := 366) (by decide +kernel) (by decide +kernel)
theorem wd_367 : (Jvm.Cond.selects "TabledStore" ({ cls := "TabledStore", name := "copy", desc := "(II)I" } : Jvm.MethodName) ({ cls := "TabledStore", name := "copy", desc := "(II)I" } : Jvm.MethodName)) ∈ WB_ := wb_mk (i := 367) (by decide +kernel) (by decide +kernel)
theorem wd_368 : (Jvm.Cond.code ({ cls := "TabledStore", name := "copy", desc := "(II)I" } : Jvm.MethodName) prog_1_method_6_code (5 : Nat) (Option.some Jvm.ClassFile.FieldType.int)) ∈ WB_ := wb_mk (i := 368) (by decide +kernel) (by decide +kernel)
theorem wd_391 : (Jvm.Cond.methodLink "TabledStoreLaw" (32 : Nat) ({ cls := "TabledStore", name := "chain", desc := "(IIII)I" } : Jvm.MethodName)) ∈ WB_ := wb_mk (i := 391) (by decide +kernel) (by decide +kernel)
theorem wd_392 : (Jvm.Cond.instanceMethod ({ cls := "TabledStore", name := "chain", desc := "(IIII)I" } : Jvm.MethodName)) ∈ WB_ := wb_mk (i := 392) (by decide +kernel) (by decide +kernel)
theorem wd_393 : (Jvm.Cond.selects "TabledStore" ({ cls := "TabledStore", name := "chain", desc := "(IIII)I" } : Jvm.MethodName) ({ cls := "TabledStore", name := "chain", desc := "(IIII)I" } : Jvm.MethodName)) ∈ WB_ := wb_mk (i := 393) (by decide +kernel) (by decide +kernel)
theorem wd_394 : (Jvm.Cond.code ({ cls := "TabledStore", name := "chain", desc := "(IIII)I" } : Jvm.MethodName) prog_1_method_7_code (8 : Nat) (Option.some Jvm.ClassFile.FieldType.int)) ∈ WB_ := wb_mk (i := 394) (by decide +kernel) (by decide +kernel)
theorem wd_407 : (Jvm.Cond.classLink "TabledStoreLaw" (40 : Nat) "java/lang/IndexOutOfBoundsException") ∈ WB_ := wb_mk (i := 407) (by decide +kernel) (by decide +kernel)
theorem wd_408 : (Jvm.Cond.methodLink "TabledStoreLaw" (36 : Nat) ({ cls := "TabledStore", name := "get", desc := "(III)V" } : Jvm.MethodName)) ∈ WB_ := wb_mk (i := 408) (by decide +kernel) (by decide +kernel)
theorem wd_409 : (Jvm.Cond.instanceMethod ({ cls := "TabledStore", name := "get", desc := "(III)V" } : Jvm.MethodName)) ∈ WB_ := wb_mk (i := 409) (by decide +kernel) (by decide +kernel)
theorem wd_410 : (Jvm.Cond.selects "TabledStore" ({ cls := "TabledStore", name := "get", desc := "(III)V" } : Jvm.MethodName) ({ cls := "TabledStore", name := "get", desc := "(III)V" } : Jvm.MethodName)) ∈ WB_ := wb_mk (i := 410) (by decide +kernel) (by decide +kernel)
theorem wd_411 : (Jvm.Cond.code ({ cls := "TabledStore", name := "get", desc := "(III)V" } : Jvm.MethodName) prog_1_method_8_code (4 : Nat) (Option.none : Option Jvm.ClassFile.FieldType)) ∈ WB_ := wb_mk (i := 411) (by decide +kernel) (by decide +kernel)
theorem wd_452 : (Jvm.Cond.methodLink "TabledStoreLaw" (42 : Nat) ({ cls := "TabledStore", name := "put", desc := "(III)V" } : Jvm.MethodName)) ∈ WB_ := wb_mk (i := 452) (by decide +kernel) (by decide +kernel)
theorem wd_453 : (Jvm.Cond.instanceMethod ({ cls := "TabledStore", name := "put", desc := "(III)V" } : Jvm.MethodName)) ∈ WB_ := wb_mk (i := 453) (by decide +kernel) (by decide +kernel)
theorem wd_454 : (Jvm.Cond.selects "TabledStore" ({ cls := "TabledStore", name := "put", desc := "(III)V" } : Jvm.MethodName) ({ cls := "TabledStore", name := "put", desc := "(III)V" } : Jvm.MethodName)) ∈ WB_ := wb_mk (i := 454) (by decide +kernel) (by decide +kernel)
theorem wd_455 : (Jvm.Cond.code ({ cls := "TabledStore", name := "put", desc := "(III)V" } : Jvm.MethodName) prog_1_method_9_code (4 : Nat) (Option.none : Option Jvm.ClassFile.FieldType)) ∈ WB_ := wb_mk (i := 455) (by decide +kernel) (by decide +kernel)
theorem wd_459 : (Jvm.Cond.methodLink "TabledStoreLaw" (45 : Nat) ({ cls := "TabledStore", name := "walk", desc := "(III)I" } : Jvm.MethodName)) ∈ WB_ := wb_mk (i := 459) (by decide +kernel) (by decide +kernel)
theorem wd_460 : (Jvm.Cond.instanceMethod ({ cls := "TabledStore", name := "walk", desc := "(III)I" } : Jvm.MethodName)) ∈ WB_ := wb_mk (i := 460) (by decide +kernel) (by decide +kernel)
theorem wd_461 : (Jvm.Cond.selects "TabledStore" ({ cls := "TabledStore", name := "walk", desc := "(III)I" } : Jvm.MethodName) ({ cls := "TabledStore", name := "walk", desc := "(III)I" } : Jvm.MethodName)) ∈ WB_ := wb_mk (i := 461) (by decide +kernel) (by decide +kernel)
theorem wd_462 : (Jvm.Cond.code ({ cls := "TabledStore", name := "walk", desc := "(III)I" } : Jvm.MethodName) prog_1_method_10_code (6 : Nat) (Option.some Jvm.ClassFile.FieldType.int)) ∈ WB_ := wb_mk (i := 462) (by decide +kernel) (by decide +kernel)
theorem wd_472 : (Jvm.Cond.methodLink "TabledStoreLaw" (49 : Nat) ({ cls := "TabledStore", name := "classOf", desc := "(II)V" } : Jvm.MethodName)) ∈ WB_ := wb_mk (i := 472) (by decide +kernel) (by decide +kernel)
theorem wd_473 : (Jvm.Cond.instanceMethod ({ cls := "TabledStore", name := "classOf", desc := "(II)V" } : Jvm.MethodName)) ∈ WB_ := wb_mk (i := 473) (by decide +kernel) (by decide +kernel)
theorem wd_474 : (Jvm.Cond.selects "TabledStore" ({ cls := "TabledStore", name := "classOf", desc := "(II)V" } : Jvm.MethodName) ({ cls := "TabledStore", name := "classOf", desc := "(II)V" } : Jvm.MethodName)) ∈ WB_ := wb_mk (i := 474) (by decide +kernel) (by decide +kernel)
theorem wd_475 : (Jvm.Cond.code ({ cls := "TabledStore", name := "classOf", desc := "(II)V" } : Jvm.MethodName) prog_1_method_11_code (3 : Nat) (Option.none : Option Jvm.ClassFile.FieldType)) ∈ WB_ := wb_mk (i := 475) (by decide +kernel) (by decide +kernel)
theorem wd_479 : (Jvm.Cond.methodLink "TabledStoreLaw" (52 : Nat) ({ cls := "TabledStore", name := "setClass", desc := "(II)V" } : Jvm.MethodName)) ∈ WB_ := wb_mk (i := 479) (by decide +kernel) (by decide +kernel)
theorem wd_480 : (Jvm.Cond.instanceMethod ({ cls := "TabledStore", name := "setClass", desc := "(II)V" } : Jvm.MethodName)) ∈ WB_ := wb_mk (i := 480) (by decide +kernel) (by decide +kernel)
theorem wd_481 : (Jvm.Cond.selects "TabledStore" ({ cls := "TabledStore", name := "setClass", desc := "(II)V" } : Jvm.MethodName) ({ cls := "TabledStore", name := "setClass", desc := "(II)V" } : Jvm.MethodName)) ∈ WB_ := wb_mk (i := 481) (by decide +kernel) (by decide +kernel)
theorem wd_482 : (Jvm.Cond.code ({ cls := "TabledStore", name := "setClass", desc := "(II)V" } : Jvm.MethodName) prog_1_method_12_code (3 : Nat) (Option.none : Option Jvm.ClassFile.FieldType)) ∈ WB_ := wb_mk (i := 482) (by decide +kernel) (by decide +kernel)
theorem wd_490 : (Jvm.Cond.methodLink "TabledStoreLaw" (55 : Nat) ({ cls := "TabledStore", name := "byteAt", desc := "(II)I" } : Jvm.MethodName)) ∈ WB_ := wb_mk (i := 490) (by decide +kernel) (by decide +kernel)
theorem wd_491 : (Jvm.Cond.instanceMethod ({ cls := "TabledStore", name := "byteAt", desc := "(II)I" } : Jvm.MethodName)) ∈ WB_ := wb_mk (i := 491) (by decide +kernel) (by decide +kernel)
theorem wd_492 : (Jvm.Cond.selects "TabledStore" ({ cls := "TabledStore", name := "byteAt", desc := "(II)I" } : Jvm.MethodName) ({ cls := "TabledStore", name := "byteAt", desc := "(II)I" } : Jvm.MethodName)) ∈ WB_ := wb_mk (i := 492) (by decide +kernel) (by decide +kernel)
theorem wd_493 : (Jvm.Cond.code ({ cls := "TabledStore", name := "byteAt", desc := "(II)I" } : Jvm.MethodName) prog_1_method_13_code (3 : Nat) (Option.some Jvm.ClassFile.FieldType.int)) ∈ WB_ := wb_mk (i := 493) (by decide +kernel) (by decide +kernel)
theorem wd_517 : (Jvm.Cond.methodLink "TabledStoreLaw" (58 : Nat) ({ cls := "TabledStore", name := "bytePut", desc := "(IIJ)V" } : Jvm.MethodName)) ∈ WB_ := wb_mk (i := 517) (by decide +kernel) (by decide +kernel)
theorem wd_518 : (Jvm.Cond.instanceMethod ({ cls := "TabledStore", name := "bytePut", desc := "(IIJ)V" } : Jvm.MethodName)) ∈ WB_ := wb_mk (i := 518) (by decide +kernel) (by decide +kernel)
theorem wd_519 : (Jvm.Cond.selects "TabledStore" ({ cls := "TabledStore", name := "bytePut", desc := "(IIJ)V" } : Jvm.MethodName) ({ cls := "TabledStore", name := "bytePut", desc := "(IIJ)V" } : Jvm.MethodName)) ∈ WB_ := wb_mk (i := 519) (by decide +kernel) (by decide +kernel)
theorem wd_520 : (Jvm.Cond.code ({ cls := "TabledStore", name := "bytePut", desc := "(IIJ)V" } : Jvm.MethodName) prog_1_method_14_code (9 : Nat) (Option.none : Option Jvm.ClassFile.FieldType)) ∈ WB_ := wb_mk (i := 520) (by decide +kernel) (by decide +kernel)
theorem wd_529 : (Jvm.Cond.methodLink "TabledStoreLaw" (62 : Nat) ({ cls := "TabledStore", name := "kind", desc := "(I)I" } : Jvm.MethodName)) ∈ WB_ := wb_mk (i := 529) (by decide +kernel) (by decide +kernel)
theorem wd_530 : (Jvm.Cond.instanceMethod ({ cls := "TabledStore", name := "kind", desc := "(I)I" } : Jvm.MethodName)) ∈ WB_ := wb_mk (i := 530) (by decide +kernel) (by decide +kernel)
theorem wd_531 : (Jvm.Cond.selects "TabledStore" ({ cls := "TabledStore", name := "kind", desc := "(I)I" } : Jvm.MethodName) ({ cls := "TabledStore", name := "kind", desc := "(I)I" } : Jvm.MethodName)) ∈ WB_ := wb_mk (i := 531) (by decide +kernel) (by decide +kernel)
theorem wd_532 : (Jvm.Cond.code ({ cls := "TabledStore", name := "kind", desc := "(I)I" } : Jvm.MethodName) prog_1_method_15_code (3 : Nat) (Option.some Jvm.ClassFile.FieldType.int)) ∈ WB_ := wb_mk (i := 532) (by decide +kernel) (by decide +kernel)
theorem wd_539 : (Jvm.Cond.methodLink "TabledStoreLaw" (66 : Nat) ({ cls := "TabledStore", name := "value", desc := "(I)I" } : Jvm.MethodName)) ∈ WB_ := wb_mk (i := 539) (by decide +kernel) (by decide +kernel)
theorem wd_540 : (Jvm.Cond.instanceMethod ({ cls := "TabledStore", name := "value", desc := "(I)I" } : Jvm.MethodName)) ∈ WB_ := wb_mk (i := 540) (by decide +kernel) (by decide +kernel)
theorem wd_541 : (Jvm.Cond.selects "TabledStore" ({ cls := "TabledStore", name := "value", desc := "(I)I" } : Jvm.MethodName) ({ cls := "TabledStore", name := "value", desc := "(I)I" } : Jvm.MethodName)) ∈ WB_ := wb_mk (i := 541) (by decide +kernel) (by decide +kernel)
theorem wd_542 : (Jvm.Cond.code ({ cls := "TabledStore", name := "value", desc := "(I)I" } : Jvm.MethodName) prog_1_method_16_code (3 : Nat) (Option.some Jvm.ClassFile.FieldType.int)) ∈ WB_ := wb_mk (i := 542) (by decide +kernel) (by decide +kernel)
theorem wd_549 : (Jvm.Cond.methodLink "TabledStoreLaw" (69 : Nat) ({ cls := "TabledStore", name := "size", desc := "(I)I" } : Jvm.MethodName)) ∈ WB_ := wb_mk (i := 549) (by decide +kernel) (by decide +kernel)
theorem wd_550 : (Jvm.Cond.instanceMethod ({ cls := "TabledStore", name := "size", desc := "(I)I" } : Jvm.MethodName)) ∈ WB_ := wb_mk (i := 550) (by decide +kernel) (by decide +kernel)
theorem wd_551 : (Jvm.Cond.selects "TabledStore" ({ cls := "TabledStore", name := "size", desc := "(I)I" } : Jvm.MethodName) ({ cls := "TabledStore", name := "size", desc := "(I)I" } : Jvm.MethodName)) ∈ WB_ := wb_mk (i := 551) (by decide +kernel) (by decide +kernel)
theorem wd_552 : (Jvm.Cond.code ({ cls := "TabledStore", name := "size", desc := "(I)I" } : Jvm.MethodName) prog_1_method_17_code (2 : Nat) (Option.some Jvm.ClassFile.FieldType.int)) ∈ WB_ := wb_mk (i := 552) (by decide +kernel) (by decide +kernel)
theorem wd_556 : (Jvm.Cond.methodLink "TabledStoreLaw" (72 : Nat) ({ cls := "TabledStore", name := "become", desc := "(II)V" } : Jvm.MethodName)) ∈ WB_ := wb_mk (i := 556) (by decide +kernel) (by decide +kernel)
theorem wd_557 : (Jvm.Cond.instanceMethod ({ cls := "TabledStore", name := "become", desc := "(II)V" } : Jvm.MethodName)) ∈ WB_ := wb_mk (i := 557) (by decide +kernel) (by decide +kernel)
theorem wd_558 : (Jvm.Cond.selects "TabledStore" ({ cls := "TabledStore", name := "become", desc := "(II)V" } : Jvm.MethodName) ({ cls := "TabledStore", name := "become", desc := "(II)V" } : Jvm.MethodName)) ∈ WB_ := wb_mk (i := 558) (by decide +kernel) (by decide +kernel)
theorem wd_559 : (Jvm.Cond.code ({ cls := "TabledStore", name := "become", desc := "(II)V" } : Jvm.MethodName) prog_1_method_18_code (3 : Nat) (Option.none : Option Jvm.ClassFile.FieldType)) ∈ WB_ := wb_mk (i := 559) (by decide +kernel) (by decide +kernel)
theorem wd_567 : (Jvm.Cond.methodLink "TabledStoreLaw" (75 : Nat) ({ cls := "TabledStore", name := "instance", desc := "(III)I" } : Jvm.MethodName)) ∈ WB_ := wb_mk (i := 567) (by decide +kernel) (by decide +kernel)
theorem wd_568 : (Jvm.Cond.instanceMethod ({ cls := "TabledStore", name := "instance", desc := "(III)I" } : Jvm.MethodName)) ∈ WB_ := wb_mk (i := 568) (by decide +kernel) (by decide +kernel)
theorem wd_569 : (Jvm.Cond.selects "TabledStore" ({ cls := "TabledStore", name := "instance", desc := "(III)I" } : Jvm.MethodName) ({ cls := "TabledStore", name := "instance", desc := "(III)I" } : Jvm.MethodName)) ∈ WB_ := wb_mk (i := 569) (by decide +kernel) (by decide +kernel)
theorem wd_570 : (Jvm.Cond.code ({ cls := "TabledStore", name := "instance", desc := "(III)I" } : Jvm.MethodName) prog_1_method_21_code (5 : Nat) (Option.some Jvm.ClassFile.FieldType.int)) ∈ WB_ := wb_mk (i := 570) (by decide +kernel) (by decide +kernel)
theorem wd_579 : (Jvm.Cond.methodLink "TabledStoreLaw" (78 : Nat) ({ cls := "TabledStore", name := "owners", desc := "(I)I" } : Jvm.MethodName)) ∈ WB_ := wb_mk (i := 579) (by decide +kernel) (by decide +kernel)
theorem wd_580 : (Jvm.Cond.instanceMethod ({ cls := "TabledStore", name := "owners", desc := "(I)I" } : Jvm.MethodName)) ∈ WB_ := wb_mk (i := 580) (by decide +kernel) (by decide +kernel)
theorem wd_581 : (Jvm.Cond.selects "TabledStore" ({ cls := "TabledStore", name := "owners", desc := "(I)I" } : Jvm.MethodName) ({ cls := "TabledStore", name := "owners", desc := "(I)I" } : Jvm.MethodName)) ∈ WB_ := wb_mk (i := 581) (by decide +kernel) (by decide +kernel)
theorem wd_582 : (Jvm.Cond.code ({ cls := "TabledStore", name := "owners", desc := "(I)I" } : Jvm.MethodName) prog_1_method_22_code (8 : Nat) (Option.some Jvm.ClassFile.FieldType.int)) ∈ WB_ := wb_mk (i := 582) (by decide +kernel) (by decide +kernel)
theorem wd_590 : (Jvm.Cond.methodLink "TabledStoreLaw" (81 : Nat) ({ cls := "TabledStore", name := "reaches", desc := "(II)Z" } : Jvm.MethodName)) ∈ WB_ := wb_mk (i := 590) (by decide +kernel) (by decide +kernel)
theorem wd_591 : (Jvm.Cond.instanceMethod ({ cls := "TabledStore", name := "reaches", desc := "(II)Z" } : Jvm.MethodName)) ∈ WB_ := wb_mk (i := 591) (by decide +kernel) (by decide +kernel)
theorem wd_592 : (Jvm.Cond.selects "TabledStore" ({ cls := "TabledStore", name := "reaches", desc := "(II)Z" } : Jvm.MethodName) ({ cls := "TabledStore", name := "reaches", desc := "(II)Z" } : Jvm.MethodName)) ∈ WB_ := wb_mk (i := 592) (by decide +kernel) (by decide +kernel)
theorem wd_593 : (Jvm.Cond.code ({ cls := "TabledStore", name := "reaches", desc := "(II)Z" } : Jvm.MethodName) prog_1_method_23_code (3 : Nat) (Option.some Jvm.ClassFile.FieldType.boolean)) ∈ WB_ := wb_mk (i := 593) (by decide +kernel) (by decide +kernel)
theorem wd_601 : (Jvm.Cond.methodLink "TabledStoreLaw" (85 : Nat) ({ cls := "TabledStore", name := "sum", desc := "(I)I" } : Jvm.MethodName)) ∈ WB_ := wb_mk (i := 601) (by decide +kernel) (by decide +kernel)
theorem wd_602 : (Jvm.Cond.instanceMethod ({ cls := "TabledStore", name := "sum", desc := "(I)I" } : Jvm.MethodName)) ∈ WB_ := wb_mk (i := 602) (by decide +kernel) (by decide +kernel)
theorem wd_603 : (Jvm.Cond.selects "TabledStore" ({ cls := "TabledStore", name := "sum", desc := "(I)I" } : Jvm.MethodName) ({ cls := "TabledStore", name := "sum", desc := "(I)I" } : Jvm.MethodName)) ∈ WB_ := wb_mk (i := 603) (by decide +kernel) (by decide +kernel)
theorem wd_604 : (Jvm.Cond.code ({ cls := "TabledStore", name := "sum", desc := "(I)I" } : Jvm.MethodName) prog_1_method_24_code (3 : Nat) (Option.some Jvm.ClassFile.FieldType.int)) ∈ WB_ := wb_mk (i := 604) (by decide +kernel) (by decide +kernel)
theorem g_L_7 : GoodIn WB_ (wsV R_L 7 R_T y_T_number ws_T_number) := gV_ wd_210 wd_211 wd_212 wd_38 wd_213
theorem g_L_15 : GoodIn WB_ (wsV R_L 15 R_T y_T_move ws_T_move) := gV_ wd_305 wd_306 wd_307 wd_38 wd_308
theorem g_L_18 : GoodIn WB_ (wsV R_L 18 R_T y_T_clear ws_T_clear) := gV_ wd_312 wd_313 wd_314 wd_38 wd_315
theorem g_L_22 : GoodIn WB_ (wsV R_L 22 R_T y_T_make ws_T_make) := gV_ wd_320 wd_321 wd_322 wd_38 wd_323
theorem g_L_28 : GoodIn WB_ (wsV R_L 28 R_T y_T_copy ws_T_copy) := gV_ wd_365 wd_366 wd_367 wd_38 wd_368
theorem g_L_32 : GoodIn WB_ (wsV R_L 32 R_T y_T_chain ws_T_chain) := gV_ wd_391 wd_392 wd_393 wd_38 wd_394
theorem g_L_36 : GoodIn WB_ (wsV R_L 36 R_T y_T_get ws_T_get) := gV_ wd_408 wd_409 wd_410 wd_38 wd_411
theorem g_L_42 : GoodIn WB_ (wsV R_L 42 R_T y_T_put ws_T_put) := gV_ wd_452 wd_453 wd_454 wd_38 wd_455
theorem g_L_45 : GoodIn WB_ (wsV R_L 45 R_T y_T_walk ws_T_walk) := gV_ wd_459 wd_460 wd_461 wd_38 wd_462
theorem g_L_49 : GoodIn WB_ (wsV R_L 49 R_T y_T_classOf ws_T_classOf) := gV_ wd_472 wd_473 wd_474 wd_38 wd_475
theorem g_L_52 : GoodIn WB_ (wsV R_L 52 R_T y_T_setClass ws_T_setClass) := gV_ wd_479 wd_480 wd_481 wd_38 wd_482
theorem g_L_55 : GoodIn WB_ (wsV R_L 55 R_T y_T_byteAt ws_T_byteAt) := gV_ wd_490 wd_491 wd_492 wd_38 wd_493
theorem g_L_58 : GoodIn WB_ (wsV R_L 58 R_T y_T_bytePut ws_T_bytePut) := gV_ wd_517 wd_518 wd_519 wd_38 wd_520
theorem g_L_62 : GoodIn WB_ (wsV R_L 62 R_T y_T_kind ws_T_kind) := gV_ wd_529 wd_530 wd_531 wd_38 wd_532
theorem g_L_66 : GoodIn WB_ (wsV R_L 66 R_T y_T_value ws_T_value) := gV_ wd_539 wd_540 wd_541 wd_38 wd_542
theorem g_L_69 : GoodIn WB_ (wsV R_L 69 R_T y_T_size ws_T_size) := gV_ wd_549 wd_550 wd_551 wd_38 wd_552
theorem g_L_72 : GoodIn WB_ (wsV R_L 72 R_T y_T_become ws_T_become) := gV_ wd_556 wd_557 wd_558 wd_38 wd_559
theorem g_L_75 : GoodIn WB_ (wsV R_L 75 R_T y_T_instance ws_T_instance) := gV_ wd_567 wd_568 wd_569 wd_38 wd_570
theorem g_L_78 : GoodIn WB_ (wsV R_L 78 R_T y_T_owners ws_T_owners) := gV_ wd_579 wd_580 wd_581 wd_38 wd_582
theorem g_L_81 : GoodIn WB_ (wsV R_L 81 R_T y_T_reaches ws_T_reaches) := gV_ wd_590 wd_591 wd_592 wd_38 wd_593
theorem g_L_85 : GoodIn WB_ (wsV R_L 85 R_T y_T_sum ws_T_sum) := gV_ wd_601 wd_602 wd_603 wd_38 wd_604
theorem d_L_cell_0 : decode c_L_cell 0 = .ok (.iload_n 1, 1) := by decide +kernel
theorem d_L_cell_1 : decode c_L_cell 1 = .ok (.aload_n 0, 1) := by decide +kernel
theorem d_L_cell_2 : decode c_L_cell 2 = .ok (.arraylength, 1) := by decide +kernel
theorem d_L_cell_3 : decode c_L_cell 3 = .ok (.if_icmp .ge 9, 3) := by decide +kernel
theorem d_L_cell_6 : decode c_L_cell 6 = .ok (.aload_n 0, 1) := by decide +kernel
theorem d_L_cell_7 : decode c_L_cell 7 = .ok (.iload_n 1, 1) := by decide +kernel
theorem d_L_cell_8 : decode c_L_cell 8 = .ok (.iaload, 1) := by decide +kernel
theorem d_L_cell_9 : decode c_L_cell 9 = .ok (.goto 4, 3) := by decide +kernel
theorem d_L_cell_12 : decode c_L_cell 12 = .ok (.iconst 0, 1) := by decide +kernel
theorem d_L_cell_13 : decode c_L_cell 13 = .ok (.ireturn, 1) := by decide +kernel
theorem d_L_number_0 : decode c_L_number 0 = .ok (.aload_n 0, 1) := by decide +kernel
theorem d_L_number_1 : decode c_L_number 1 = .ok (.iload_n 1, 1) := by decide +kernel
theorem d_L_number_2 : decode c_L_number 2 = .ok (.iload_n 2, 1) := by decide +kernel
theorem d_L_number_3 : decode c_L_number 3 = .ok (.invokevirtual 7, 3) := by decide +kernel
theorem d_L_number_6 : decode c_L_number 6 = .ok (.goto 6, 3) := by decide +kernel
theorem d_L_number_9 : decode c_L_number 9 = .ok (.astore_n 3, 1) := by decide +kernel
theorem d_L_number_10 : decode c_L_number 10 = .ok (.iconst 1, 1) := by decide +kernel
theorem d_L_number_11 : decode c_L_number 11 = .ok (.ireturn, 1) := by decide +kernel
theorem d_L_number_12 : decode c_L_number 12 = .ok (.iconst 0, 1) := by decide +kernel
theorem d_L_number_13 : decode c_L_number 13 = .ok (.ireturn, 1) := by decide +kernel
theorem d_L_move_0 : decode c_L_move 0 = .ok (.aload_n 0, 1) := by decide +kernel
theorem d_L_move_1 : decode c_L_move 1 = .ok (.iload_n 1, 1) := by decide +kernel
theorem d_L_move_2 : decode c_L_move 2 = .ok (.iload_n 2, 1) := by decide +kernel
theorem d_L_move_3 : decode c_L_move 3 = .ok (.invokevirtual 15, 3) := by decide +kernel
theorem d_L_move_6 : decode c_L_move 6 = .ok (.goto 6, 3) := by decide +kernel
theorem d_L_move_9 : decode c_L_move 9 = .ok (.astore_n 3, 1) := by decide +kernel
theorem d_L_move_10 : decode c_L_move 10 = .ok (.iconst 1, 1) := by decide +kernel
theorem d_L_move_11 : decode c_L_move 11 = .ok (.ireturn, 1) := by decide +kernel
theorem d_L_move_12 : decode c_L_move 12 = .ok (.iconst 0, 1) := by decide +kernel
theorem d_L_move_13 : decode c_L_move 13 = .ok (.ireturn, 1) := by decide +kernel
theorem d_L_clear_0 : decode c_L_clear 0 = .ok (.aload_n 0, 1) := by decide +kernel
theorem d_L_clear_1 : decode c_L_clear 1 = .ok (.iload_n 1, 1) := by decide +kernel
theorem d_L_clear_2 : decode c_L_clear 2 = .ok (.invokevirtual 18, 3) := by decide +kernel
theorem d_L_clear_5 : decode c_L_clear 5 = .ok (.goto 6, 3) := by decide +kernel
theorem d_L_clear_8 : decode c_L_clear 8 = .ok (.astore_n 2, 1) := by decide +kernel
theorem d_L_clear_9 : decode c_L_clear 9 = .ok (.iconst 1, 1) := by decide +kernel
theorem d_L_clear_10 : decode c_L_clear 10 = .ok (.ireturn, 1) := by decide +kernel
theorem d_L_clear_11 : decode c_L_clear 11 = .ok (.iconst 0, 1) := by decide +kernel
theorem d_L_clear_12 : decode c_L_clear 12 = .ok (.ireturn, 1) := by decide +kernel
theorem d_L_make_0 : decode c_L_make 0 = .ok (.aload 5, 2) := by decide +kernel
theorem d_L_make_2 : decode c_L_make 2 = .ok (.iconst 0, 1) := by decide +kernel
theorem d_L_make_3 : decode c_L_make 3 = .ok (.aload_n 0, 1) := by decide +kernel
theorem d_L_make_4 : decode c_L_make 4 = .ok (.iload_n 1, 1) := by decide +kernel
theorem d_L_make_5 : decode c_L_make 5 = .ok (.iload_n 2, 1) := by decide +kernel
theorem d_L_make_6 : decode c_L_make 6 = .ok (.iload_n 3, 1) := by decide +kernel
theorem d_L_make_7 : decode c_L_make 7 = .ok (.iload 4, 2) := by decide +kernel
theorem d_L_make_9 : decode c_L_make 9 = .ok (.invokevirtual 22, 3) := by decide +kernel
theorem d_L_make_12 : decode c_L_make 12 = .ok (.i2l, 1) := by decide +kernel
theorem d_L_make_13 : decode c_L_make 13 = .ok (.lastore, 1) := by decide +kernel
theorem d_L_make_14 : decode c_L_make 14 = .ok (.goto 11, 3) := by decide +kernel
theorem d_L_make_17 : decode c_L_make 17 = .ok (.astore 6, 2) := by decide +kernel
theorem d_L_make_19 : decode c_L_make 19 = .ok (.iconst 1, 1) := by decide +kernel
theorem d_L_make_20 : decode c_L_make 20 = .ok (.ireturn, 1) := by decide +kernel
theorem d_L_make_21 : decode c_L_make 21 = .ok (.astore 6, 2) := by decide +kernel
theorem d_L_make_23 : decode c_L_make 23 = .ok (.iconst 2, 1) := by decide +kernel
theorem d_L_make_24 : decode c_L_make 24 = .ok (.ireturn, 1) := by decide +kernel
theorem d_L_make_25 : decode c_L_make 25 = .ok (.iconst 0, 1) := by decide +kernel
theorem d_L_make_26 : decode c_L_make 26 = .ok (.ireturn, 1) := by decide +kernel
theorem d_L_copy_0 : decode c_L_copy 0 = .ok (.aload_n 3, 1) := by decide +kernel
theorem d_L_copy_1 : decode c_L_copy 1 = .ok (.iconst 0, 1) := by decide +kernel
theorem d_L_copy_2 : decode c_L_copy 2 = .ok (.aload_n 0, 1) := by decide +kernel
theorem d_L_copy_3 : decode c_L_copy 3 = .ok (.iload_n 1, 1) := by decide +kernel
theorem d_L_copy_4 : decode c_L_copy 4 = .ok (.iload_n 2, 1) := by decide +kernel
theorem d_L_copy_5 : decode c_L_copy 5 = .ok (.invokevirtual 28, 3) := by decide +kernel
theorem d_L_copy_8 : decode c_L_copy 8 = .ok (.i2l, 1) := by decide +kernel
theorem d_L_copy_9 : decode c_L_copy 9 = .ok (.lastore, 1) := by decide +kernel
theorem d_L_copy_10 : decode c_L_copy 10 = .ok (.goto 11, 3) := by decide +kernel
theorem d_L_copy_13 : decode c_L_copy 13 = .ok (.astore 4, 2) := by decide +kernel
theorem d_L_copy_15 : decode c_L_copy 15 = .ok (.iconst 1, 1) := by decide +kernel
theorem d_L_copy_16 : decode c_L_copy 16 = .ok (.ireturn, 1) := by decide +kernel
theorem d_L_copy_17 : decode c_L_copy 17 = .ok (.astore 4, 2) := by decide +kernel
theorem d_L_copy_19 : decode c_L_copy 19 = .ok (.iconst 2, 1) := by decide +kernel
theorem d_L_copy_20 : decode c_L_copy 20 = .ok (.ireturn, 1) := by decide +kernel
theorem d_L_copy_21 : decode c_L_copy 21 = .ok (.iconst 0, 1) := by decide +kernel
theorem d_L_copy_22 : decode c_L_copy 22 = .ok (.ireturn, 1) := by decide +kernel
theorem d_L_chain_0 : decode c_L_chain 0 = .ok (.aload 5, 2) := by decide +kernel
theorem d_L_chain_2 : decode c_L_chain 2 = .ok (.iconst 0, 1) := by decide +kernel
theorem d_L_chain_3 : decode c_L_chain 3 = .ok (.aload_n 0, 1) := by decide +kernel
theorem d_L_chain_4 : decode c_L_chain 4 = .ok (.iload_n 1, 1) := by decide +kernel
theorem d_L_chain_5 : decode c_L_chain 5 = .ok (.iload_n 2, 1) := by decide +kernel
theorem d_L_chain_6 : decode c_L_chain 6 = .ok (.iload_n 3, 1) := by decide +kernel
theorem d_L_chain_7 : decode c_L_chain 7 = .ok (.iload 4, 2) := by decide +kernel
theorem d_L_chain_9 : decode c_L_chain 9 = .ok (.invokevirtual 32, 3) := by decide +kernel
theorem d_L_chain_12 : decode c_L_chain 12 = .ok (.i2l, 1) := by decide +kernel
theorem d_L_chain_13 : decode c_L_chain 13 = .ok (.lastore, 1) := by decide +kernel
theorem d_L_chain_14 : decode c_L_chain 14 = .ok (.goto 7, 3) := by decide +kernel
theorem d_L_chain_17 : decode c_L_chain 17 = .ok (.astore 6, 2) := by decide +kernel
theorem d_L_chain_19 : decode c_L_chain 19 = .ok (.iconst 1, 1) := by decide +kernel
theorem d_L_chain_20 : decode c_L_chain 20 = .ok (.ireturn, 1) := by decide +kernel
theorem d_L_chain_21 : decode c_L_chain 21 = .ok (.iconst 0, 1) := by decide +kernel
theorem d_L_chain_22 : decode c_L_chain 22 = .ok (.ireturn, 1) := by decide +kernel
theorem d_L_get_0 : decode c_L_get 0 = .ok (.aload_n 0, 1) := by decide +kernel
theorem d_L_get_1 : decode c_L_get 1 = .ok (.iload_n 1, 1) := by decide +kernel
theorem d_L_get_2 : decode c_L_get 2 = .ok (.iload_n 2, 1) := by decide +kernel
theorem d_L_get_3 : decode c_L_get 3 = .ok (.iload_n 3, 1) := by decide +kernel
theorem d_L_get_4 : decode c_L_get 4 = .ok (.invokevirtual 36, 3) := by decide +kernel
theorem d_L_get_7 : decode c_L_get 7 = .ok (.goto 11, 3) := by decide +kernel
theorem d_L_get_10 : decode c_L_get 10 = .ok (.astore 4, 2) := by decide +kernel
theorem d_L_get_12 : decode c_L_get 12 = .ok (.iconst 1, 1) := by decide +kernel
theorem d_L_get_13 : decode c_L_get 13 = .ok (.ireturn, 1) := by decide +kernel
theorem d_L_get_14 : decode c_L_get 14 = .ok (.astore 4, 2) := by decide +kernel
theorem d_L_get_16 : decode c_L_get 16 = .ok (.iconst 2, 1) := by decide +kernel
theorem d_L_get_17 : decode c_L_get 17 = .ok (.ireturn, 1) := by decide +kernel
theorem d_L_get_18 : decode c_L_get 18 = .ok (.iconst 0, 1) := by decide +kernel
theorem d_L_get_19 : decode c_L_get 19 = .ok (.ireturn, 1) := by decide +kernel
theorem d_L_put_0 : decode c_L_put 0 = .ok (.aload_n 0, 1) := by decide +kernel
theorem d_L_put_1 : decode c_L_put 1 = .ok (.iload_n 1, 1) := by decide +kernel
theorem d_L_put_2 : decode c_L_put 2 = .ok (.iload_n 2, 1) := by decide +kernel
theorem d_L_put_3 : decode c_L_put 3 = .ok (.iload_n 3, 1) := by decide +kernel
theorem d_L_put_4 : decode c_L_put 4 = .ok (.invokevirtual 42, 3) := by decide +kernel
theorem d_L_put_7 : decode c_L_put 7 = .ok (.goto 11, 3) := by decide +kernel
theorem d_L_put_10 : decode c_L_put 10 = .ok (.astore 4, 2) := by decide +kernel
theorem d_L_put_12 : decode c_L_put 12 = .ok (.iconst 1, 1) := by decide +kernel
theorem d_L_put_13 : decode c_L_put 13 = .ok (.ireturn, 1) := by decide +kernel
theorem d_L_put_14 : decode c_L_put 14 = .ok (.astore 4, 2) := by decide +kernel
theorem d_L_put_16 : decode c_L_put 16 = .ok (.iconst 2, 1) := by decide +kernel
theorem d_L_put_17 : decode c_L_put 17 = .ok (.ireturn, 1) := by decide +kernel
theorem d_L_put_18 : decode c_L_put 18 = .ok (.iconst 0, 1) := by decide +kernel
theorem d_L_put_19 : decode c_L_put 19 = .ok (.ireturn, 1) := by decide +kernel
theorem d_L_walk_0 : decode c_L_walk 0 = .ok (.aload 4, 2) := by decide +kernel
theorem d_L_walk_2 : decode c_L_walk 2 = .ok (.iconst 0, 1) := by decide +kernel
theorem d_L_walk_3 : decode c_L_walk 3 = .ok (.aload_n 0, 1) := by decide +kernel
theorem d_L_walk_4 : decode c_L_walk 4 = .ok (.iload_n 1, 1) := by decide +kernel
theorem d_L_walk_5 : decode c_L_walk 5 = .ok (.iload_n 2, 1) := by decide +kernel
theorem d_L_walk_6 : decode c_L_walk 6 = .ok (.iload_n 3, 1) := by decide +kernel
theorem d_L_walk_7 : decode c_L_walk 7 = .ok (.invokevirtual 45, 3) := by decide +kernel
theorem d_L_walk_10 : decode c_L_walk 10 = .ok (.i2l, 1) := by decide +kernel
theorem d_L_walk_11 : decode c_L_walk 11 = .ok (.lastore, 1) := by decide +kernel
theorem d_L_walk_12 : decode c_L_walk 12 = .ok (.goto 7, 3) := by decide +kernel
theorem d_L_walk_15 : decode c_L_walk 15 = .ok (.astore 5, 2) := by decide +kernel
theorem d_L_walk_17 : decode c_L_walk 17 = .ok (.iconst 1, 1) := by decide +kernel
theorem d_L_walk_18 : decode c_L_walk 18 = .ok (.ireturn, 1) := by decide +kernel
theorem d_L_walk_19 : decode c_L_walk 19 = .ok (.iconst 0, 1) := by decide +kernel
theorem d_L_walk_20 : decode c_L_walk 20 = .ok (.ireturn, 1) := by decide +kernel
theorem d_L_classOf_0 : decode c_L_classOf 0 = .ok (.aload_n 0, 1) := by decide +kernel
theorem d_L_classOf_1 : decode c_L_classOf 1 = .ok (.iload_n 1, 1) := by decide +kernel
theorem d_L_classOf_2 : decode c_L_classOf 2 = .ok (.iload_n 2, 1) := by decide +kernel
theorem d_L_classOf_3 : decode c_L_classOf 3 = .ok (.invokevirtual 49, 3) := by decide +kernel
theorem d_L_classOf_6 : decode c_L_classOf 6 = .ok (.goto 6, 3) := by decide +kernel
theorem d_L_classOf_9 : decode c_L_classOf 9 = .ok (.astore_n 3, 1) := by decide +kernel
theorem d_L_classOf_10 : decode c_L_classOf 10 = .ok (.iconst 1, 1) := by decide +kernel
theorem d_L_classOf_11 : decode c_L_classOf 11 = .ok (.ireturn, 1) := by decide +kernel
theorem d_L_classOf_12 : decode c_L_classOf 12 = .ok (.iconst 0, 1) := by decide +kernel
theorem d_L_classOf_13 : decode c_L_classOf 13 = .ok (.ireturn, 1) := by decide +kernel
theorem d_L_setClass_0 : decode c_L_setClass 0 = .ok (.aload_n 0, 1) := by decide +kernel
theorem d_L_setClass_1 : decode c_L_setClass 1 = .ok (.iload_n 1, 1) := by decide +kernel
theorem d_L_setClass_2 : decode c_L_setClass 2 = .ok (.iload_n 2, 1) := by decide +kernel
theorem d_L_setClass_3 : decode c_L_setClass 3 = .ok (.invokevirtual 52, 3) := by decide +kernel
theorem d_L_setClass_6 : decode c_L_setClass 6 = .ok (.goto 6, 3) := by decide +kernel
theorem d_L_setClass_9 : decode c_L_setClass 9 = .ok (.astore_n 3, 1) := by decide +kernel
theorem d_L_setClass_10 : decode c_L_setClass 10 = .ok (.iconst 1, 1) := by decide +kernel
theorem d_L_setClass_11 : decode c_L_setClass 11 = .ok (.ireturn, 1) := by decide +kernel
theorem d_L_setClass_12 : decode c_L_setClass 12 = .ok (.iconst 0, 1) := by decide +kernel
theorem d_L_setClass_13 : decode c_L_setClass 13 = .ok (.ireturn, 1) := by decide +kernel
theorem d_L_byteAt_0 : decode c_L_byteAt 0 = .ok (.aload_n 3, 1) := by decide +kernel
theorem d_L_byteAt_1 : decode c_L_byteAt 1 = .ok (.iconst 0, 1) := by decide +kernel
theorem d_L_byteAt_2 : decode c_L_byteAt 2 = .ok (.aload_n 0, 1) := by decide +kernel
theorem d_L_byteAt_3 : decode c_L_byteAt 3 = .ok (.iload_n 1, 1) := by decide +kernel
theorem d_L_byteAt_4 : decode c_L_byteAt 4 = .ok (.iload_n 2, 1) := by decide +kernel
theorem d_L_byteAt_5 : decode c_L_byteAt 5 = .ok (.invokevirtual 55, 3) := by decide +kernel
theorem d_L_byteAt_8 : decode c_L_byteAt 8 = .ok (.i2l, 1) := by decide +kernel
theorem d_L_byteAt_9 : decode c_L_byteAt 9 = .ok (.lastore, 1) := by decide +kernel
theorem d_L_byteAt_10 : decode c_L_byteAt 10 = .ok (.goto 11, 3) := by decide +kernel
theorem d_L_byteAt_13 : decode c_L_byteAt 13 = .ok (.astore 4, 2) := by decide +kernel
theorem d_L_byteAt_15 : decode c_L_byteAt 15 = .ok (.iconst 1, 1) := by decide +kernel
theorem d_L_byteAt_16 : decode c_L_byteAt 16 = .ok (.ireturn, 1) := by decide +kernel
theorem d_L_byteAt_17 : decode c_L_byteAt 17 = .ok (.astore 4, 2) := by decide +kernel
theorem d_L_byteAt_19 : decode c_L_byteAt 19 = .ok (.iconst 2, 1) := by decide +kernel
theorem d_L_byteAt_20 : decode c_L_byteAt 20 = .ok (.ireturn, 1) := by decide +kernel
theorem d_L_byteAt_21 : decode c_L_byteAt 21 = .ok (.iconst 0, 1) := by decide +kernel
theorem d_L_byteAt_22 : decode c_L_byteAt 22 = .ok (.ireturn, 1) := by decide +kernel
theorem d_L_bytePut_0 : decode c_L_bytePut 0 = .ok (.aload_n 0, 1) := by decide +kernel
theorem d_L_bytePut_1 : decode c_L_bytePut 1 = .ok (.iload_n 1, 1) := by decide +kernel
theorem d_L_bytePut_2 : decode c_L_bytePut 2 = .ok (.iload_n 2, 1) := by decide +kernel
theorem d_L_bytePut_3 : decode c_L_bytePut 3 = .ok (.lload_n 3, 1) := by decide +kernel
theorem d_L_bytePut_4 : decode c_L_bytePut 4 = .ok (.invokevirtual 58, 3) := by decide +kernel
theorem d_L_bytePut_7 : decode c_L_bytePut 7 = .ok (.goto 11, 3) := by decide +kernel
theorem d_L_bytePut_10 : decode c_L_bytePut 10 = .ok (.astore 5, 2) := by decide +kernel
theorem d_L_bytePut_12 : decode c_L_bytePut 12 = .ok (.iconst 1, 1) := by decide +kernel
theorem d_L_bytePut_13 : decode c_L_bytePut 13 = .ok (.ireturn, 1) := by decide +kernel
theorem d_L_bytePut_14 : decode c_L_bytePut 14 = .ok (.astore 5, 2) := by decide +kernel
theorem d_L_bytePut_16 : decode c_L_bytePut 16 = .ok (.iconst 2, 1) := by decide +kernel
theorem d_L_bytePut_17 : decode c_L_bytePut 17 = .ok (.ireturn, 1) := by decide +kernel
theorem d_L_bytePut_18 : decode c_L_bytePut 18 = .ok (.iconst 0, 1) := by decide +kernel
theorem d_L_bytePut_19 : decode c_L_bytePut 19 = .ok (.ireturn, 1) := by decide +kernel
theorem d_L_kind_0 : decode c_L_kind 0 = .ok (.aload_n 2, 1) := by decide +kernel
theorem d_L_kind_1 : decode c_L_kind 1 = .ok (.iconst 0, 1) := by decide +kernel
theorem d_L_kind_2 : decode c_L_kind 2 = .ok (.aload_n 0, 1) := by decide +kernel
theorem d_L_kind_3 : decode c_L_kind 3 = .ok (.iload_n 1, 1) := by decide +kernel
theorem d_L_kind_4 : decode c_L_kind 4 = .ok (.invokevirtual 62, 3) := by decide +kernel
theorem d_L_kind_7 : decode c_L_kind 7 = .ok (.i2l, 1) := by decide +kernel
theorem d_L_kind_8 : decode c_L_kind 8 = .ok (.lastore, 1) := by decide +kernel
theorem d_L_kind_9 : decode c_L_kind 9 = .ok (.goto 6, 3) := by decide +kernel
theorem d_L_kind_12 : decode c_L_kind 12 = .ok (.astore_n 3, 1) := by decide +kernel
theorem d_L_kind_13 : decode c_L_kind 13 = .ok (.iconst 1, 1) := by decide +kernel
theorem d_L_kind_14 : decode c_L_kind 14 = .ok (.ireturn, 1) := by decide +kernel
theorem d_L_kind_15 : decode c_L_kind 15 = .ok (.iconst 0, 1) := by decide +kernel
theorem d_L_kind_16 : decode c_L_kind 16 = .ok (.ireturn, 1) := by decide +kernel
theorem d_L_value_0 : decode c_L_value 0 = .ok (.aload_n 2, 1) := by decide +kernel
theorem d_L_value_1 : decode c_L_value 1 = .ok (.iconst 0, 1) := by decide +kernel
theorem d_L_value_2 : decode c_L_value 2 = .ok (.aload_n 0, 1) := by decide +kernel
theorem d_L_value_3 : decode c_L_value 3 = .ok (.iload_n 1, 1) := by decide +kernel
theorem d_L_value_4 : decode c_L_value 4 = .ok (.invokevirtual 66, 3) := by decide +kernel
theorem d_L_value_7 : decode c_L_value 7 = .ok (.i2l, 1) := by decide +kernel
theorem d_L_value_8 : decode c_L_value 8 = .ok (.lastore, 1) := by decide +kernel
theorem d_L_value_9 : decode c_L_value 9 = .ok (.goto 6, 3) := by decide +kernel
theorem d_L_value_12 : decode c_L_value 12 = .ok (.astore_n 3, 1) := by decide +kernel
theorem d_L_value_13 : decode c_L_value 13 = .ok (.iconst 1, 1) := by decide +kernel
theorem d_L_value_14 : decode c_L_value 14 = .ok (.ireturn, 1) := by decide +kernel
theorem d_L_value_15 : decode c_L_value 15 = .ok (.iconst 0, 1) := by decide +kernel
theorem d_L_value_16 : decode c_L_value 16 = .ok (.ireturn, 1) := by decide +kernel
theorem d_L_size_0 : decode c_L_size 0 = .ok (.aload_n 2, 1) := by decide +kernel
theorem d_L_size_1 : decode c_L_size 1 = .ok (.iconst 0, 1) := by decide +kernel
theorem d_L_size_2 : decode c_L_size 2 = .ok (.aload_n 0, 1) := by decide +kernel
theorem d_L_size_3 : decode c_L_size 3 = .ok (.iload_n 1, 1) := by decide +kernel
theorem d_L_size_4 : decode c_L_size 4 = .ok (.invokevirtual 69, 3) := by decide +kernel
theorem d_L_size_7 : decode c_L_size 7 = .ok (.i2l, 1) := by decide +kernel
theorem d_L_size_8 : decode c_L_size 8 = .ok (.lastore, 1) := by decide +kernel
theorem d_L_size_9 : decode c_L_size 9 = .ok (.goto 6, 3) := by decide +kernel
theorem d_L_size_12 : decode c_L_size 12 = .ok (.astore_n 3, 1) := by decide +kernel
theorem d_L_size_13 : decode c_L_size 13 = .ok (.iconst 1, 1) := by decide +kernel
theorem d_L_size_14 : decode c_L_size 14 = .ok (.ireturn, 1) := by decide +kernel
theorem d_L_size_15 : decode c_L_size 15 = .ok (.iconst 0, 1) := by decide +kernel
theorem d_L_size_16 : decode c_L_size 16 = .ok (.ireturn, 1) := by decide +kernel
theorem d_L_become_0 : decode c_L_become 0 = .ok (.aload_n 0, 1) := by decide +kernel
theorem d_L_become_1 : decode c_L_become 1 = .ok (.iload_n 1, 1) := by decide +kernel
theorem d_L_become_2 : decode c_L_become 2 = .ok (.iload_n 2, 1) := by decide +kernel
theorem d_L_become_3 : decode c_L_become 3 = .ok (.invokevirtual 72, 3) := by decide +kernel
theorem d_L_become_6 : decode c_L_become 6 = .ok (.goto 6, 3) := by decide +kernel
theorem d_L_become_9 : decode c_L_become 9 = .ok (.astore_n 3, 1) := by decide +kernel
theorem d_L_become_10 : decode c_L_become 10 = .ok (.iconst 1, 1) := by decide +kernel
theorem d_L_become_11 : decode c_L_become 11 = .ok (.ireturn, 1) := by decide +kernel
theorem d_L_become_12 : decode c_L_become 12 = .ok (.iconst 0, 1) := by decide +kernel
theorem d_L_become_13 : decode c_L_become 13 = .ok (.ireturn, 1) := by decide +kernel
theorem d_L_instance_0 : decode c_L_instance 0 = .ok (.aload 4, 2) := by decide +kernel
theorem d_L_instance_2 : decode c_L_instance 2 = .ok (.iconst 0, 1) := by decide +kernel
theorem d_L_instance_3 : decode c_L_instance 3 = .ok (.aload_n 0, 1) := by decide +kernel
theorem d_L_instance_4 : decode c_L_instance 4 = .ok (.iload_n 1, 1) := by decide +kernel
theorem d_L_instance_5 : decode c_L_instance 5 = .ok (.iload_n 2, 1) := by decide +kernel
theorem d_L_instance_6 : decode c_L_instance 6 = .ok (.iload_n 3, 1) := by decide +kernel
theorem d_L_instance_7 : decode c_L_instance 7 = .ok (.invokevirtual 75, 3) := by decide +kernel
theorem d_L_instance_10 : decode c_L_instance 10 = .ok (.i2l, 1) := by decide +kernel
theorem d_L_instance_11 : decode c_L_instance 11 = .ok (.lastore, 1) := by decide +kernel
theorem d_L_instance_12 : decode c_L_instance 12 = .ok (.goto 7, 3) := by decide +kernel
theorem d_L_instance_15 : decode c_L_instance 15 = .ok (.astore 5, 2) := by decide +kernel
theorem d_L_instance_17 : decode c_L_instance 17 = .ok (.iconst 1, 1) := by decide +kernel
theorem d_L_instance_18 : decode c_L_instance 18 = .ok (.ireturn, 1) := by decide +kernel
theorem d_L_instance_19 : decode c_L_instance 19 = .ok (.iconst 0, 1) := by decide +kernel
theorem d_L_instance_20 : decode c_L_instance 20 = .ok (.ireturn, 1) := by decide +kernel
theorem d_L_owners_0 : decode c_L_owners 0 = .ok (.aload_n 2, 1) := by decide +kernel
theorem d_L_owners_1 : decode c_L_owners 1 = .ok (.iconst 0, 1) := by decide +kernel
theorem d_L_owners_2 : decode c_L_owners 2 = .ok (.aload_n 0, 1) := by decide +kernel
theorem d_L_owners_3 : decode c_L_owners 3 = .ok (.iload_n 1, 1) := by decide +kernel
theorem d_L_owners_4 : decode c_L_owners 4 = .ok (.invokevirtual 78, 3) := by decide +kernel
theorem d_L_owners_7 : decode c_L_owners 7 = .ok (.i2l, 1) := by decide +kernel
theorem d_L_owners_8 : decode c_L_owners 8 = .ok (.lastore, 1) := by decide +kernel
theorem d_L_owners_9 : decode c_L_owners 9 = .ok (.goto 6, 3) := by decide +kernel
theorem d_L_owners_12 : decode c_L_owners 12 = .ok (.astore_n 3, 1) := by decide +kernel
theorem d_L_owners_13 : decode c_L_owners 13 = .ok (.iconst 1, 1) := by decide +kernel
theorem d_L_owners_14 : decode c_L_owners 14 = .ok (.ireturn, 1) := by decide +kernel
theorem d_L_owners_15 : decode c_L_owners 15 = .ok (.iconst 0, 1) := by decide +kernel
theorem d_L_owners_16 : decode c_L_owners 16 = .ok (.ireturn, 1) := by decide +kernel
theorem d_L_reaches_0 : decode c_L_reaches 0 = .ok (.aload_n 3, 1) := by decide +kernel
theorem d_L_reaches_1 : decode c_L_reaches 1 = .ok (.iconst 0, 1) := by decide +kernel
theorem d_L_reaches_2 : decode c_L_reaches 2 = .ok (.aload_n 0, 1) := by decide +kernel
theorem d_L_reaches_3 : decode c_L_reaches 3 = .ok (.iload_n 1, 1) := by decide +kernel
theorem d_L_reaches_4 : decode c_L_reaches 4 = .ok (.iload_n 2, 1) := by decide +kernel
theorem d_L_reaches_5 : decode c_L_reaches 5 = .ok (.invokevirtual 81, 3) := by decide +kernel
theorem d_L_reaches_8 : decode c_L_reaches 8 = .ok (.ifCond .eq 7, 3) := by decide +kernel
theorem d_L_reaches_11 : decode c_L_reaches 11 = .ok (.lconst 1, 1) := by decide +kernel
theorem d_L_reaches_12 : decode c_L_reaches 12 = .ok (.goto 4, 3) := by decide +kernel
theorem d_L_reaches_15 : decode c_L_reaches 15 = .ok (.lconst 0, 1) := by decide +kernel
theorem d_L_reaches_16 : decode c_L_reaches 16 = .ok (.lastore, 1) := by decide +kernel
theorem d_L_reaches_17 : decode c_L_reaches 17 = .ok (.goto 7, 3) := by decide +kernel
theorem d_L_reaches_20 : decode c_L_reaches 20 = .ok (.astore 4, 2) := by decide +kernel
theorem d_L_reaches_22 : decode c_L_reaches 22 = .ok (.iconst 1, 1) := by decide +kernel
theorem d_L_reaches_23 : decode c_L_reaches 23 = .ok (.ireturn, 1) := by decide +kernel
theorem d_L_reaches_24 : decode c_L_reaches 24 = .ok (.iconst 0, 1) := by decide +kernel
theorem d_L_reaches_25 : decode c_L_reaches 25 = .ok (.ireturn, 1) := by decide +kernel
theorem d_L_sum_0 : decode c_L_sum 0 = .ok (.aload_n 2, 1) := by decide +kernel
theorem d_L_sum_1 : decode c_L_sum 1 = .ok (.iconst 0, 1) := by decide +kernel
theorem d_L_sum_2 : decode c_L_sum 2 = .ok (.aload_n 0, 1) := by decide +kernel
theorem d_L_sum_3 : decode c_L_sum 3 = .ok (.iload_n 1, 1) := by decide +kernel
theorem d_L_sum_4 : decode c_L_sum 4 = .ok (.invokevirtual 85, 3) := by decide +kernel
theorem d_L_sum_7 : decode c_L_sum 7 = .ok (.i2l, 1) := by decide +kernel
theorem d_L_sum_8 : decode c_L_sum 8 = .ok (.lastore, 1) := by decide +kernel
theorem d_L_sum_9 : decode c_L_sum 9 = .ok (.goto 6, 3) := by decide +kernel
theorem d_L_sum_12 : decode c_L_sum 12 = .ok (.astore_n 3, 1) := by decide +kernel
theorem d_L_sum_13 : decode c_L_sum 13 = .ok (.iconst 1, 1) := by decide +kernel
theorem d_L_sum_14 : decode c_L_sum 14 = .ok (.ireturn, 1) := by decide +kernel
theorem d_L_sum_15 : decode c_L_sum 15 = .ok (.iconst 0, 1) := by decide +kernel
theorem d_L_sum_16 : decode c_L_sum 16 = .ok (.ireturn, 1) := by decide +kernel
