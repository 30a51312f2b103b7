/-! names: classes, fields, methods; the words of the tables, all in one list -/
def WB_ : List Cond := lw_tbl.filter goodWord
theorem wb_mk {w : Cond} {i : Nat} (h1 : lw_tbl[i]? = some w) (h2 : goodWord w = true) : w ∈ WB_ := List.mem_filter.mpr ⟨List.mem_of_getElem? h1, h2⟩
theorem wb_good {w : Cond} (h : w ∈ WB_) : w ∈ WB_ ∧ ((w.onTables && w.keeps) = true ∨ ∃ ty, w = .arrayClass ty) := ⟨h, good_of_word (List.mem_filter.mp h).2⟩
theorem gI_ {y : MethodName} {c : ByteArray} {n : Nat} {r : Option FieldType} (h : Cond.code y c n r ∈ WB_) : GoodIn WB_ (Cond.code y c n r :: WB_) := by
  intro w hw
  rcases List.mem_cons.mp hw with rfl | hw
  · exact wb_good h
  · exact wb_good hw
theorem gV_ {own C : String} {i n : Nat} {y : MethodName} {c : ByteArray} {r : Option FieldType} (h1 : Cond.methodLink own i y ∈ WB_) (h2 : Cond.instanceMethod y ∈ WB_) (h3 : Cond.selects C y y ∈ WB_) (h4 : Cond.initialized C ∈ WB_) (h5 : Cond.code y c n r ∈ WB_) : GoodIn WB_ (wsV own i C y (Cond.code y c n r :: WB_)) := by
  intro w hw
  unfold wsV at hw
  rcases List.mem_append.mp hw with hw | hw
  · rcases List.mem_cons.mp hw with rfl | hw
    · exact wb_good h1
    · rcases List.mem_cons.mp hw with rfl | hw
      · exact wb_good h2
      · rcases List.mem_cons.mp hw with rfl | hw
        · exact wb_good h3
        · rcases List.mem_cons.mp hw with rfl | hw
          · exact wb_good h4
          · cases hw
  · exact gI_ h5 w hw
theorem gS_ {own : String} {i n : Nat} {y : MethodName} {c : ByteArray} {r : Option FieldType} (h1 : Cond.methodLink own i y ∈ WB_) (h2 : Cond.static y ∈ WB_) (h3 : Cond.initialized y.cls ∈ WB_) (h5 : Cond.code y c n r ∈ WB_) : GoodIn WB_ (va_wsS own i y (Cond.code y c n r :: WB_)) := by
  intro w hw
  unfold va_wsS at hw
  rcases List.mem_append.mp hw with hw | hw
  · rcases List.mem_cons.mp hw with rfl | hw
    · exact wb_good h1
    · rcases List.mem_cons.mp hw with rfl | hw
      · exact wb_good h2
      · rcases List.mem_cons.mp hw with rfl | hw
        · exact wb_good h3
        · cases hw
  · exact gI_ h5 w hw
def R_M : String := "TabledStore$Memory"
def T_M : u_T := fun k => match k with
  | 0 => ("TabledStore$Memory", "row", "[I", true)
  | 1 => ("TabledStore$Memory", "used", "I", false)
  | 2 => ("TabledStore$Memory", "places", "[I", true)
  | 3 => ("TabledStore$Memory", "spare", "[I", true)
  | 4 => ("TabledStore$Memory", "spareCount", "I", false)
  | 5 => ("TabledStore$Memory", "lastIdentity", "I", false)
  | 6 => ("TabledStore$Memory", "reached", "[I", true)
  | 7 => ("TabledStore$Memory", "reachedCount", "I", false)
  | 8 => ("TabledStore$Memory", "roundOf", "[I", true)
  | 9 => ("TabledStore$Memory", "round", "I", false)
  | _ => ("TabledStore$Memory", "settled", "Z", false)
def ty_M : Nat → FieldType := fun k => match k with
  | 0 => .array .int
  | 1 => .int
  | 2 => .array .int
  | 3 => .array .int
  | 4 => .int
  | 5 => .int
  | 6 => .array .int
  | 7 => .int
  | 8 => .array .int
  | 9 => .int
  | _ => .boolean
theorem nm_M : ∀ a, a < 11 → ∀ b, b < 11 → a ≠ b → (T_M a).2.1 ≠ (T_M b).2.1 := by decide +kernel
theorem ty_M_ok : ∀ k, k < 11 → parseFieldDescriptor (T_M k).2.2.1 = some (ty_M k) := by decide +kernel
theorem in_M : ∀ w ∈ u_ws R_M T_M 11, w ∈ WB_ := by decide +kernel
def R_V : String := "TabledStore$Value"
def R_T : String := "TabledStore"
def T_T : u_T := fun k => match k with
  | 0 => ("TabledStore", "registers", "[I", true)
  | _ => ("TabledStore", "memory", "LTabledStore$Memory;", true)
def ty_T : Nat → FieldType := fun k => match k with
  | 0 => .array .int
  | _ => .object "TabledStore$Memory"
theorem nm_T : ∀ a, a < 2 → ∀ b, b < 2 → a ≠ b → (T_T a).2.1 ≠ (T_T b).2.1 := by decide +kernel
theorem ty_T_ok : ∀ k, k < 2 → parseFieldDescriptor (T_T k).2.2.1 = some (ty_T k) := by decide +kernel
theorem in_T : ∀ w ∈ u_ws R_T T_T 2, w ∈ WB_ := by decide +kernel
def R_R : String := "TabledStoreModel"
def T_R : u_T := fun k => match k with
  | 0 => ("TabledStoreModel", "code", "I", false)
  | 1 => ("TabledStoreModel", "words", "I", true)
  | 2 => ("TabledStoreModel", "entries", "I", true)
  | 3 => ("TabledStoreModel", "registers", "[I", true)
  | 4 => ("TabledStoreModel", "identities", "[I", true)
  | 5 => ("TabledStoreModel", "classes", "[I", true)
  | 6 => ("TabledStoreModel", "bytes", "[Z", true)
  | 7 => ("TabledStoreModel", "sizes", "[I", true)
  | 8 => ("TabledStoreModel", "firsts", "[I", true)
  | 9 => ("TabledStoreModel", "made", "I", false)
  | 10 => ("TabledStoreModel", "hint", "I", false)
  | 11 => ("TabledStoreModel", "cells", "[I", true)
  | 12 => ("TabledStoreModel", "nexts", "[I", true)
  | 13 => ("TabledStoreModel", "free", "I", false)
  | 14 => ("TabledStoreModel", "reached", "[Z", true)
  | 15 => ("TabledStoreModel", "todo", "[I", true)
  | 16 => ("TabledStoreModel", "count", "I", false)
  | _ => ("TabledStoreModel", "taken", "I", false)
def ty_R : Nat → FieldType := fun k => match k with
  | 0 => .int
  | 1 => .int
  | 2 => .int
  | 3 => .array .int
  | 4 => .array .int
  | 5 => .array .int
  | 6 => .array .boolean
  | 7 => .array .int
  | 8 => .array .int
  | 9 => .int
  | 10 => .int
  | 11 => .array .int
  | 12 => .array .int
  | 13 => .int
  | 14 => .array .boolean
  | 15 => .array .int
  | 16 => .int
  | _ => .int
theorem nm_R : ∀ a, a < 18 → ∀ b, b < 18 → a ≠ b → (T_R a).2.1 ≠ (T_R b).2.1 := by decide +kernel
theorem ty_R_ok : ∀ k, k < 18 → parseFieldDescriptor (T_R k).2.2.1 = some (ty_R k) := by decide +kernel
theorem in_R : ∀ w ∈ u_ws R_R T_R 18, w ∈ WB_ := by decide +kernel
def R_L : String := "TabledStoreLaw"
abbrev vwCl : List vw_C := [(R_T, T_T, 2), (R_M, T_M, 11), (R_R, T_R, 18)]
abbrev c_V_ofNumber : ByteArray := prog_3_method_2_code
def y_V_ofNumber : MethodName := ⟨R_V, "ofNumber", "(I)I"⟩
def ws_V_ofNumber : List Cond := .code y_V_ofNumber c_V_ofNumber 1 (some .int) :: WB_
abbrev c_V_ofEntry : ByteArray := prog_3_method_3_code
def y_V_ofEntry : MethodName := ⟨R_V, "ofEntry", "(I)I"⟩
def ws_V_ofEntry : List Cond := .code y_V_ofEntry c_V_ofEntry 1 (some .int) :: WB_
abbrev c_V_isNumber : ByteArray := prog_3_method_4_code
def y_V_isNumber : MethodName := ⟨R_V, "isNumber", "(I)Z"⟩
def ws_V_isNumber : List Cond := .code y_V_isNumber c_V_isNumber 1 (some .boolean) :: WB_
abbrev c_V_isObject : ByteArray := prog_3_method_5_code
def y_V_isObject : MethodName := ⟨R_V, "isObject", "(I)Z"⟩
def ws_V_isObject : List Cond := .code y_V_isObject c_V_isObject 1 (some .boolean) :: WB_
abbrev c_V_toNumber : ByteArray := prog_3_method_6_code
def y_V_toNumber : MethodName := ⟨R_V, "toNumber", "(I)I"⟩
def ws_V_toNumber : List Cond := .code y_V_toNumber c_V_toNumber 1 (some .int) :: WB_
abbrev c_V_toEntry : ByteArray := prog_3_method_7_code
def y_V_toEntry : MethodName := ⟨R_V, "toEntry", "(I)I"⟩
def ws_V_toEntry : List Cond := .code y_V_toEntry c_V_toEntry 1 (some .int) :: WB_
abbrev c_M_init : ByteArray := prog_2_method_1_code
def y_M_init : MethodName := ⟨R_M, "<init>", "(II)V"⟩
def ws_M_init : List Cond := .code y_M_init c_M_init 4 none :: WB_
abbrev c_M_shape : ByteArray := prog_2_method_2_code
def y_M_shape : MethodName := ⟨R_M, "shape", "(IZ)I"⟩
def ws_M_shape : List Cond := .code y_M_shape c_M_shape 2 (some .int) :: WB_
abbrev c_M_isOfBytes : ByteArray := prog_2_method_3_code
def y_M_isOfBytes : MethodName := ⟨R_M, "isOfBytes", "(I)Z"⟩
def ws_M_isOfBytes : List Cond := .code y_M_isOfBytes c_M_isOfBytes 1 (some .boolean) :: WB_
abbrev c_M_bodyWords : ByteArray := prog_2_method_4_code
def y_M_bodyWords : MethodName := ⟨R_M, "bodyWords", "(I)I"⟩
def ws_M_bodyWords : List Cond := .code y_M_bodyWords c_M_bodyWords 2 (some .int) :: WB_
abbrev c_M_place : ByteArray := prog_2_method_5_code
def y_M_place : MethodName := ⟨R_M, "place", "(I)I"⟩
def ws_M_place : List Cond := .code y_M_place c_M_place 2 (some .int) :: WB_
abbrev c_M_holdsSlots : ByteArray := prog_2_method_6_code
def y_M_holdsSlots : MethodName := ⟨R_M, "holdsSlots", "(I)Z"⟩
def ws_M_holdsSlots : List Cond := .code y_M_holdsSlots c_M_holdsSlots 2 (some .boolean) :: WB_
abbrev c_M_holdsBytes : ByteArray := prog_2_method_7_code
def y_M_holdsBytes : MethodName := ⟨R_M, "holdsBytes", "(I)Z"⟩
def ws_M_holdsBytes : List Cond := .code y_M_holdsBytes c_M_holdsBytes 2 (some .boolean) :: WB_
abbrev c_M_count : ByteArray := prog_2_method_8_code
def y_M_count : MethodName := ⟨R_M, "count", "(I)I"⟩
def ws_M_count : List Cond := .code y_M_count c_M_count 2 (some .int) :: WB_
abbrev c_M_identity : ByteArray := prog_2_method_9_code
def y_M_identity : MethodName := ⟨R_M, "identity", "(I)I"⟩
def ws_M_identity : List Cond := .code y_M_identity c_M_identity 2 (some .int) :: WB_
abbrev c_M_itsClass : ByteArray := prog_2_method_10_code
def y_M_itsClass : MethodName := ⟨R_M, "itsClass", "(I)I"⟩
def ws_M_itsClass : List Cond := .code y_M_itsClass c_M_itsClass 2 (some .int) :: WB_
abbrev c_M_setItsClass : ByteArray := prog_2_method_11_code
def y_M_setItsClass : MethodName := ⟨R_M, "setItsClass", "(II)V"⟩
def ws_M_setItsClass : List Cond := .code y_M_setItsClass c_M_setItsClass 3 none :: WB_
abbrev c_M_slot : ByteArray := prog_2_method_12_code
def y_M_slot : MethodName := ⟨R_M, "slot", "(II)I"⟩
def ws_M_slot : List Cond := .code y_M_slot c_M_slot 3 (some .int) :: WB_
abbrev c_M_setSlot : ByteArray := prog_2_method_13_code
def y_M_setSlot : MethodName := ⟨R_M, "setSlot", "(III)V"⟩
def ws_M_setSlot : List Cond := .code y_M_setSlot c_M_setSlot 4 none :: WB_
abbrev c_M_oneByte : ByteArray := prog_2_method_14_code
def y_M_oneByte : MethodName := ⟨R_M, "oneByte", "(II)I"⟩
def ws_M_oneByte : List Cond := .code y_M_oneByte c_M_oneByte 4 (some .int) :: WB_
abbrev c_M_setOneByte : ByteArray := prog_2_method_15_code
def y_M_setOneByte : MethodName := ⟨R_M, "setOneByte", "(III)V"⟩
def ws_M_setOneByte : List Cond := .code y_M_setOneByte c_M_setOneByte 6 none :: WB_
abbrev c_M_shiftOf : ByteArray := prog_2_method_16_code
def y_M_shiftOf : MethodName := ⟨R_M, "shiftOf", "(I)I"⟩
def ws_M_shiftOf : List Cond := .code y_M_shiftOf c_M_shiftOf 1 (some .int) :: WB_
abbrev c_M_overwrite : ByteArray := prog_2_method_17_code
def y_M_overwrite : MethodName := ⟨R_M, "overwrite", "(II)V"⟩
def ws_M_overwrite : List Cond := .code y_M_overwrite c_M_overwrite 3 none :: WB_
abbrev c_M_letGo : ByteArray := prog_2_method_18_code
def y_M_letGo : MethodName := ⟨R_M, "letGo", "(I)V"⟩
def ws_M_letGo : List Cond := .code y_M_letGo c_M_letGo 2 none :: WB_
abbrev c_M_freeWords : ByteArray := prog_2_method_19_code
def y_M_freeWords : MethodName := ⟨R_M, "freeWords", "()I"⟩
def ws_M_freeWords : List Cond := .code y_M_freeWords c_M_freeWords 1 (some .int) :: WB_
abbrev c_M_freeEntries : ByteArray := prog_2_method_20_code
def y_M_freeEntries : MethodName := ⟨R_M, "freeEntries", "()I"⟩
def ws_M_freeEntries : List Cond := .code y_M_freeEntries c_M_freeEntries 1 (some .int) :: WB_
abbrev c_M_build : ByteArray := prog_2_method_21_code
def y_M_build : MethodName := ⟨R_M, "build", "(II[I)I"⟩
def ws_M_build : List Cond := .code y_M_build c_M_build 8 (some .int) :: WB_
abbrev c_M_buildLike : ByteArray := prog_2_method_22_code
def y_M_buildLike : MethodName := ⟨R_M, "buildLike", "(I[I)I"⟩
def ws_M_buildLike : List Cond := .code y_M_buildLike c_M_buildLike 5 (some .int) :: WB_
abbrev c_M_fits : ByteArray := prog_2_method_23_code
def y_M_fits : MethodName := ⟨R_M, "fits", "(I)Z"⟩
def ws_M_fits : List Cond := .code y_M_fits c_M_fits 2 (some .boolean) :: WB_
abbrev c_M_swap : ByteArray := prog_2_method_24_code
def y_M_swap : MethodName := ⟨R_M, "swap", "(II)V"⟩
def ws_M_swap : List Cond := .code y_M_swap c_M_swap 5 none :: WB_
abbrev c_M_seat : ByteArray := prog_2_method_25_code
def y_M_seat : MethodName := ⟨R_M, "seat", "(II)V"⟩
def ws_M_seat : List Cond := .code y_M_seat c_M_seat 3 none :: WB_
abbrev c_M_settle : ByteArray := prog_2_method_26_code
def y_M_settle : MethodName := ⟨R_M, "settle", "([I)V"⟩
def ws_M_settle : List Cond := .code y_M_settle c_M_settle 6 none :: WB_
abbrev c_M_leadsTo : ByteArray := prog_2_method_27_code
def y_M_leadsTo : MethodName := ⟨R_M, "leadsTo", "(II)Z"⟩
def ws_M_leadsTo : List Cond := .code y_M_leadsTo c_M_leadsTo 3 (some .boolean) :: WB_
abbrev c_M_startRound : ByteArray := prog_2_method_28_code
def y_M_startRound : MethodName := ⟨R_M, "startRound", "()V"⟩
def ws_M_startRound : List Cond := .code y_M_startRound c_M_startRound 1 none :: WB_
abbrev c_M_isReached : ByteArray := prog_2_method_29_code
def y_M_isReached : MethodName := ⟨R_M, "isReached", "(I)Z"⟩
def ws_M_isReached : List Cond := .code y_M_isReached c_M_isReached 2 (some .boolean) :: WB_
abbrev c_M_reach : ByteArray := prog_2_method_30_code
def y_M_reach : MethodName := ⟨R_M, "reach", "(I)V"⟩
def ws_M_reach : List Cond := .code y_M_reach c_M_reach 3 none :: WB_
abbrev c_M_spread : ByteArray := prog_2_method_31_code
def y_M_spread : MethodName := ⟨R_M, "spread", "()V"⟩
def ws_M_spread : List Cond := .code y_M_spread c_M_spread 5 none :: WB_
abbrev c_M_endOfSlots : ByteArray := prog_2_method_32_code
def y_M_endOfSlots : MethodName := ⟨R_M, "endOfSlots", "(I)I"⟩
def ws_M_endOfSlots : List Cond := .code y_M_endOfSlots c_M_endOfSlots 3 (some .int) :: WB_
abbrev c_M_bodyWordsAt : ByteArray := prog_2_method_33_code
def y_M_bodyWordsAt : MethodName := ⟨R_M, "bodyWordsAt", "(I)I"⟩
def ws_M_bodyWordsAt : List Cond := .code y_M_bodyWordsAt c_M_bodyWordsAt 2 (some .int) :: WB_
abbrev c_M_slide : ByteArray := prog_2_method_34_code
def y_M_slide : MethodName := ⟨R_M, "slide", "()V"⟩
def ws_M_slide : List Cond := .code y_M_slide c_M_slide 5 none :: WB_
abbrev c_M_findOfClass : ByteArray := prog_2_method_35_code
def y_M_findOfClass : MethodName := ⟨R_M, "findOfClass", "(II)I"⟩
def ws_M_findOfClass : List Cond := .code y_M_findOfClass c_M_findOfClass 5 (some .int) :: WB_
abbrev c_M_countHolders : ByteArray := prog_2_method_36_code
def y_M_countHolders : MethodName := ⟨R_M, "countHolders", "(I)I"⟩
def ws_M_countHolders : List Cond := .code y_M_countHolders c_M_countHolders 6 (some .int) :: WB_
abbrev c_T_init : ByteArray := prog_1_method_1_code
def y_T_init : MethodName := ⟨R_T, "<init>", "(II)V"⟩
def ws_T_init : List Cond := .code y_T_init c_T_init 3 none :: WB_
abbrev c_T_number : ByteArray := prog_1_method_2_code
def y_T_number : MethodName := ⟨R_T, "number", "(II)V"⟩
def ws_T_number : List Cond := .code y_T_number c_T_number 3 none :: WB_
abbrev c_T_move : ByteArray := prog_1_method_3_code
def y_T_move : MethodName := ⟨R_T, "move", "(II)V"⟩
def ws_T_move : List Cond := .code y_T_move c_T_move 3 none :: WB_
abbrev c_T_clear : ByteArray := prog_1_method_4_code
def y_T_clear : MethodName := ⟨R_T, "clear", "(I)V"⟩
def ws_T_clear : List Cond := .code y_T_clear c_T_clear 2 none :: WB_
abbrev c_T_make : ByteArray := prog_1_method_5_code
def y_T_make : MethodName := ⟨R_T, "make", "(IIIZ)I"⟩
def ws_T_make : List Cond := .code y_T_make c_T_make 6 (some .int) :: WB_
abbrev c_T_copy : ByteArray := prog_1_method_6_code
def y_T_copy : MethodName := ⟨R_T, "copy", "(II)I"⟩
def ws_T_copy : List Cond := .code y_T_copy c_T_copy 4 (some .int) :: WB_
abbrev c_T_chain : ByteArray := prog_1_method_7_code
def y_T_chain : MethodName := ⟨R_T, "chain", "(IIII)I"⟩
def ws_T_chain : List Cond := .code y_T_chain c_T_chain 8 (some .int) :: WB_
abbrev c_T_get : ByteArray := prog_1_method_8_code
def y_T_get : MethodName := ⟨R_T, "get", "(III)V"⟩
def ws_T_get : List Cond := .code y_T_get c_T_get 4 none :: WB_
abbrev c_T_put : ByteArray := prog_1_method_9_code
def y_T_put : MethodName := ⟨R_T, "put", "(III)V"⟩
def ws_T_put : List Cond := .code y_T_put c_T_put 4 none :: WB_
abbrev c_T_walk : ByteArray := prog_1_method_10_code
def y_T_walk : MethodName := ⟨R_T, "walk", "(III)I"⟩
def ws_T_walk : List Cond := .code y_T_walk c_T_walk 6 (some .int) :: WB_
abbrev c_T_classOf : ByteArray := prog_1_method_11_code
def y_T_classOf : MethodName := ⟨R_T, "classOf", "(II)V"⟩
def ws_T_classOf : List Cond := .code y_T_classOf c_T_classOf 3 none :: WB_
abbrev c_T_setClass : ByteArray := prog_1_method_12_code
def y_T_setClass : MethodName := ⟨R_T, "setClass", "(II)V"⟩
def ws_T_setClass : List Cond := .code y_T_setClass c_T_setClass 3 none :: WB_
abbrev c_T_byteAt : ByteArray := prog_1_method_13_code
def y_T_byteAt : MethodName := ⟨R_T, "byteAt", "(II)I"⟩
def ws_T_byteAt : List Cond := .code y_T_byteAt c_T_byteAt 3 (some .int) :: WB_
abbrev c_T_bytePut : ByteArray := prog_1_method_14_code
def y_T_bytePut : MethodName := ⟨R_T, "bytePut", "(IIJ)V"⟩
def ws_T_bytePut : List Cond := .code y_T_bytePut c_T_bytePut 9 none :: WB_
abbrev c_T_kind : ByteArray := prog_1_method_15_code
def y_T_kind : MethodName := ⟨R_T, "kind", "(I)I"⟩
def ws_T_kind : List Cond := .code y_T_kind c_T_kind 3 (some .int) :: WB_
abbrev c_T_value : ByteArray := prog_1_method_16_code
def y_T_value : MethodName := ⟨R_T, "value", "(I)I"⟩
def ws_T_value : List Cond := .code y_T_value c_T_value 3 (some .int) :: WB_
abbrev c_T_size : ByteArray := prog_1_method_17_code
def y_T_size : MethodName := ⟨R_T, "size", "(I)I"⟩
def ws_T_size : List Cond := .code y_T_size c_T_size 2 (some .int) :: WB_
abbrev c_T_become : ByteArray := prog_1_method_18_code
def y_T_become : MethodName := ⟨R_T, "become", "(II)V"⟩
def ws_T_become : List Cond := .code y_T_become c_T_become 3 none :: WB_
abbrev c_T_words : ByteArray := prog_1_method_19_code
def y_T_words : MethodName := ⟨R_T, "words", "()I"⟩
def ws_T_words : List Cond := .code y_T_words c_T_words 1 (some .int) :: WB_
abbrev c_T_entries : ByteArray := prog_1_method_20_code
def y_T_entries : MethodName := ⟨R_T, "entries", "()I"⟩
def ws_T_entries : List Cond := .code y_T_entries c_T_entries 1 (some .int) :: WB_
abbrev c_T_instance : ByteArray := prog_1_method_21_code
def y_T_instance : MethodName := ⟨R_T, "instance", "(III)I"⟩
def ws_T_instance : List Cond := .code y_T_instance c_T_instance 5 (some .int) :: WB_
abbrev c_T_owners : ByteArray := prog_1_method_22_code
def y_T_owners : MethodName := ⟨R_T, "owners", "(I)I"⟩
def ws_T_owners : List Cond := .code y_T_owners c_T_owners 8 (some .int) :: WB_
abbrev c_T_reaches : ByteArray := prog_1_method_23_code
def y_T_reaches : MethodName := ⟨R_T, "reaches", "(II)Z"⟩
def ws_T_reaches : List Cond := .code y_T_reaches c_T_reaches 3 (some .boolean) :: WB_
abbrev c_T_sum : ByteArray := prog_1_method_24_code
def y_T_sum : MethodName := ⟨R_T, "sum", "(I)I"⟩
def ws_T_sum : List Cond := .code y_T_sum c_T_sum 6 (some .int) :: WB_
abbrev c_T_setRegister : ByteArray := prog_1_method_25_code
def y_T_setRegister : MethodName := ⟨R_T, "setRegister", "(II)V"⟩
def ws_T_setRegister : List Cond := .code y_T_setRegister c_T_setRegister 3 none :: WB_
abbrev c_T_isBetween : ByteArray := prog_1_method_26_code
def y_T_isBetween : MethodName := ⟨R_T, "isBetween", "(III)Z"⟩
def ws_T_isBetween : List Cond := .code y_T_isBetween c_T_isBetween 3 (some .boolean) :: WB_
abbrev c_T_needBetween : ByteArray := prog_1_method_27_code
def y_T_needBetween : MethodName := ⟨R_T, "needBetween", "(III)V"⟩
def ws_T_needBetween : List Cond := .code y_T_needBetween c_T_needBetween 3 none :: WB_
abbrev c_T_needRegister : ByteArray := prog_1_method_28_code
def y_T_needRegister : MethodName := ⟨R_T, "needRegister", "(I)V"⟩
def ws_T_needRegister : List Cond := .code y_T_needRegister c_T_needRegister 1 none :: WB_
abbrev c_T_needObject : ByteArray := prog_1_method_29_code
def y_T_needObject : MethodName := ⟨R_T, "needObject", "(I)V"⟩
def ws_T_needObject : List Cond := .code y_T_needObject c_T_needObject 2 none :: WB_
abbrev c_T_needSlots : ByteArray := prog_1_method_30_code
def y_T_needSlots : MethodName := ⟨R_T, "needSlots", "(I)V"⟩
def ws_T_needSlots : List Cond := .code y_T_needSlots c_T_needSlots 2 none :: WB_
abbrev c_T_needBytes : ByteArray := prog_1_method_31_code
def y_T_needBytes : MethodName := ⟨R_T, "needBytes", "(I)V"⟩
def ws_T_needBytes : List Cond := .code y_T_needBytes c_T_needBytes 2 none :: WB_
abbrev c_T_needIndex : ByteArray := prog_1_method_32_code
def y_T_needIndex : MethodName := ⟨R_T, "needIndex", "(II)V"⟩
def ws_T_needIndex : List Cond := .code y_T_needIndex c_T_needIndex 3 none :: WB_
abbrev c_T_needMade : ByteArray := prog_1_method_33_code
def y_T_needMade : MethodName := ⟨R_T, "needMade", "(I)V"⟩
def ws_T_needMade : List Cond := .code y_T_needMade c_T_needMade 1 none :: WB_
theorem wd_0 : (Jvm.Cond.selects "TabledStore$Memory" ({ cls := "TabledStore$Memory", name := "startRound", desc := "()V" } : Jvm.MethodName) ({ cls := "TabledStore$Memory", name := "startRound", desc := "()V" } : Jvm.MethodName)) ∈ WB_ := wb_mk (i := 0) (by decide +kernel) (by decide +kernel)
theorem wd_1 : (Jvm.Cond.selects "TabledStore$Memory" ({ cls := "TabledStore$Memory", name := "reach", desc := "(I)V" } : Jvm.MethodName) ({ cls := "TabledStore$Memory", name := "reach", desc := "(I)V" } : Jvm.MethodName)) ∈ WB_ := wb_mk (i := 1) (by decide +kernel) (by decide +kernel)
theorem wd_2 : (Jvm.Cond.selects "TabledStore$Memory" ({ cls := "TabledStore$Memory", name := "isReached", desc := "(I)Z" } : Jvm.MethodName) ({ cls := "TabledStore$Memory", name := "isReached", desc := "(I)Z" } : Jvm.MethodName)) ∈ WB_ := wb_mk (i := 2) (by decide +kernel) (by decide +kernel)
theorem wd_3 : (Jvm.Cond.selects "TabledStore$Memory" ({ cls := "TabledStore$Memory", name := "spread", desc := "()V" } : Jvm.MethodName) ({ cls := "TabledStore$Memory", name := "spread", desc := "()V" } : Jvm.MethodName)) ∈ WB_ := wb_mk (i := 3) (by decide +kernel) (by decide +kernel)
theorem wd_4 : (Jvm.Cond.selects "TabledStore$Memory" ({ cls := "TabledStore$Memory", name := "endOfSlots", desc := "(I)I" } : Jvm.MethodName) ({ cls := "TabledStore$Memory", name := "endOfSlots", desc := "(I)I" } : Jvm.MethodName)) ∈ WB_ := wb_mk (i := 4) (by decide +kernel) (by decide +kernel)
theorem wd_5 : (Jvm.Cond.selects "TabledStore$Memory" ({ cls := "TabledStore$Memory", name := "slide", desc := "()V" } : Jvm.MethodName) ({ cls := "TabledStore$Memory", name := "slide", desc := "()V" } : Jvm.MethodName)) ∈ WB_ := wb_mk (i := 5) (by decide +kernel) (by decide +kernel)
theorem wd_6 : (Jvm.Cond.selects "TabledStore$Memory" ({ cls := "TabledStore$Memory", name := "bodyWordsAt", desc := "(I)I" } : Jvm.MethodName) ({ cls := "TabledStore$Memory", name := "bodyWordsAt", desc := "(I)I" } : Jvm.MethodName)) ∈ WB_ := wb_mk (i := 6) (by decide +kernel) (by decide +kernel)
theorem wd_8 : (Jvm.Cond.selects "TabledStore" ({ cls := "TabledStore", name := "setRegister", desc := "(II)V" } : Jvm.MethodName) ({ cls := "TabledStore", name := "setRegister", desc := "(II)V" } : Jvm.MethodName)) ∈ WB_ := wb_mk (i := 8) (by decide +kernel) (by decide +kernel)
theorem wd_9 : (Jvm.Cond.selects "TabledStore$Memory" ({ cls := "TabledStore$Memory", name := "fits", desc := "(I)Z" } : Jvm.MethodName) ({ cls := "TabledStore$Memory", name := "fits", desc := "(I)Z" } : Jvm.MethodName)) ∈ WB_ := wb_mk (i := 9) (by decide +kernel) (by decide +kernel)
theorem wd_10 : (Jvm.Cond.selects "TabledStore$Memory" ({ cls := "TabledStore$Memory", name := "place", desc := "(I)I" } : Jvm.MethodName) ({ cls := "TabledStore$Memory", name := "place", desc := "(I)I" } : Jvm.MethodName)) ∈ WB_ := wb_mk (i := 10) (by decide +kernel) (by decide +kernel)
theorem wd_11 : (Jvm.Cond.selects "TabledStore" ({ cls := "TabledStore", name := "needObject", desc := "(I)V" } : Jvm.MethodName) ({ cls := "TabledStore", name := "needObject", desc := "(I)V" } : Jvm.MethodName)) ∈ WB_ := wb_mk (i := 11) (by decide +kernel) (by decide +kernel)
theorem wd_12 : (Jvm.Cond.selects "TabledStore$Memory" ({ cls := "TabledStore$Memory", name := "overwrite", desc := "(II)V" } : Jvm.MethodName) ({ cls := "TabledStore$Memory", name := "overwrite", desc := "(II)V" } : Jvm.MethodName)) ∈ WB_ := wb_mk (i := 12) (by decide +kernel) (by decide +kernel)
theorem wd_13 : (Jvm.Cond.selects "TabledStore" ({ cls := "TabledStore", name := "needSlots", desc := "(I)V" } : Jvm.MethodName) ({ cls := "TabledStore", name := "needSlots", desc := "(I)V" } : Jvm.MethodName)) ∈ WB_ := wb_mk (i := 13) (by decide +kernel) (by decide +kernel)
theorem wd_14 : (Jvm.Cond.selects "TabledStore" ({ cls := "TabledStore", name := "needIndex", desc := "(II)V" } : Jvm.MethodName) ({ cls := "TabledStore", name := "needIndex", desc := "(II)V" } : Jvm.MethodName)) ∈ WB_ := wb_mk (i := 14) (by decide +kernel) (by decide +kernel)
theorem wd_15 : (Jvm.Cond.selects "TabledStore" ({ cls := "TabledStore", name := "needBytes", desc := "(I)V" } : Jvm.MethodName) ({ cls := "TabledStore", name := "needBytes", desc := "(I)V" } : Jvm.MethodName)) ∈ WB_ := wb_mk (i := 15) (by decide +kernel) (by decide +kernel)
theorem wd_16 : (Jvm.Cond.selects "TabledStore$Memory" ({ cls := "TabledStore$Memory", name := "seat", desc := "(II)V" } : Jvm.MethodName) ({ cls := "TabledStore$Memory", name := "seat", desc := "(II)V" } : Jvm.MethodName)) ∈ WB_ := wb_mk (i := 16) (by decide +kernel) (by decide +kernel)
theorem wd_33 : (Jvm.Cond.initialized "TabledStore") ∈ WB_ := wb_mk (i := 33) (by decide +kernel) (by decide +kernel)
theorem wd_34 : (Jvm.Cond.initialized "TabledStore$Memory") ∈ WB_ := wb_mk (i := 34) (by decide +kernel) (by decide +kernel)
theorem wd_39 : (Jvm.Cond.initialized "java/lang/IllegalArgumentException") ∈ WB_ := wb_mk (i := 39) (by decide +kernel) (by decide +kernel)
theorem wd_40 : (Jvm.Cond.initialized "TabledStore$Value") ∈ WB_ := wb_mk (i := 40) (by decide +kernel) (by decide +kernel)
theorem wd_41 : (Jvm.Cond.initialized "java/lang/System") ∈ WB_ := wb_mk (i := 41) (by decide +kernel) (by decide +kernel)
theorem wd_42 : (Jvm.Cond.initialized "java/lang/UnsupportedOperationException") ∈ WB_ := wb_mk (i := 42) (by decide +kernel) (by decide +kernel)
theorem wd_43 : (Jvm.Cond.initialized "java/lang/IndexOutOfBoundsException") ∈ WB_ := wb_mk (i := 43) (by decide +kernel) (by decide +kernel)
theorem wd_44 : (Jvm.Cond.initialized "java/lang/Math") ∈ WB_ := wb_mk (i := 44) (by decide +kernel) (by decide +kernel)
theorem wd_56 : (Jvm.Cond.methodLink "TabledStore" (16 : Nat) ({ cls := "TabledStore", name := "isBetween", desc := "(III)Z" } : Jvm.MethodName)) ∈ WB_ := wb_mk (i := 56) (by decide +kernel) (by decide +kernel)
theorem wd_57 : (Jvm.Cond.static ({ cls := "TabledStore", name := "isBetween", desc := "(III)Z" } : Jvm.MethodName)) ∈ WB_ := wb_mk (i := 57) (by decide +kernel) (by decide +kernel)
theorem wd_58 : (Jvm.Cond.code ({ cls := "TabledStore", name := "isBetween", desc := "(III)Z" } : Jvm.MethodName) prog_1_method_26_code (3 : Nat) (Option.some Jvm.ClassFile.FieldType.boolean)) ∈ WB_ := wb_mk (i := 58) (by decide +kernel) (by decide +kernel)
theorem wd_63 : (Jvm.Cond.fieldLink "TabledStore$Memory" (7 : Nat) "TabledStore$Memory" "row" "[I") ∈ WB_ := wb_mk (i := 63) (by decide +kernel) (by decide +kernel)
theorem wd_64 : (Jvm.Cond.fieldLink "TabledStore$Memory" (60 : Nat) "TabledStore$Memory" "used" "I") ∈ WB_ := wb_mk (i := 64) (by decide +kernel) (by decide +kernel)
theorem wd_65 : (Jvm.Cond.fieldLink "TabledStore$Memory" (13 : Nat) "TabledStore$Memory" "places" "[I") ∈ WB_ := wb_mk (i := 65) (by decide +kernel) (by decide +kernel)
theorem wd_66 : (Jvm.Cond.fieldLink "TabledStore$Memory" (16 : Nat) "TabledStore$Memory" "spare" "[I") ∈ WB_ := wb_mk (i := 66) (by decide +kernel) (by decide +kernel)
theorem wd_67 : (Jvm.Cond.fieldLink "TabledStore$Memory" (25 : Nat) "TabledStore$Memory" "spareCount" "I") ∈ WB_ := wb_mk (i := 67) (by decide +kernel) (by decide +kernel)
theorem wd_68 : (Jvm.Cond.fieldLink "TabledStore$Memory" (73 : Nat) "TabledStore$Memory" "lastIdentity" "I") ∈ WB_ := wb_mk (i := 68) (by decide +kernel) (by decide +kernel)
theorem wd_69 : (Jvm.Cond.fieldLink "TabledStore$Memory" (19 : Nat) "TabledStore$Memory" "reached" "[I") ∈ WB_ := wb_mk (i := 69) (by decide +kernel) (by decide +kernel)
theorem wd_70 : (Jvm.Cond.fieldLink "TabledStore$Memory" (117 : Nat) "TabledStore$Memory" "reachedCount" "I") ∈ WB_ := wb_mk (i := 70) (by decide +kernel) (by decide +kernel)
theorem wd_71 : (Jvm.Cond.fieldLink "TabledStore$Memory" (22 : Nat) "TabledStore$Memory" "roundOf" "[I") ∈ WB_ := wb_mk (i := 71) (by decide +kernel) (by decide +kernel)
theorem wd_72 : (Jvm.Cond.fieldLink "TabledStore$Memory" (114 : Nat) "TabledStore$Memory" "round" "I") ∈ WB_ := wb_mk (i := 72) (by decide +kernel) (by decide +kernel)
theorem wd_73 : (Jvm.Cond.fieldLink "TabledStore$Memory" (29 : Nat) "TabledStore$Memory" "settled" "Z") ∈ WB_ := wb_mk (i := 73) (by decide +kernel) (by decide +kernel)
theorem wd_98 : (Jvm.Cond.fieldLink "TabledStore" (9 : Nat) "TabledStore" "registers" "[I") ∈ WB_ := wb_mk (i := 98) (by decide +kernel) (by decide +kernel)
theorem wd_99 : (Jvm.Cond.fieldLink "TabledStore" (23 : Nat) "TabledStore" "memory" "LTabledStore$Memory;") ∈ WB_ := wb_mk (i := 99) (by decide +kernel) (by decide +kernel)
theorem wd_109 : (Jvm.Cond.methodLink "TabledStore" (119 : Nat) ({ cls := "TabledStore$Memory", name := "settle", desc := "([I)V" } : Jvm.MethodName)) ∈ WB_ := wb_mk (i := 109) (by decide +kernel) (by decide +kernel)
theorem wd_110 : (Jvm.Cond.instanceMethod ({ cls := "TabledStore$Memory", name := "settle", desc := "([I)V" } : Jvm.MethodName)) ∈ WB_ := wb_mk (i := 110) (by decide +kernel) (by decide +kernel)
theorem wd_111 : (Jvm.Cond.selects "TabledStore$Memory" ({ cls := "TabledStore$Memory", name := "settle", desc := "([I)V" } : Jvm.MethodName) ({ cls := "TabledStore$Memory", name := "settle", desc := "([I)V" } : Jvm.MethodName)) ∈ WB_ := wb_mk (i := 111) (by decide +kernel) (by decide +kernel)
theorem wd_112 : (Jvm.Cond.code ({ cls := "TabledStore$Memory", name := "settle", desc := "([I)V" } : Jvm.MethodName) prog_2_method_26_code (6 : Nat) (Option.none : Option Jvm.ClassFile.FieldType)) ∈ WB_ := wb_mk (i := 112) (by decide +kernel) (by decide +kernel)
theorem wd_113 : (Jvm.Cond.methodLink "TabledStore$Memory" (99 : Nat) ({ cls := "TabledStore$Memory", name := "startRound", desc := "()V" } : Jvm.MethodName)) ∈ WB_ := wb_mk (i := 113) (by decide +kernel) (by decide +kernel)
theorem wd_115 : (Jvm.Cond.instanceMethod ({ cls := "TabledStore$Memory", name := "startRound", desc := "()V" } : Jvm.MethodName)) ∈ WB_ := wb_mk (i := 115) (by decide +kernel) (by decide +kernel)
theorem wd_116 : (Jvm.Cond.code ({ cls := "TabledStore$Memory", name := "startRound", desc := "()V" } : Jvm.MethodName) prog_2_method_28_code (1 : Nat) (Option.none : Option Jvm.ClassFile.FieldType)) ∈ WB_ := wb_mk (i := 116) (by decide +kernel) (by decide +kernel)
theorem wd_117 : (Jvm.Cond.methodLink "TabledStore$Memory" (102 : Nat) ({ cls := "TabledStore$Memory", name := "reach", desc := "(I)V" } : Jvm.MethodName)) ∈ WB_ := wb_mk (i := 117) (by decide +kernel) (by decide +kernel)
theorem wd_119 : (Jvm.Cond.instanceMethod ({ cls := "TabledStore$Memory", name := "reach", desc := "(I)V" } : Jvm.MethodName)) ∈ WB_ := wb_mk (i := 119) (by decide +kernel) (by decide +kernel)
theorem wd_120 : (Jvm.Cond.code ({ cls := "TabledStore$Memory", name := "reach", desc := "(I)V" } : Jvm.MethodName) prog_2_method_30_code (3 : Nat) (Option.none : Option Jvm.ClassFile.FieldType)) ∈ WB_ := wb_mk (i := 120) (by decide +kernel) (by decide +kernel)
theorem wd_121 : (Jvm.Cond.methodLink "TabledStore$Memory" (43 : Nat) ({ cls := "TabledStore$Value", name := "isObject", desc := "(I)Z" } : Jvm.MethodName)) ∈ WB_ := wb_mk (i := 121) (by decide +kernel) (by decide +kernel)
theorem wd_122 : (Jvm.Cond.static ({ cls := "TabledStore$Value", name := "isObject", desc := "(I)Z" } : Jvm.MethodName)) ∈ WB_ := wb_mk (i := 122) (by decide +kernel) (by decide +kernel)
theorem wd_123 : (Jvm.Cond.code ({ cls := "TabledStore$Value", name := "isObject", desc := "(I)Z" } : Jvm.MethodName) prog_3_method_5_code (1 : Nat) (Option.some Jvm.ClassFile.FieldType.boolean)) ∈ WB_ := wb_mk (i := 123) (by decide +kernel) (by decide +kernel)
theorem wd_124 : (Jvm.Cond.methodLink "TabledStore$Value" (7 : Nat) ({ cls := "TabledStore$Value", name := "isNumber", desc := "(I)Z" } : Jvm.MethodName)) ∈ WB_ := wb_mk (i := 124) (by decide +kernel) (by decide +kernel)
theorem wd_125 : (Jvm.Cond.static ({ cls := "TabledStore$Value", name := "isNumber", desc := "(I)Z" } : Jvm.MethodName)) ∈ WB_ := wb_mk (i := 125) (by decide +kernel) (by decide +kernel)
theorem wd_126 : (Jvm.Cond.code ({ cls := "TabledStore$Value", name := "isNumber", desc := "(I)Z" } : Jvm.MethodName) prog_3_method_4_code (1 : Nat) (Option.some Jvm.ClassFile.FieldType.boolean)) ∈ WB_ := wb_mk (i := 126) (by decide +kernel) (by decide +kernel)
theorem wd_127 : (Jvm.Cond.methodLink "TabledStore$Memory" (37 : Nat) ({ cls := "TabledStore$Value", name := "toEntry", desc := "(I)I" } : Jvm.MethodName)) ∈ WB_ := wb_mk (i := 127) (by decide +kernel) (by decide +kernel)
theorem wd_128 : (Jvm.Cond.static ({ cls := "TabledStore$Value", name := "toEntry", desc := "(I)I" } : Jvm.MethodName)) ∈ WB_ := wb_mk (i := 128) (by decide +kernel) (by decide +kernel)
theorem wd_129 : (Jvm.Cond.code ({ cls := "TabledStore$Value", name := "toEntry", desc := "(I)I" } : Jvm.MethodName) prog_3_method_7_code (1 : Nat) (Option.some Jvm.ClassFile.FieldType.int)) ∈ WB_ := wb_mk (i := 129) (by decide +kernel) (by decide +kernel)
theorem wd_130 : (Jvm.Cond.methodLink "TabledStore$Memory" (111 : Nat) ({ cls := "TabledStore$Memory", name := "isReached", desc := "(I)Z" } : Jvm.MethodName)) ∈ WB_ := wb_mk (i := 130) (by decide +kernel) (by decide +kernel)
theorem wd_132 : (Jvm.Cond.instanceMethod ({ cls := "TabledStore$Memory", name := "isReached", desc := "(I)Z" } : Jvm.MethodName)) ∈ WB_ := wb_mk (i := 132) (by decide +kernel) (by decide +kernel)
theorem wd_133 : (Jvm.Cond.code ({ cls := "TabledStore$Memory", name := "isReached", desc := "(I)Z" } : Jvm.MethodName) prog_2_method_29_code (2 : Nat) (Option.some Jvm.ClassFile.FieldType.boolean)) ∈ WB_ := wb_mk (i := 133) (by decide +kernel) (by decide +kernel)
theorem wd_134 : (Jvm.Cond.methodLink "TabledStore$Memory" (105 : Nat) ({ cls := "TabledStore$Memory", name := "spread", desc := "()V" } : Jvm.MethodName)) ∈ WB_ := wb_mk (i := 134) (by decide +kernel) (by decide +kernel)
theorem wd_136 : (Jvm.Cond.instanceMethod ({ cls := "TabledStore$Memory", name := "spread", desc := "()V" } : Jvm.MethodName)) ∈ WB_ := wb_mk (i := 136) (by decide +kernel) (by decide +kernel)
theorem wd_137 : (Jvm.Cond.code ({ cls := "TabledStore$Memory", name := "spread", desc := "()V" } : Jvm.MethodName) prog_2_method_31_code (5 : Nat) (Option.none : Option Jvm.ClassFile.FieldType)) ∈ WB_ := wb_mk (i := 137) (by decide +kernel) (by decide +kernel)
theorem wd_138 : (Jvm.Cond.methodLink "TabledStore$Memory" (120 : Nat) ({ cls := "TabledStore$Memory", name := "endOfSlots", desc := "(I)I" } : Jvm.MethodName)) ∈ WB_ := wb_mk (i := 138) (by decide +kernel) (by decide +kernel)
theorem wd_140 : (Jvm.Cond.instanceMethod ({ cls := "TabledStore$Memory", name := "endOfSlots", desc := "(I)I" } : Jvm.MethodName)) ∈ WB_ := wb_mk (i := 140) (by decide +kernel) (by decide +kernel)
theorem wd_141 : (Jvm.Cond.code ({ cls := "TabledStore$Memory", name := "endOfSlots", desc := "(I)I" } : Jvm.MethodName) prog_2_method_32_code (3 : Nat) (Option.some Jvm.ClassFile.FieldType.int)) ∈ WB_ := wb_mk (i := 141) (by decide +kernel) (by decide +kernel)
theorem wd_142 : (Jvm.Cond.methodLink "TabledStore$Memory" (33 : Nat) ({ cls := "TabledStore$Memory", name := "isOfBytes", desc := "(I)Z" } : Jvm.MethodName)) ∈ WB_ := wb_mk (i := 142) (by decide +kernel) (by decide +kernel)
theorem wd_143 : (Jvm.Cond.static ({ cls := "TabledStore$Memory", name := "isOfBytes", desc := "(I)Z" } : Jvm.MethodName)) ∈ WB_ := wb_mk (i := 143) (by decide +kernel) (by decide +kernel)
theorem wd_144 : (Jvm.Cond.code ({ cls := "TabledStore$Memory", name := "isOfBytes", desc := "(I)Z" } : Jvm.MethodName) prog_2_method_3_code (1 : Nat) (Option.some Jvm.ClassFile.FieldType.boolean)) ∈ WB_ := wb_mk (i := 144) (by decide +kernel) (by decide +kernel)
theorem wd_145 : (Jvm.Cond.methodLink "TabledStore$Memory" (63 : Nat) ({ cls := "TabledStore$Memory", name := "bodyWords", desc := "(I)I" } : Jvm.MethodName)) ∈ WB_ := wb_mk (i := 145) (by decide +kernel) (by decide +kernel)
theorem wd_146 : (Jvm.Cond.static ({ cls := "TabledStore$Memory", name := "bodyWords", desc := "(I)I" } : Jvm.MethodName)) ∈ WB_ := wb_mk (i := 146) (by decide +kernel) (by decide +kernel)
theorem wd_147 : (Jvm.Cond.code ({ cls := "TabledStore$Memory", name := "bodyWords", desc := "(I)I" } : Jvm.MethodName) prog_2_method_4_code (2 : Nat) (Option.some Jvm.ClassFile.FieldType.int)) ∈ WB_ := wb_mk (i := 147) (by decide +kernel) (by decide +kernel)
theorem wd_148 : (Jvm.Cond.methodLink "TabledStore$Memory" (108 : Nat) ({ cls := "TabledStore$Memory", name := "slide", desc := "()V" } : Jvm.MethodName)) ∈ WB_ := wb_mk (i := 148) (by decide +kernel) (by decide +kernel)
theorem wd_150 : (Jvm.Cond.instanceMethod ({ cls := "TabledStore$Memory", name := "slide", desc := "()V" } : Jvm.MethodName)) ∈ WB_ := wb_mk (i := 150) (by decide +kernel) (by decide +kernel)
theorem wd_151 : (Jvm.Cond.code ({ cls := "TabledStore$Memory", name := "slide", desc := "()V" } : Jvm.MethodName) prog_2_method_34_code (5 : Nat) (Option.none : Option Jvm.ClassFile.FieldType)) ∈ WB_ := wb_mk (i := 151) (by decide +kernel) (by decide +kernel)
theorem wd_152 : (Jvm.Cond.methodLink "TabledStore$Memory" (123 : Nat) ({ cls := "TabledStore$Memory", name := "bodyWordsAt", desc := "(I)I" } : Jvm.MethodName)) ∈ WB_ := wb_mk (i := 152) (by decide +kernel) (by decide +kernel)
theorem wd_154 : (Jvm.Cond.instanceMethod ({ cls := "TabledStore$Memory", name := "bodyWordsAt", desc := "(I)I" } : Jvm.MethodName)) ∈ WB_ := wb_mk (i := 154) (by decide +kernel) (by decide +kernel)
theorem wd_155 : (Jvm.Cond.code ({ cls := "TabledStore$Memory", name := "bodyWordsAt", desc := "(I)I" } : Jvm.MethodName) prog_2_method_33_code (2 : Nat) (Option.some Jvm.ClassFile.FieldType.int)) ∈ WB_ := wb_mk (i := 155) (by decide +kernel) (by decide +kernel)
theorem wd_156 : (Jvm.Cond.methodLink "TabledStore$Memory" (86 : Nat) ({ cls := "java/lang/System", name := "arraycopy", desc := "(Ljava/lang/Object;ILjava/lang/Object;II)V" } : Jvm.MethodName)) ∈ WB_ := wb_mk (i := 156) (by decide +kernel) (by decide +kernel)
theorem wd_157 : (Jvm.Cond.static ({ cls := "java/lang/System", name := "arraycopy", desc := "(Ljava/lang/Object;ILjava/lang/Object;II)V" } : Jvm.MethodName)) ∈ WB_ := wb_mk (i := 157) (by decide +kernel) (by decide +kernel)
theorem wd_158 : (Jvm.Cond.native ({ cls := "java/lang/System", name := "arraycopy", desc := "(Ljava/lang/Object;ILjava/lang/Object;II)V" } : Jvm.MethodName)) ∈ WB_ := wb_mk (i := 158) (by decide +kernel) (by decide +kernel)
theorem wd_159 : (Jvm.Cond.methodLink "TabledStore" (123 : Nat) ({ cls := "TabledStore$Memory", name := "freeWords", desc := "()I" } : Jvm.MethodName)) ∈ WB_ := wb_mk (i := 159) (by decide +kernel) (by decide +kernel)
theorem wd_160 : (Jvm.Cond.instanceMethod ({ cls := "TabledStore$Memory", name := "freeWords", desc := "()I" } : Jvm.MethodName)) ∈ WB_ := wb_mk (i := 160) (by decide +kernel) (by decide +kernel)
theorem wd_161 : (Jvm.Cond.selects "TabledStore$Memory" ({ cls := "TabledStore$Memory", name := "freeWords", desc := "()I" } : Jvm.MethodName) ({ cls := "TabledStore$Memory", name := "freeWords", desc := "()I" } : Jvm.MethodName)) ∈ WB_ := wb_mk (i := 161) (by decide +kernel) (by decide +kernel)
theorem wd_162 : (Jvm.Cond.code ({ cls := "TabledStore$Memory", name := "freeWords", desc := "()I" } : Jvm.MethodName) prog_2_method_19_code (1 : Nat) (Option.some Jvm.ClassFile.FieldType.int)) ∈ WB_ := wb_mk (i := 162) (by decide +kernel) (by decide +kernel)
theorem wd_167 : (Jvm.Cond.methodLink "TabledStore" (127 : Nat) ({ cls := "TabledStore$Memory", name := "freeEntries", desc := "()I" } : Jvm.MethodName)) ∈ WB_ := wb_mk (i := 167) (by decide +kernel) (by decide +kernel)
theorem wd_168 : (Jvm.Cond.instanceMethod ({ cls := "TabledStore$Memory", name := "freeEntries", desc := "()I" } : Jvm.MethodName)) ∈ WB_ := wb_mk (i := 168) (by decide +kernel) (by decide +kernel)
theorem wd_169 : (Jvm.Cond.selects "TabledStore$Memory" ({ cls := "TabledStore$Memory", name := "freeEntries", desc := "()I" } : Jvm.MethodName) ({ cls := "TabledStore$Memory", name := "freeEntries", desc := "()I" } : Jvm.MethodName)) ∈ WB_ := wb_mk (i := 169) (by decide +kernel) (by decide +kernel)
theorem wd_170 : (Jvm.Cond.code ({ cls := "TabledStore$Memory", name := "freeEntries", desc := "()I" } : Jvm.MethodName) prog_2_method_20_code (1 : Nat) (Option.some Jvm.ClassFile.FieldType.int)) ∈ WB_ := wb_mk (i := 170) (by decide +kernel) (by decide +kernel)
theorem wd_182 : (Jvm.Cond.methodLink "TabledStore" (27 : Nat) ({ cls := "TabledStore", name := "needRegister", desc := "(I)V" } : Jvm.MethodName)) ∈ WB_ := wb_mk (i := 182) (by decide +kernel) (by decide +kernel)
theorem wd_183 : (Jvm.Cond.static ({ cls := "TabledStore", name := "needRegister", desc := "(I)V" } : Jvm.MethodName)) ∈ WB_ := wb_mk (i := 183) (by decide +kernel) (by decide +kernel)
theorem wd_184 : (Jvm.Cond.code ({ cls := "TabledStore", name := "needRegister", desc := "(I)V" } : Jvm.MethodName) prog_1_method_28_code (1 : Nat) (Option.none : Option Jvm.ClassFile.FieldType)) ∈ WB_ := wb_mk (i := 184) (by decide +kernel) (by decide +kernel)
theorem wd_185 : (Jvm.Cond.classLink "TabledStore" (149 : Nat) "java/lang/IllegalArgumentException") ∈ WB_ := wb_mk (i := 185) (by decide +kernel) (by decide +kernel)
theorem wd_253 : (Jvm.Cond.constant "TabledStore" (31 : Nat) (-1073741824 : Int32)) ∈ WB_ := wb_mk (i := 253) (by decide +kernel) (by decide +kernel)
theorem wd_254 : (Jvm.Cond.constant "TabledStore" (32 : Nat) (1073741823 : Int32)) ∈ WB_ := wb_mk (i := 254) (by decide +kernel) (by decide +kernel)
theorem wd_255 : (Jvm.Cond.methodLink "TabledStore" (33 : Nat) ({ cls := "TabledStore", name := "needBetween", desc := "(III)V" } : Jvm.MethodName)) ∈ WB_ := wb_mk (i := 255) (by decide +kernel) (by decide +kernel)
theorem wd_256 : (Jvm.Cond.static ({ cls := "TabledStore", name := "needBetween", desc := "(III)V" } : Jvm.MethodName)) ∈ WB_ := wb_mk (i := 256) (by decide +kernel) (by decide +kernel)
theorem wd_257 : (Jvm.Cond.code ({ cls := "TabledStore", name := "needBetween", desc := "(III)V" } : Jvm.MethodName) prog_1_method_27_code (3 : Nat) (Option.none : Option Jvm.ClassFile.FieldType)) ∈ WB_ := wb_mk (i := 257) (by decide +kernel) (by decide +kernel)
theorem wd_259 : (Jvm.Cond.methodLink "TabledStore" (37 : Nat) ({ cls := "TabledStore$Value", name := "ofNumber", desc := "(I)I" } : Jvm.MethodName)) ∈ WB_ := wb_mk (i := 259) (by decide +kernel) (by decide +kernel)
theorem wd_260 : (Jvm.Cond.static ({ cls := "TabledStore$Value", name := "ofNumber", desc := "(I)I" } : Jvm.MethodName)) ∈ WB_ := wb_mk (i := 260) (by decide +kernel) (by decide +kernel)
theorem wd_261 : (Jvm.Cond.code ({ cls := "TabledStore$Value", name := "ofNumber", desc := "(I)I" } : Jvm.MethodName) prog_3_method_2_code (1 : Nat) (Option.some Jvm.ClassFile.FieldType.int)) ∈ WB_ := wb_mk (i := 261) (by decide +kernel) (by decide +kernel)
theorem wd_262 : (Jvm.Cond.methodLink "TabledStore" (43 : Nat) ({ cls := "TabledStore", name := "setRegister", desc := "(II)V" } : Jvm.MethodName)) ∈ WB_ := wb_mk (i := 262) (by decide +kernel) (by decide +kernel)
theorem wd_264 : (Jvm.Cond.instanceMethod ({ cls := "TabledStore", name := "setRegister", desc := "(II)V" } : Jvm.MethodName)) ∈ WB_ := wb_mk (i := 264) (by decide +kernel) (by decide +kernel)
theorem wd_265 : (Jvm.Cond.code ({ cls := "TabledStore", name := "setRegister", desc := "(II)V" } : Jvm.MethodName) prog_1_method_25_code (3 : Nat) (Option.none : Option Jvm.ClassFile.FieldType)) ∈ WB_ := wb_mk (i := 265) (by decide +kernel) (by decide +kernel)
theorem wd_266 : (Jvm.Cond.methodLink "TabledStore" (146 : Nat) ({ cls := "TabledStore$Memory", name := "letGo", desc := "(I)V" } : Jvm.MethodName)) ∈ WB_ := wb_mk (i := 266) (by decide +kernel) (by decide +kernel)
theorem wd_267 : (Jvm.Cond.instanceMethod ({ cls := "TabledStore$Memory", name := "letGo", desc := "(I)V" } : Jvm.MethodName)) ∈ WB_ := wb_mk (i := 267) (by decide +kernel) (by decide +kernel)
theorem wd_268 : (Jvm.Cond.selects "TabledStore$Memory" ({ cls := "TabledStore$Memory", name := "letGo", desc := "(I)V" } : Jvm.MethodName) ({ cls := "TabledStore$Memory", name := "letGo", desc := "(I)V" } : Jvm.MethodName)) ∈ WB_ := wb_mk (i := 268) (by decide +kernel) (by decide +kernel)
theorem wd_269 : (Jvm.Cond.code ({ cls := "TabledStore$Memory", name := "letGo", desc := "(I)V" } : Jvm.MethodName) prog_2_method_18_code (2 : Nat) (Option.none : Option Jvm.ClassFile.FieldType)) ∈ WB_ := wb_mk (i := 269) (by decide +kernel) (by decide +kernel)
theorem wd_292 : (Jvm.Cond.methodLink "TabledStore" (46 : Nat) ({ cls := "TabledStore$Memory", name := "shape", desc := "(IZ)I" } : Jvm.MethodName)) ∈ WB_ := wb_mk (i := 292) (by decide +kernel) (by decide +kernel)
theorem wd_293 : (Jvm.Cond.static ({ cls := "TabledStore$Memory", name := "shape", desc := "(IZ)I" } : Jvm.MethodName)) ∈ WB_ := wb_mk (i := 293) (by decide +kernel) (by decide +kernel)
theorem wd_294 : (Jvm.Cond.code ({ cls := "TabledStore$Memory", name := "shape", desc := "(IZ)I" } : Jvm.MethodName) prog_2_method_2_code (2 : Nat) (Option.some Jvm.ClassFile.FieldType.int)) ∈ WB_ := wb_mk (i := 294) (by decide +kernel) (by decide +kernel)
theorem wd_295 : (Jvm.Cond.methodLink "TabledStore" (50 : Nat) ({ cls := "TabledStore$Memory", name := "build", desc := "(II[I)I" } : Jvm.MethodName)) ∈ WB_ := wb_mk (i := 295) (by decide +kernel) (by decide +kernel)
theorem wd_296 : (Jvm.Cond.instanceMethod ({ cls := "TabledStore$Memory", name := "build", desc := "(II[I)I" } : Jvm.MethodName)) ∈ WB_ := wb_mk (i := 296) (by decide +kernel) (by decide +kernel)
theorem wd_297 : (Jvm.Cond.selects "TabledStore$Memory" ({ cls := "TabledStore$Memory", name := "build", desc := "(II[I)I" } : Jvm.MethodName) ({ cls := "TabledStore$Memory", name := "build", desc := "(II[I)I" } : Jvm.MethodName)) ∈ WB_ := wb_mk (i := 297) (by decide +kernel) (by decide +kernel)
theorem wd_298 : (Jvm.Cond.code ({ cls := "TabledStore$Memory", name := "build", desc := "(II[I)I" } : Jvm.MethodName) prog_2_method_21_code (8 : Nat) (Option.some Jvm.ClassFile.FieldType.int)) ∈ WB_ := wb_mk (i := 298) (by decide +kernel) (by decide +kernel)
theorem wd_299 : (Jvm.Cond.methodLink "TabledStore$Memory" (66 : Nat) ({ cls := "TabledStore$Memory", name := "fits", desc := "(I)Z" } : Jvm.MethodName)) ∈ WB_ := wb_mk (i := 299) (by decide +kernel) (by decide +kernel)
theorem wd_301 : (Jvm.Cond.instanceMethod ({ cls := "TabledStore$Memory", name := "fits", desc := "(I)Z" } : Jvm.MethodName)) ∈ WB_ := wb_mk (i := 301) (by decide +kernel) (by decide +kernel)
theorem wd_302 : (Jvm.Cond.code ({ cls := "TabledStore$Memory", name := "fits", desc := "(I)Z" } : Jvm.MethodName) prog_2_method_23_code (2 : Nat) (Option.some Jvm.ClassFile.FieldType.boolean)) ∈ WB_ := wb_mk (i := 302) (by decide +kernel) (by decide +kernel)
theorem wd_303 : (Jvm.Cond.methodLink "TabledStore$Memory" (92 : Nat) ({ cls := "TabledStore$Memory", name := "freeWords", desc := "()I" } : Jvm.MethodName)) ∈ WB_ := wb_mk (i := 303) (by decide +kernel) (by decide +kernel)
theorem wd_304 : (Jvm.Cond.methodLink "TabledStore$Memory" (69 : Nat) ({ cls := "TabledStore$Memory", name := "settle", desc := "([I)V" } : Jvm.MethodName)) ∈ WB_ := wb_mk (i := 304) (by decide +kernel) (by decide +kernel)
theorem wd_305 : (Jvm.Cond.methodLink "TabledStore$Memory" (76 : Nat) ({ cls := "TabledStore$Value", name := "ofEntry", desc := "(I)I" } : Jvm.MethodName)) ∈ WB_ := wb_mk (i := 305) (by decide +kernel) (by decide +kernel)
theorem wd_306 : (Jvm.Cond.static ({ cls := "TabledStore$Value", name := "ofEntry", desc := "(I)I" } : Jvm.MethodName)) ∈ WB_ := wb_mk (i := 306) (by decide +kernel) (by decide +kernel)
theorem wd_307 : (Jvm.Cond.code ({ cls := "TabledStore$Value", name := "ofEntry", desc := "(I)I" } : Jvm.MethodName) prog_3_method_3_code (1 : Nat) (Option.some Jvm.ClassFile.FieldType.int)) ∈ WB_ := wb_mk (i := 307) (by decide +kernel) (by decide +kernel)
theorem wd_308 : (Jvm.Cond.methodLink "TabledStore" (54 : Nat) ({ cls := "TabledStore", name := "needMade", desc := "(I)V" } : Jvm.MethodName)) ∈ WB_ := wb_mk (i := 308) (by decide +kernel) (by decide +kernel)
theorem wd_309 : (Jvm.Cond.static ({ cls := "TabledStore", name := "needMade", desc := "(I)V" } : Jvm.MethodName)) ∈ WB_ := wb_mk (i := 309) (by decide +kernel) (by decide +kernel)
theorem wd_310 : (Jvm.Cond.code ({ cls := "TabledStore", name := "needMade", desc := "(I)V" } : Jvm.MethodName) prog_1_method_33_code (1 : Nat) (Option.none : Option Jvm.ClassFile.FieldType)) ∈ WB_ := wb_mk (i := 310) (by decide +kernel) (by decide +kernel)
theorem wd_311 : (Jvm.Cond.classLink "TabledStore" (169 : Nat) "java/lang/UnsupportedOperationException") ∈ WB_ := wb_mk (i := 311) (by decide +kernel) (by decide +kernel)
theorem wd_327 : (Jvm.Cond.methodLink "TabledStore" (57 : Nat) ({ cls := "TabledStore$Memory", name := "identity", desc := "(I)I" } : Jvm.MethodName)) ∈ WB_ := wb_mk (i := 327) (by decide +kernel) (by decide +kernel)
theorem wd_328 : (Jvm.Cond.instanceMethod ({ cls := "TabledStore$Memory", name := "identity", desc := "(I)I" } : Jvm.MethodName)) ∈ WB_ := wb_mk (i := 328) (by decide +kernel) (by decide +kernel)
theorem wd_329 : (Jvm.Cond.selects "TabledStore$Memory" ({ cls := "TabledStore$Memory", name := "identity", desc := "(I)I" } : Jvm.MethodName) ({ cls := "TabledStore$Memory", name := "identity", desc := "(I)I" } : Jvm.MethodName)) ∈ WB_ := wb_mk (i := 329) (by decide +kernel) (by decide +kernel)
theorem wd_330 : (Jvm.Cond.code ({ cls := "TabledStore$Memory", name := "identity", desc := "(I)I" } : Jvm.MethodName) prog_2_method_9_code (2 : Nat) (Option.some Jvm.ClassFile.FieldType.int)) ∈ WB_ := wb_mk (i := 330) (by decide +kernel) (by decide +kernel)
theorem wd_331 : (Jvm.Cond.methodLink "TabledStore$Memory" (46 : Nat) ({ cls := "TabledStore$Memory", name := "place", desc := "(I)I" } : Jvm.MethodName)) ∈ WB_ := wb_mk (i := 331) (by decide +kernel) (by decide +kernel)
theorem wd_333 : (Jvm.Cond.instanceMethod ({ cls := "TabledStore$Memory", name := "place", desc := "(I)I" } : Jvm.MethodName)) ∈ WB_ := wb_mk (i := 333) (by decide +kernel) (by decide +kernel)
theorem wd_334 : (Jvm.Cond.code ({ cls := "TabledStore$Memory", name := "place", desc := "(I)I" } : Jvm.MethodName) prog_2_method_5_code (2 : Nat) (Option.some Jvm.ClassFile.FieldType.int)) ∈ WB_ := wb_mk (i := 334) (by decide +kernel) (by decide +kernel)
theorem wd_342 : (Jvm.Cond.methodLink "TabledStore" (60 : Nat) ({ cls := "TabledStore", name := "needObject", desc := "(I)V" } : Jvm.MethodName)) ∈ WB_ := wb_mk (i := 342) (by decide +kernel) (by decide +kernel)
theorem wd_344 : (Jvm.Cond.instanceMethod ({ cls := "TabledStore", name := "needObject", desc := "(I)V" } : Jvm.MethodName)) ∈ WB_ := wb_mk (i := 344) (by decide +kernel) (by decide +kernel)
theorem wd_345 : (Jvm.Cond.code ({ cls := "TabledStore", name := "needObject", desc := "(I)V" } : Jvm.MethodName) prog_1_method_29_code (2 : Nat) (Option.none : Option Jvm.ClassFile.FieldType)) ∈ WB_ := wb_mk (i := 345) (by decide +kernel) (by decide +kernel)
theorem wd_346 : (Jvm.Cond.methodLink "TabledStore" (113 : Nat) ({ cls := "TabledStore$Value", name := "isObject", desc := "(I)Z" } : Jvm.MethodName)) ∈ WB_ := wb_mk (i := 346) (by decide +kernel) (by decide +kernel)
theorem wd_348 : (Jvm.Cond.methodLink "TabledStore" (63 : Nat) ({ cls := "TabledStore$Memory", name := "buildLike", desc := "(I[I)I" } : Jvm.MethodName)) ∈ WB_ := wb_mk (i := 348) (by decide +kernel) (by decide +kernel)
theorem wd_349 : (Jvm.Cond.instanceMethod ({ cls := "TabledStore$Memory", name := "buildLike", desc := "(I[I)I" } : Jvm.MethodName)) ∈ WB_ := wb_mk (i := 349) (by decide +kernel) (by decide +kernel)
theorem wd_350 : (Jvm.Cond.selects "TabledStore$Memory" ({ cls := "TabledStore$Memory", name := "buildLike", desc := "(I[I)I" } : Jvm.MethodName) ({ cls := "TabledStore$Memory", name := "buildLike", desc := "(I[I)I" } : Jvm.MethodName)) ∈ WB_ := wb_mk (i := 350) (by decide +kernel) (by decide +kernel)
theorem wd_351 : (Jvm.Cond.code ({ cls := "TabledStore$Memory", name := "buildLike", desc := "(I[I)I" } : Jvm.MethodName) prog_2_method_22_code (5 : Nat) (Option.some Jvm.ClassFile.FieldType.int)) ∈ WB_ := wb_mk (i := 351) (by decide +kernel) (by decide +kernel)
theorem wd_352 : (Jvm.Cond.methodLink "TabledStore$Memory" (79 : Nat) ({ cls := "TabledStore$Memory", name := "itsClass", desc := "(I)I" } : Jvm.MethodName)) ∈ WB_ := wb_mk (i := 352) (by decide +kernel) (by decide +kernel)
theorem wd_353 : (Jvm.Cond.instanceMethod ({ cls := "TabledStore$Memory", name := "itsClass", desc := "(I)I" } : Jvm.MethodName)) ∈ WB_ := wb_mk (i := 353) (by decide +kernel) (by decide +kernel)
theorem wd_354 : (Jvm.Cond.selects "TabledStore$Memory" ({ cls := "TabledStore$Memory", name := "itsClass", desc := "(I)I" } : Jvm.MethodName) ({ cls := "TabledStore$Memory", name := "itsClass", desc := "(I)I" } : Jvm.MethodName)) ∈ WB_ := wb_mk (i := 354) (by decide +kernel) (by decide +kernel)
theorem wd_355 : (Jvm.Cond.code ({ cls := "TabledStore$Memory", name := "itsClass", desc := "(I)I" } : Jvm.MethodName) prog_2_method_10_code (2 : Nat) (Option.some Jvm.ClassFile.FieldType.int)) ∈ WB_ := wb_mk (i := 355) (by decide +kernel) (by decide +kernel)
theorem wd_356 : (Jvm.Cond.methodLink "TabledStore$Memory" (82 : Nat) ({ cls := "TabledStore$Memory", name := "build", desc := "(II[I)I" } : Jvm.MethodName)) ∈ WB_ := wb_mk (i := 356) (by decide +kernel) (by decide +kernel)
theorem wd_364 : (Jvm.Cond.methodLink "TabledStore" (67 : Nat) ({ cls := "TabledStore$Memory", name := "setSlot", desc := "(III)V" } : Jvm.MethodName)) ∈ WB_ := wb_mk (i := 364) (by decide +kernel) (by decide +kernel)
theorem wd_365 : (Jvm.Cond.instanceMethod ({ cls := "TabledStore$Memory", name := "setSlot", desc := "(III)V" } : Jvm.MethodName)) ∈ WB_ := wb_mk (i := 365) (by decide +kernel) (by decide +kernel)
theorem wd_366 : (Jvm.Cond.selects "TabledStore$Memory" ({ cls := "TabledStore$Memory", name := "setSlot", desc := "(III)V" } : Jvm.MethodName) ({ cls := "TabledStore$Memory", name := "setSlot", desc := "(III)V" } : Jvm.MethodName)) ∈ WB_ := wb_mk (i := 366) (by decide +kernel) (by decide +kernel)
theorem wd_367 : (Jvm.Cond.code ({ cls := "TabledStore$Memory", name := "setSlot", desc := "(III)V" } : Jvm.MethodName) prog_2_method_13_code (4 : Nat) (Option.none : Option Jvm.ClassFile.FieldType)) ∈ WB_ := wb_mk (i := 367) (by decide +kernel) (by decide +kernel)
theorem wd_368 : (Jvm.Cond.methodLink "TabledStore$Memory" (49 : Nat) ({ cls := "TabledStore$Memory", name := "overwrite", desc := "(II)V" } : Jvm.MethodName)) ∈ WB_ := wb_mk (i := 368) (by decide +kernel) (by decide +kernel)
theorem wd_370 : (Jvm.Cond.instanceMethod ({ cls := "TabledStore$Memory", name := "overwrite", desc := "(II)V" } : Jvm.MethodName)) ∈ WB_ := wb_mk (i := 370) (by decide +kernel) (by decide +kernel)
theorem wd_371 : (Jvm.Cond.code ({ cls := "TabledStore$Memory", name := "overwrite", desc := "(II)V" } : Jvm.MethodName) prog_2_method_17_code (3 : Nat) (Option.none : Option Jvm.ClassFile.FieldType)) ∈ WB_ := wb_mk (i := 371) (by decide +kernel) (by decide +kernel)
theorem wd_372 : (Jvm.Cond.methodLink "TabledStore$Memory" (56 : Nat) ({ cls := "TabledStore$Memory", name := "letGo", desc := "(I)V" } : Jvm.MethodName)) ∈ WB_ := wb_mk (i := 372) (by decide +kernel) (by decide +kernel)
theorem wd_381 : (Jvm.Cond.methodLink "TabledStore" (70 : Nat) ({ cls := "TabledStore", name := "needSlots", desc := "(I)V" } : Jvm.MethodName)) ∈ WB_ := wb_mk (i := 381) (by decide +kernel) (by decide +kernel)
theorem wd_383 : (Jvm.Cond.instanceMethod ({ cls := "TabledStore", name := "needSlots", desc := "(I)V" } : Jvm.MethodName)) ∈ WB_ := wb_mk (i := 383) (by decide +kernel) (by decide +kernel)
theorem wd_384 : (Jvm.Cond.code ({ cls := "TabledStore", name := "needSlots", desc := "(I)V" } : Jvm.MethodName) prog_1_method_30_code (2 : Nat) (Option.none : Option Jvm.ClassFile.FieldType)) ∈ WB_ := wb_mk (i := 384) (by decide +kernel) (by decide +kernel)
theorem wd_385 : (Jvm.Cond.methodLink "TabledStore" (80 : Nat) ({ cls := "TabledStore$Memory", name := "holdsSlots", desc := "(I)Z" } : Jvm.MethodName)) ∈ WB_ := wb_mk (i := 385) (by decide +kernel) (by decide +kernel)
theorem wd_386 : (Jvm.Cond.instanceMethod ({ cls := "TabledStore$Memory", name := "holdsSlots", desc := "(I)Z" } : Jvm.MethodName)) ∈ WB_ := wb_mk (i := 386) (by decide +kernel) (by decide +kernel)
theorem wd_387 : (Jvm.Cond.selects "TabledStore$Memory" ({ cls := "TabledStore$Memory", name := "holdsSlots", desc := "(I)Z" } : Jvm.MethodName) ({ cls := "TabledStore$Memory", name := "holdsSlots", desc := "(I)Z" } : Jvm.MethodName)) ∈ WB_ := wb_mk (i := 387) (by decide +kernel) (by decide +kernel)
theorem wd_388 : (Jvm.Cond.code ({ cls := "TabledStore$Memory", name := "holdsSlots", desc := "(I)Z" } : Jvm.MethodName) prog_2_method_6_code (2 : Nat) (Option.some Jvm.ClassFile.FieldType.boolean)) ∈ WB_ := wb_mk (i := 388) (by decide +kernel) (by decide +kernel)
theorem wd_390 : (Jvm.Cond.methodLink "TabledStore" (73 : Nat) ({ cls := "TabledStore", name := "needIndex", desc := "(II)V" } : Jvm.MethodName)) ∈ WB_ := wb_mk (i := 390) (by decide +kernel) (by decide +kernel)
theorem wd_392 : (Jvm.Cond.instanceMethod ({ cls := "TabledStore", name := "needIndex", desc := "(II)V" } : Jvm.MethodName)) ∈ WB_ := wb_mk (i := 392) (by decide +kernel) (by decide +kernel)
theorem wd_393 : (Jvm.Cond.code ({ cls := "TabledStore", name := "needIndex", desc := "(II)V" } : Jvm.MethodName) prog_1_method_32_code (3 : Nat) (Option.none : Option Jvm.ClassFile.FieldType)) ∈ WB_ := wb_mk (i := 393) (by decide +kernel) (by decide +kernel)
theorem wd_394 : (Jvm.Cond.methodLink "TabledStore" (84 : Nat) ({ cls := "TabledStore$Memory", name := "count", desc := "(I)I" } : Jvm.MethodName)) ∈ WB_ := wb_mk (i := 394) (by decide +kernel) (by decide +kernel)
theorem wd_395 : (Jvm.Cond.instanceMethod ({ cls := "TabledStore$Memory", name := "count", desc := "(I)I" } : Jvm.MethodName)) ∈ WB_ := wb_mk (i := 395) (by decide +kernel) (by decide +kernel)
theorem wd_396 : (Jvm.Cond.selects "TabledStore$Memory" ({ cls := "TabledStore$Memory", name := "count", desc := "(I)I" } : Jvm.MethodName) ({ cls := "TabledStore$Memory", name := "count", desc := "(I)I" } : Jvm.MethodName)) ∈ WB_ := wb_mk (i := 396) (by decide +kernel) (by decide +kernel)
theorem wd_397 : (Jvm.Cond.code ({ cls := "TabledStore$Memory", name := "count", desc := "(I)I" } : Jvm.MethodName) prog_2_method_8_code (2 : Nat) (Option.some Jvm.ClassFile.FieldType.int)) ∈ WB_ := wb_mk (i := 397) (by decide +kernel) (by decide +kernel)
theorem wd_398 : (Jvm.Cond.classLink "TabledStore" (164 : Nat) "java/lang/IndexOutOfBoundsException") ∈ WB_ := wb_mk (i := 398) (by decide +kernel) (by decide +kernel)
theorem wd_414 : (Jvm.Cond.methodLink "TabledStore" (76 : Nat) ({ cls := "TabledStore$Memory", name := "slot", desc := "(II)I" } : Jvm.MethodName)) ∈ WB_ := wb_mk (i := 414) (by decide +kernel) (by decide +kernel)
theorem wd_415 : (Jvm.Cond.instanceMethod ({ cls := "TabledStore$Memory", name := "slot", desc := "(II)I" } : Jvm.MethodName)) ∈ WB_ := wb_mk (i := 415) (by decide +kernel) (by decide +kernel)
theorem wd_416 : (Jvm.Cond.selects "TabledStore$Memory" ({ cls := "TabledStore$Memory", name := "slot", desc := "(II)I" } : Jvm.MethodName) ({ cls := "TabledStore$Memory", name := "slot", desc := "(II)I" } : Jvm.MethodName)) ∈ WB_ := wb_mk (i := 416) (by decide +kernel) (by decide +kernel)
theorem wd_417 : (Jvm.Cond.code ({ cls := "TabledStore$Memory", name := "slot", desc := "(II)I" } : Jvm.MethodName) prog_2_method_12_code (3 : Nat) (Option.some Jvm.ClassFile.FieldType.int)) ∈ WB_ := wb_mk (i := 417) (by decide +kernel) (by decide +kernel)
theorem wd_439 : (Jvm.Cond.methodLink "TabledStore" (87 : Nat) ({ cls := "TabledStore$Memory", name := "itsClass", desc := "(I)I" } : Jvm.MethodName)) ∈ WB_ := wb_mk (i := 439) (by decide +kernel) (by decide +kernel)
theorem wd_447 : (Jvm.Cond.methodLink "TabledStore" (90 : Nat) ({ cls := "TabledStore$Memory", name := "setItsClass", desc := "(II)V" } : Jvm.MethodName)) ∈ WB_ := wb_mk (i := 447) (by decide +kernel) (by decide +kernel)
theorem wd_448 : (Jvm.Cond.instanceMethod ({ cls := "TabledStore$Memory", name := "setItsClass", desc := "(II)V" } : Jvm.MethodName)) ∈ WB_ := wb_mk (i := 448) (by decide +kernel) (by decide +kernel)
theorem wd_449 : (Jvm.Cond.selects "TabledStore$Memory" ({ cls := "TabledStore$Memory", name := "setItsClass", desc := "(II)V" } : Jvm.MethodName) ({ cls := "TabledStore$Memory", name := "setItsClass", desc := "(II)V" } : Jvm.MethodName)) ∈ WB_ := wb_mk (i := 449) (by decide +kernel) (by decide +kernel)
theorem wd_450 : (Jvm.Cond.code ({ cls := "TabledStore$Memory", name := "setItsClass", desc := "(II)V" } : Jvm.MethodName) prog_2_method_11_code (3 : Nat) (Option.none : Option Jvm.ClassFile.FieldType)) ∈ WB_ := wb_mk (i := 450) (by decide +kernel) (by decide +kernel)
theorem wd_458 : (Jvm.Cond.methodLink "TabledStore" (93 : Nat) ({ cls := "TabledStore", name := "needBytes", desc := "(I)V" } : Jvm.MethodName)) ∈ WB_ := wb_mk (i := 458) (by decide +kernel) (by decide +kernel)
theorem wd_460 : (Jvm.Cond.instanceMethod ({ cls := "TabledStore", name := "needBytes", desc := "(I)V" } : Jvm.MethodName)) ∈ WB_ := wb_mk (i := 460) (by decide +kernel) (by decide +kernel)
theorem wd_461 : (Jvm.Cond.code ({ cls := "TabledStore", name := "needBytes", desc := "(I)V" } : Jvm.MethodName) prog_1_method_31_code (2 : Nat) (Option.none : Option Jvm.ClassFile.FieldType)) ∈ WB_ := wb_mk (i := 461) (by decide +kernel) (by decide +kernel)
theorem wd_462 : (Jvm.Cond.methodLink "TabledStore" (143 : Nat) ({ cls := "TabledStore$Memory", name := "holdsBytes", desc := "(I)Z" } : Jvm.MethodName)) ∈ WB_ := wb_mk (i := 462) (by decide +kernel) (by decide +kernel)
theorem wd_463 : (Jvm.Cond.instanceMethod ({ cls := "TabledStore$Memory", name := "holdsBytes", desc := "(I)Z" } : Jvm.MethodName)) ∈ WB_ := wb_mk (i := 463) (by decide +kernel) (by decide +kernel)
theorem wd_464 : (Jvm.Cond.selects "TabledStore$Memory" ({ cls := "TabledStore$Memory", name := "holdsBytes", desc := "(I)Z" } : Jvm.MethodName) ({ cls := "TabledStore$Memory", name := "holdsBytes", desc := "(I)Z" } : Jvm.MethodName)) ∈ WB_ := wb_mk (i := 464) (by decide +kernel) (by decide +kernel)
theorem wd_465 : (Jvm.Cond.code ({ cls := "TabledStore$Memory", name := "holdsBytes", desc := "(I)Z" } : Jvm.MethodName) prog_2_method_7_code (2 : Nat) (Option.some Jvm.ClassFile.FieldType.boolean)) ∈ WB_ := wb_mk (i := 465) (by decide +kernel) (by decide +kernel)
theorem wd_467 : (Jvm.Cond.methodLink "TabledStore" (96 : Nat) ({ cls := "TabledStore$Memory", name := "oneByte", desc := "(II)I" } : Jvm.MethodName)) ∈ WB_ := wb_mk (i := 467) (by decide +kernel) (by decide +kernel)
theorem wd_468 : (Jvm.Cond.instanceMethod ({ cls := "TabledStore$Memory", name := "oneByte", desc := "(II)I" } : Jvm.MethodName)) ∈ WB_ := wb_mk (i := 468) (by decide +kernel) (by decide +kernel)
theorem wd_469 : (Jvm.Cond.selects "TabledStore$Memory" ({ cls := "TabledStore$Memory", name := "oneByte", desc := "(II)I" } : Jvm.MethodName) ({ cls := "TabledStore$Memory", name := "oneByte", desc := "(II)I" } : Jvm.MethodName)) ∈ WB_ := wb_mk (i := 469) (by decide +kernel) (by decide +kernel)
theorem wd_470 : (Jvm.Cond.code ({ cls := "TabledStore$Memory", name := "oneByte", desc := "(II)I" } : Jvm.MethodName) prog_2_method_14_code (4 : Nat) (Option.some Jvm.ClassFile.FieldType.int)) ∈ WB_ := wb_mk (i := 470) (by decide +kernel) (by decide +kernel)
theorem wd_471 : (Jvm.Cond.methodLink "TabledStore$Memory" (53 : Nat) ({ cls := "TabledStore$Memory", name := "shiftOf", desc := "(I)I" } : Jvm.MethodName)) ∈ WB_ := wb_mk (i := 471) (by decide +kernel) (by decide +kernel)
theorem wd_472 : (Jvm.Cond.static ({ cls := "TabledStore$Memory", name := "shiftOf", desc := "(I)I" } : Jvm.MethodName)) ∈ WB_ := wb_mk (i := 472) (by decide +kernel) (by decide +kernel)
theorem wd_473 : (Jvm.Cond.code ({ cls := "TabledStore$Memory", name := "shiftOf", desc := "(I)I" } : Jvm.MethodName) prog_2_method_16_code (1 : Nat) (Option.some Jvm.ClassFile.FieldType.int)) ∈ WB_ := wb_mk (i := 473) (by decide +kernel) (by decide +kernel)
theorem wd_481 : (Jvm.Cond.methodLink "TabledStore" (99 : Nat) ({ cls := "java/lang/Math", name := "min", desc := "(II)I" } : Jvm.MethodName)) ∈ WB_ := wb_mk (i := 481) (by decide +kernel) (by decide +kernel)
theorem wd_482 : (Jvm.Cond.static ({ cls := "java/lang/Math", name := "min", desc := "(II)I" } : Jvm.MethodName)) ∈ WB_ := wb_mk (i := 482) (by decide +kernel) (by decide +kernel)
theorem wd_483 : (Jvm.Cond.code ({ cls := "java/lang/Math", name := "min", desc := "(II)I" } : Jvm.MethodName) prog_9_method_69_code (2 : Nat) (Option.some Jvm.ClassFile.FieldType.int)) ∈ WB_ := wb_mk (i := 483) (by decide +kernel) (by decide +kernel)
theorem wd_484 : (Jvm.Cond.methodLink "TabledStore" (104 : Nat) ({ cls := "TabledStore$Memory", name := "setOneByte", desc := "(III)V" } : Jvm.MethodName)) ∈ WB_ := wb_mk (i := 484) (by decide +kernel) (by decide +kernel)
theorem wd_485 : (Jvm.Cond.instanceMethod ({ cls := "TabledStore$Memory", name := "setOneByte", desc := "(III)V" } : Jvm.MethodName)) ∈ WB_ := wb_mk (i := 485) (by decide +kernel) (by decide +kernel)
theorem wd_486 : (Jvm.Cond.selects "TabledStore$Memory" ({ cls := "TabledStore$Memory", name := "setOneByte", desc := "(III)V" } : Jvm.MethodName) ({ cls := "TabledStore$Memory", name := "setOneByte", desc := "(III)V" } : Jvm.MethodName)) ∈ WB_ := wb_mk (i := 486) (by decide +kernel) (by decide +kernel)
theorem wd_487 : (Jvm.Cond.code ({ cls := "TabledStore$Memory", name := "setOneByte", desc := "(III)V" } : Jvm.MethodName) prog_2_method_15_code (6 : Nat) (Option.none : Option Jvm.ClassFile.FieldType)) ∈ WB_ := wb_mk (i := 487) (by decide +kernel) (by decide +kernel)
theorem wd_495 : (Jvm.Cond.methodLink "TabledStore" (107 : Nat) ({ cls := "TabledStore$Value", name := "isNumber", desc := "(I)Z" } : Jvm.MethodName)) ∈ WB_ := wb_mk (i := 495) (by decide +kernel) (by decide +kernel)
theorem wd_503 : (Jvm.Cond.methodLink "TabledStore" (110 : Nat) ({ cls := "TabledStore$Value", name := "toNumber", desc := "(I)I" } : Jvm.MethodName)) ∈ WB_ := wb_mk (i := 503) (by decide +kernel) (by decide +kernel)
theorem wd_504 : (Jvm.Cond.static ({ cls := "TabledStore$Value", name := "toNumber", desc := "(I)I" } : Jvm.MethodName)) ∈ WB_ := wb_mk (i := 504) (by decide +kernel) (by decide +kernel)
theorem wd_505 : (Jvm.Cond.code ({ cls := "TabledStore$Value", name := "toNumber", desc := "(I)I" } : Jvm.MethodName) prog_3_method_6_code (1 : Nat) (Option.some Jvm.ClassFile.FieldType.int)) ∈ WB_ := wb_mk (i := 505) (by decide +kernel) (by decide +kernel)
theorem wd_520 : (Jvm.Cond.methodLink "TabledStore" (116 : Nat) ({ cls := "TabledStore$Memory", name := "swap", desc := "(II)V" } : Jvm.MethodName)) ∈ WB_ := wb_mk (i := 520) (by decide +kernel) (by decide +kernel)
theorem wd_521 : (Jvm.Cond.instanceMethod ({ cls := "TabledStore$Memory", name := "swap", desc := "(II)V" } : Jvm.MethodName)) ∈ WB_ := wb_mk (i := 521) (by decide +kernel) (by decide +kernel)
theorem wd_522 : (Jvm.Cond.selects "TabledStore$Memory" ({ cls := "TabledStore$Memory", name := "swap", desc := "(II)V" } : Jvm.MethodName) ({ cls := "TabledStore$Memory", name := "swap", desc := "(II)V" } : Jvm.MethodName)) ∈ WB_ := wb_mk (i := 522) (by decide +kernel) (by decide +kernel)
theorem wd_523 : (Jvm.Cond.code ({ cls := "TabledStore$Memory", name := "swap", desc := "(II)V" } : Jvm.MethodName) prog_2_method_24_code (5 : Nat) (Option.none : Option Jvm.ClassFile.FieldType)) ∈ WB_ := wb_mk (i := 523) (by decide +kernel) (by decide +kernel)
theorem wd_524 : (Jvm.Cond.methodLink "TabledStore$Memory" (96 : Nat) ({ cls := "TabledStore$Memory", name := "seat", desc := "(II)V" } : Jvm.MethodName)) ∈ WB_ := wb_mk (i := 524) (by decide +kernel) (by decide +kernel)
theorem wd_526 : (Jvm.Cond.instanceMethod ({ cls := "TabledStore$Memory", name := "seat", desc := "(II)V" } : Jvm.MethodName)) ∈ WB_ := wb_mk (i := 526) (by decide +kernel) (by decide +kernel)
theorem wd_527 : (Jvm.Cond.code ({ cls := "TabledStore$Memory", name := "seat", desc := "(II)V" } : Jvm.MethodName) prog_2_method_25_code (3 : Nat) (Option.none : Option Jvm.ClassFile.FieldType)) ∈ WB_ := wb_mk (i := 527) (by decide +kernel) (by decide +kernel)
theorem wd_535 : (Jvm.Cond.constant "TabledStore" (132 : Nat) (2147483647 : Int32)) ∈ WB_ := wb_mk (i := 535) (by decide +kernel) (by decide +kernel)
theorem wd_536 : (Jvm.Cond.methodLink "TabledStore" (133 : Nat) ({ cls := "TabledStore$Memory", name := "findOfClass", desc := "(II)I" } : Jvm.MethodName)) ∈ WB_ := wb_mk (i := 536) (by decide +kernel) (by decide +kernel)
theorem wd_537 : (Jvm.Cond.instanceMethod ({ cls := "TabledStore$Memory", name := "findOfClass", desc := "(II)I" } : Jvm.MethodName)) ∈ WB_ := wb_mk (i := 537) (by decide +kernel) (by decide +kernel)
theorem wd_538 : (Jvm.Cond.selects "TabledStore$Memory" ({ cls := "TabledStore$Memory", name := "findOfClass", desc := "(II)I" } : Jvm.MethodName) ({ cls := "TabledStore$Memory", name := "findOfClass", desc := "(II)I" } : Jvm.MethodName)) ∈ WB_ := wb_mk (i := 538) (by decide +kernel) (by decide +kernel)
theorem wd_539 : (Jvm.Cond.code ({ cls := "TabledStore$Memory", name := "findOfClass", desc := "(II)I" } : Jvm.MethodName) prog_2_method_35_code (5 : Nat) (Option.some Jvm.ClassFile.FieldType.int)) ∈ WB_ := wb_mk (i := 539) (by decide +kernel) (by decide +kernel)
theorem wd_547 : (Jvm.Cond.methodLink "TabledStore" (136 : Nat) ({ cls := "TabledStore$Memory", name := "countHolders", desc := "(I)I" } : Jvm.MethodName)) ∈ WB_ := wb_mk (i := 547) (by decide +kernel) (by decide +kernel)
theorem wd_548 : (Jvm.Cond.instanceMethod ({ cls := "TabledStore$Memory", name := "countHolders", desc := "(I)I" } : Jvm.MethodName)) ∈ WB_ := wb_mk (i := 548) (by decide +kernel) (by decide +kernel)
theorem wd_549 : (Jvm.Cond.selects "TabledStore$Memory" ({ cls := "TabledStore$Memory", name := "countHolders", desc := "(I)I" } : Jvm.MethodName) ({ cls := "TabledStore$Memory", name := "countHolders", desc := "(I)I" } : Jvm.MethodName)) ∈ WB_ := wb_mk (i := 549) (by decide +kernel) (by decide +kernel)
theorem wd_550 : (Jvm.Cond.code ({ cls := "TabledStore$Memory", name := "countHolders", desc := "(I)I" } : Jvm.MethodName) prog_2_method_36_code (6 : Nat) (Option.some Jvm.ClassFile.FieldType.int)) ∈ WB_ := wb_mk (i := 550) (by decide +kernel) (by decide +kernel)
theorem wd_558 : (Jvm.Cond.methodLink "TabledStore" (139 : Nat) ({ cls := "TabledStore$Memory", name := "leadsTo", desc := "(II)Z" } : Jvm.MethodName)) ∈ WB_ := wb_mk (i := 558) (by decide +kernel) (by decide +kernel)
theorem wd_559 : (Jvm.Cond.instanceMethod ({ cls := "TabledStore$Memory", name := "leadsTo", desc := "(II)Z" } : Jvm.MethodName)) ∈ WB_ := wb_mk (i := 559) (by decide +kernel) (by decide +kernel)
theorem wd_560 : (Jvm.Cond.selects "TabledStore$Memory" ({ cls := "TabledStore$Memory", name := "leadsTo", desc := "(II)Z" } : Jvm.MethodName) ({ cls := "TabledStore$Memory", name := "leadsTo", desc := "(II)Z" } : Jvm.MethodName)) ∈ WB_ := wb_mk (i := 560) (by decide +kernel) (by decide +kernel)
theorem wd_561 : (Jvm.Cond.code ({ cls := "TabledStore$Memory", name := "leadsTo", desc := "(II)Z" } : Jvm.MethodName) prog_2_method_27_code (3 : Nat) (Option.some Jvm.ClassFile.FieldType.boolean)) ∈ WB_ := wb_mk (i := 561) (by decide +kernel) (by decide +kernel)
theorem g_V_7 : GoodIn WB_ (va_wsS R_V 7 y_V_isNumber ws_V_isNumber) := gS_ wd_124 wd_125 wd_40 wd_126
theorem g_M_33 : GoodIn WB_ (va_wsS R_M 33 y_M_isOfBytes ws_M_isOfBytes) := gS_ wd_142 wd_143 wd_34 wd_144
theorem g_M_37 : GoodIn WB_ (va_wsS R_M 37 y_V_toEntry ws_V_toEntry) := gS_ wd_127 wd_128 wd_40 wd_129
theorem g_M_43 : GoodIn WB_ (va_wsS R_M 43 y_V_isObject ws_V_isObject) := gS_ wd_121 wd_122 wd_40 wd_123
theorem g_M_46 : GoodIn WB_ (wsV R_M 46 R_M y_M_place ws_M_place) := gV_ wd_331 wd_333 wd_10 wd_34 wd_334
theorem g_M_53 : GoodIn WB_ (va_wsS R_M 53 y_M_shiftOf ws_M_shiftOf) := gS_ wd_471 wd_472 wd_34 wd_473
theorem g_M_92 : GoodIn WB_ (wsV R_M 92 R_M y_M_freeWords ws_M_freeWords) := gV_ wd_303 wd_160 wd_161 wd_34 wd_162
theorem g_M_63 : GoodIn WB_ (va_wsS R_M 63 y_M_bodyWords ws_M_bodyWords) := gS_ wd_145 wd_146 wd_34 wd_147
theorem g_M_123 : GoodIn WB_ (wsV R_M 123 R_M y_M_bodyWordsAt ws_M_bodyWordsAt) := gV_ wd_152 wd_154 wd_6 wd_34 wd_155
theorem g_M_76 : GoodIn WB_ (va_wsS R_M 76 y_V_ofEntry ws_V_ofEntry) := gS_ wd_305 wd_306 wd_40 wd_307
theorem g_M_120 : GoodIn WB_ (wsV R_M 120 R_M y_M_endOfSlots ws_M_endOfSlots) := gV_ wd_138 wd_140 wd_4 wd_34 wd_141
theorem g_M_56 : GoodIn WB_ (wsV R_M 56 R_M y_M_letGo ws_M_letGo) := gV_ wd_372 wd_267 wd_268 wd_34 wd_269
theorem g_M_49 : GoodIn WB_ (wsV R_M 49 R_M y_M_overwrite ws_M_overwrite) := gV_ wd_368 wd_370 wd_12 wd_34 wd_371
theorem g_M_96 : GoodIn WB_ (wsV R_M 96 R_M y_M_seat ws_M_seat) := gV_ wd_524 wd_526 wd_16 wd_34 wd_527
theorem g_M_111 : GoodIn WB_ (wsV R_M 111 R_M y_M_isReached ws_M_isReached) := gV_ wd_130 wd_132 wd_2 wd_34 wd_133
theorem g_M_102 : GoodIn WB_ (wsV R_M 102 R_M y_M_reach ws_M_reach) := gV_ wd_117 wd_119 wd_1 wd_34 wd_120
theorem g_M_99 : GoodIn WB_ (wsV R_M 99 R_M y_M_startRound ws_M_startRound) := gV_ wd_113 wd_115 wd_0 wd_34 wd_116
theorem g_M_105 : GoodIn WB_ (wsV R_M 105 R_M y_M_spread ws_M_spread) := gV_ wd_134 wd_136 wd_3 wd_34 wd_137
theorem g_M_108 : GoodIn WB_ (wsV R_M 108 R_M y_M_slide ws_M_slide) := gV_ wd_148 wd_150 wd_5 wd_34 wd_151
theorem g_M_66 : GoodIn WB_ (wsV R_M 66 R_M y_M_fits ws_M_fits) := gV_ wd_299 wd_301 wd_9 wd_34 wd_302
theorem g_M_69 : GoodIn WB_ (wsV R_M 69 R_M y_M_settle ws_M_settle) := gV_ wd_304 wd_110 wd_111 wd_34 wd_112
theorem g_M_79 : GoodIn WB_ (wsV R_M 79 R_M y_M_itsClass ws_M_itsClass) := gV_ wd_352 wd_353 wd_354 wd_34 wd_355
theorem g_M_82 : GoodIn WB_ (wsV R_M 82 R_M y_M_build ws_M_build) := gV_ wd_356 wd_296 wd_297 wd_34 wd_298
theorem g_T_16 : GoodIn WB_ (va_wsS R_T 16 y_T_isBetween ws_T_isBetween) := gS_ wd_56 wd_57 wd_33 wd_58
theorem g_T_27 : GoodIn WB_ (va_wsS R_T 27 y_T_needRegister ws_T_needRegister) := gS_ wd_182 wd_183 wd_33 wd_184
theorem g_T_113 : GoodIn WB_ (va_wsS R_T 113 y_V_isObject ws_V_isObject) := gS_ wd_346 wd_122 wd_40 wd_123
theorem g_T_80 : GoodIn WB_ (wsV R_T 80 R_M y_M_holdsSlots ws_M_holdsSlots) := gV_ wd_385 wd_386 wd_387 wd_34 wd_388
theorem g_T_143 : GoodIn WB_ (wsV R_T 143 R_M y_M_holdsBytes ws_M_holdsBytes) := gV_ wd_462 wd_463 wd_464 wd_34 wd_465
theorem g_T_84 : GoodIn WB_ (wsV R_T 84 R_M y_M_count ws_M_count) := gV_ wd_394 wd_395 wd_396 wd_34 wd_397
theorem g_T_146 : GoodIn WB_ (wsV R_T 146 R_M y_M_letGo ws_M_letGo) := gV_ wd_266 wd_267 wd_268 wd_34 wd_269
theorem g_T_33 : GoodIn WB_ (va_wsS R_T 33 y_T_needBetween ws_T_needBetween) := gS_ wd_255 wd_256 wd_33 wd_257
theorem g_T_37 : GoodIn WB_ (va_wsS R_T 37 y_V_ofNumber ws_V_ofNumber) := gS_ wd_259 wd_260 wd_40 wd_261
theorem g_T_43 : GoodIn WB_ (wsV R_T 43 R_T y_T_setRegister ws_T_setRegister) := gV_ wd_262 wd_264 wd_8 wd_33 wd_265
theorem g_T_46 : GoodIn WB_ (va_wsS R_T 46 y_M_shape ws_M_shape) := gS_ wd_292 wd_293 wd_34 wd_294
theorem g_T_50 : GoodIn WB_ (wsV R_T 50 R_M y_M_build ws_M_build) := gV_ wd_295 wd_296 wd_297 wd_34 wd_298
theorem g_T_54 : GoodIn WB_ (va_wsS R_T 54 y_T_needMade ws_T_needMade) := gS_ wd_308 wd_309 wd_33 wd_310
theorem g_T_57 : GoodIn WB_ (wsV R_T 57 R_M y_M_identity ws_M_identity) := gV_ wd_327 wd_328 wd_329 wd_34 wd_330
theorem g_T_60 : GoodIn WB_ (wsV R_T 60 R_T y_T_needObject ws_T_needObject) := gV_ wd_342 wd_344 wd_11 wd_33 wd_345
theorem g_T_63 : GoodIn WB_ (wsV R_T 63 R_M y_M_buildLike ws_M_buildLike) := gV_ wd_348 wd_349 wd_350 wd_34 wd_351
theorem g_T_67 : GoodIn WB_ (wsV R_T 67 R_M y_M_setSlot ws_M_setSlot) := gV_ wd_364 wd_365 wd_366 wd_34 wd_367
theorem g_T_70 : GoodIn WB_ (wsV R_T 70 R_T y_T_needSlots ws_T_needSlots) := gV_ wd_381 wd_383 wd_13 wd_33 wd_384
theorem g_T_73 : GoodIn WB_ (wsV R_T 73 R_T y_T_needIndex ws_T_needIndex) := gV_ wd_390 wd_392 wd_14 wd_33 wd_393
theorem g_T_76 : GoodIn WB_ (wsV R_T 76 R_M y_M_slot ws_M_slot) := gV_ wd_414 wd_415 wd_416 wd_34 wd_417
theorem g_T_87 : GoodIn WB_ (wsV R_T 87 R_M y_M_itsClass ws_M_itsClass) := gV_ wd_439 wd_353 wd_354 wd_34 wd_355
theorem g_T_90 : GoodIn WB_ (wsV R_T 90 R_M y_M_setItsClass ws_M_setItsClass) := gV_ wd_447 wd_448 wd_449 wd_34 wd_450
theorem g_T_93 : GoodIn WB_ (wsV R_T 93 R_T y_T_needBytes ws_T_needBytes) := gV_ wd_458 wd_460 wd_15 wd_33 wd_461
theorem g_T_96 : GoodIn WB_ (wsV R_T 96 R_M y_M_oneByte ws_M_oneByte) := gV_ wd_467 wd_468 wd_469 wd_34 wd_470
theorem g_T_104 : GoodIn WB_ (wsV R_T 104 R_M y_M_setOneByte ws_M_setOneByte) := gV_ wd_484 wd_485 wd_486 wd_34 wd_487
theorem g_T_107 : GoodIn WB_ (va_wsS R_T 107 y_V_isNumber ws_V_isNumber) := gS_ wd_495 wd_125 wd_40 wd_126
theorem g_T_110 : GoodIn WB_ (va_wsS R_T 110 y_V_toNumber ws_V_toNumber) := gS_ wd_503 wd_504 wd_40 wd_505
theorem g_T_116 : GoodIn WB_ (wsV R_T 116 R_M y_M_swap ws_M_swap) := gV_ wd_520 wd_521 wd_522 wd_34 wd_523
theorem g_T_119 : GoodIn WB_ (wsV R_T 119 R_M y_M_settle ws_M_settle) := gV_ wd_109 wd_110 wd_111 wd_34 wd_112
theorem g_T_123 : GoodIn WB_ (wsV R_T 123 R_M y_M_freeWords ws_M_freeWords) := gV_ wd_159 wd_160 wd_161 wd_34 wd_162
theorem g_T_127 : GoodIn WB_ (wsV R_T 127 R_M y_M_freeEntries ws_M_freeEntries) := gV_ wd_167 wd_168 wd_169 wd_34 wd_170
theorem g_T_133 : GoodIn WB_ (wsV R_T 133 R_M y_M_findOfClass ws_M_findOfClass) := gV_ wd_536 wd_537 wd_538 wd_34 wd_539
theorem g_T_136 : GoodIn WB_ (wsV R_T 136 R_M y_M_countHolders ws_M_countHolders) := gV_ wd_547 wd_548 wd_549 wd_34 wd_550
theorem g_T_139 : GoodIn WB_ (wsV R_T 139 R_M y_M_leadsTo ws_M_leadsTo) := gV_ wd_558 wd_559 wd_560 wd_34 wd_561
theorem xa_T_153 : ∀ w ∈ (vx_atS R_T 153 "java/lang/IllegalArgumentException" ["java/lang/RuntimeException", "java/lang/Exception"]).filter goodWord, w ∈ WB_ := by decide +kernel
theorem xa_T_153_n : ∀ w ∈ (vx_atS R_T 153 "java/lang/IllegalArgumentException" ["java/lang/RuntimeException", "java/lang/Exception"]).filter (fun w => !goodWord w), w ∈ [Cond.castable "java/lang/IllegalArgumentException" "java/lang/IllegalArgumentException", Cond.declares (Bundle.initS "java/lang/RuntimeException"), Cond.declares (Bundle.initS "java/lang/Exception"), Cond.declares (Bundle.initS "java/lang/Throwable")] := by decide +kernel
theorem xa_T_173 : ∀ w ∈ (vx_atS R_T 173 "java/lang/UnsupportedOperationException" ["java/lang/RuntimeException", "java/lang/Exception"]).filter goodWord, w ∈ WB_ := by decide +kernel
theorem xa_T_173_n : ∀ w ∈ (vx_atS R_T 173 "java/lang/UnsupportedOperationException" ["java/lang/RuntimeException", "java/lang/Exception"]).filter (fun w => !goodWord w), w ∈ [Cond.castable "java/lang/UnsupportedOperationException" "java/lang/UnsupportedOperationException", Cond.declares (Bundle.initS "java/lang/RuntimeException"), Cond.declares (Bundle.initS "java/lang/Exception"), Cond.declares (Bundle.initS "java/lang/Throwable")] := by decide +kernel
theorem xa_T_168 : ∀ w ∈ (vx_atS R_T 168 "java/lang/IndexOutOfBoundsException" ["java/lang/RuntimeException", "java/lang/Exception"]).filter goodWord, w ∈ WB_ := by decide +kernel
theorem xa_T_168_n : ∀ w ∈ (vx_atS R_T 168 "java/lang/IndexOutOfBoundsException" ["java/lang/RuntimeException", "java/lang/Exception"]).filter (fun w => !goodWord w), w ∈ [Cond.castable "java/lang/IndexOutOfBoundsException" "java/lang/IndexOutOfBoundsException", Cond.declares (Bundle.initS "java/lang/RuntimeException"), Cond.declares (Bundle.initS "java/lang/Exception"), Cond.declares (Bundle.initS "java/lang/Throwable")] := by decide +kernel
