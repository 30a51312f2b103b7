/-! names: classes, fields, methods; the words of the tables, all in one list -/
def WB_ : List Cond := lw_tbl.filter goodWord
theorem wb_mk {w : Cond} {i : Nat} (h1 : lw_tbl[i]? = some w) (h2 : goodWord w = true) : w ∈ WB_ := List.mem_filter.mpr ⟨List.mem_of_getElem? h1, h2⟩
theorem wb_good {w : Cond} (h : w ∈ WB_) : w ∈ WB_ ∧ ((w.onTables && w.keeps) = true ∨ ∃ ty, w = .arrayClass ty) := ⟨h, good_of_word (List.mem_filter.mp h).2⟩
theorem gI_ {y : MethodName} {c : ByteArray} {n : Nat} {r : Option FieldType} (h : Cond.code y c n r ∈ WB_) : GoodIn WB_ (Cond.code y c n r :: WB_) := by
  intro w hw
  rcases List.mem_cons.mp hw with rfl | hw
  · exact wb_good h
  · exact wb_good hw
theorem gV_ {own C : String} {i n : Nat} {y : MethodName} {c : ByteArray} {r : Option FieldType} (h1 : Cond.methodLink own i y ∈ WB_) (h2 : Cond.instanceMethod y ∈ WB_) (h3 : Cond.selects C y y ∈ WB_) (h4 : Cond.initialized C ∈ WB_) (h5 : Cond.code y c n r ∈ WB_) : GoodIn WB_ (wsV own i C y (Cond.code y c n r :: WB_)) := by
  intro w hw
  unfold wsV at hw
  rcases List.mem_append.mp hw with hw | hw
  · rcases List.mem_cons.mp hw with rfl | hw
    · exact wb_good h1
    · rcases List.mem_cons.mp hw with rfl | hw
      · exact wb_good h2
      · rcases List.mem_cons.mp hw with rfl | hw
        · exact wb_good h3
        · rcases List.mem_cons.mp hw with rfl | hw
          · exact wb_good h4
          · cases hw
  · exact gI_ h5 w hw
theorem gS_ {own : String} {i n : Nat} {y : MethodName} {c : ByteArray} {r : Option FieldType} (h1 : Cond.methodLink own i y ∈ WB_) (h2 : Cond.static y ∈ WB_) (h3 : Cond.initialized y.cls ∈ WB_) (h5 : Cond.code y c n r ∈ WB_) : GoodIn WB_ (va_wsS own i y (Cond.code y c n r :: WB_)) := by
  intro w hw
  unfold va_wsS at hw
  rcases List.mem_append.mp hw with hw | hw
  · rcases List.mem_cons.mp hw with rfl | hw
    · exact wb_good h1
    · rcases List.mem_cons.mp hw with rfl | hw
      · exact wb_good h2
      · rcases List.mem_cons.mp hw with rfl | hw
        · exact wb_good h3
        · cases hw
  · exact gI_ h5 w hw
def R_M : String := "TabledStore$Memory"
def T_M : u_T := fun k => match k with
  | 0 => ("TabledStore$Memory", "row", "[I", true)
  | 1 => ("TabledStore$Memory", "used", "I", false)
  | 2 => ("TabledStore$Memory", "places", "[I", true)
  | 3 => ("TabledStore$Memory", "spare", "[I", true)
  | 4 => ("TabledStore$Memory", "spareCount", "I", false)
  | 5 => ("TabledStore$Memory", "lastIdentity", "I", false)
  | 6 => ("TabledStore$Memory", "reached", "[I", true)
  | 7 => ("TabledStore$Memory", "reachedCount", "I", false)
  | 8 => ("TabledStore$Memory", "roundOf", "[I", true)
  | 9 => ("TabledStore$Memory", "round", "I", false)
  | _ => ("TabledStore$Memory", "settled", "Z", false)
def ty_M : Nat → FieldType := fun k => match k with
  | 0 => .array .int
  | 1 => .int
  | 2 => .array .int
  | 3 => .array .int
  | 4 => .int
  | 5 => .int
  | 6 => .array .int
  | 7 => .int
  | 8 => .array .int
  | 9 => .int
  | _ => .boolean
theorem nm_M : ∀ a, a < 11 → ∀ b, b < 11 → a ≠ b → (T_M a).2.1 ≠ (T_M b).2.1 := by decide +kernel
theorem ty_M_ok : ∀ k, k < 11 → parseFieldDescriptor (T_M k).2.2.1 = some (ty_M k) := by decide +kernel
theorem in_M : ∀ w ∈ u_ws R_M T_M 11, w ∈ WB_ := by decide +kernel
def R_V : String := "TabledStore$Value"
def R_T : String := "TabledStore"
def T_T : u_T := fun k => match k with
  | 0 => ("TabledStore", "registers", "[I", true)
  | _ => ("TabledStore", "memory", "LTabledStore$Memory;", true)
def ty_T : Nat → FieldType := fun k => match k with
  | 0 => .array .int
  | _ => .object "TabledStore$Memory"
theorem nm_T : ∀ a, a < 2 → ∀ b, b < 2 → a ≠ b → (T_T a).2.1 ≠ (T_T b).2.1 := by decide +kernel
theorem ty_T_ok : ∀ k, k < 2 → parseFieldDescriptor (T_T k).2.2.1 = some (ty_T k) := by decide +kernel
theorem in_T : ∀ w ∈ u_ws R_T T_T 2, w ∈ WB_ := by decide +kernel
def R_R : String := "TabledStoreModel"
def T_R : u_T := fun k => match k with
  | 0 => ("TabledStoreModel", "code", "I", false)
  | 1 => ("TabledStoreModel", "words", "I", true)
  | 2 => ("TabledStoreModel", "entries", "I", true)
  | 3 => ("TabledStoreModel", "registers", "[I", true)
  | 4 => ("TabledStoreModel", "identities", "[I", true)
  | 5 => ("TabledStoreModel", "classes", "[I", true)
  | 6 => ("TabledStoreModel", "bytes", "[Z", true)
  | 7 => ("TabledStoreModel", "sizes", "[I", true)
  | 8 => ("TabledStoreModel", "firsts", "[I", true)
  | 9 => ("TabledStoreModel", "made", "I", false)
  | 10 => ("TabledStoreModel", "hint", "I", false)
  | 11 => ("TabledStoreModel", "cells", "[I", true)
  | 12 => ("TabledStoreModel", "nexts", "[I", true)
  | 13 => ("TabledStoreModel", "free", "I", false)
  | 14 => ("TabledStoreModel", "reached", "[Z", true)
  | 15 => ("TabledStoreModel", "todo", "[I", true)
  | 16 => ("TabledStoreModel", "count", "I", false)
  | _ => ("TabledStoreModel", "taken", "I", false)
def ty_R : Nat → FieldType := fun k => match k with
  | 0 => .int
  | 1 => .int
  | 2 => .int
  | 3 => .array .int
  | 4 => .array .int
  | 5 => .array .int
  | 6 => .array .boolean
  | 7 => .array .int
  | 8 => .array .int
  | 9 => .int
  | 10 => .int
  | 11 => .array .int
  | 12 => .array .int
  | 13 => .int
  | 14 => .array .boolean
  | 15 => .array .int
  | 16 => .int
  | _ => .int
theorem nm_R : ∀ a, a < 18 → ∀ b, b < 18 → a ≠ b → (T_R a).2.1 ≠ (T_R b).2.1 := by decide +kernel
theorem ty_R_ok : ∀ k, k < 18 → parseFieldDescriptor (T_R k).2.2.1 = some (ty_R k) := by decide +kernel
theorem in_R : ∀ w ∈ u_ws R_R T_R 18, w ∈ WB_ := by decide +kernel
def R_L : String := "TabledStoreLaw"
abbrev vwCl : List vw_C := [(R_T, T_T, 2), (R_M, T_M, 11), (R_R, T_R, 18)]
abbrev c_V_ofNumber : ByteArray := prog_3_method_2_code
def y_V_ofNumber : MethodName := ⟨R_V, "ofNumber", "(I)I"⟩
def ws_V_ofNumber : List Cond := .code y_V_ofNumber c_V_ofNumber 1 (some .int) :: WB_
abbrev c_V_ofEntry : ByteArray := prog_3_method_3_code
def y_V_ofEntry : MethodName := ⟨R_V, "ofEntry", "(I)I"⟩
def ws_V_ofEntry : List Cond := .code y_V_ofEntry c_V_ofEntry 1 (some .int) :: WB_
abbrev c_V_isNumber : ByteArray := prog_3_method_4_code
def y_V_isNumber : MethodName := ⟨R_V, "isNumber", "(I)Z"⟩
def ws_V_isNumber : List Cond := .code y_V_isNumber c_V_isNumber 1 (some .boolean) :: WB_
abbrev c_V_isObject : ByteArray := prog_3_method_5_code
def y_V_isObject : MethodName := ⟨R_V, "isObject", "(I)Z"⟩
def ws_V_isObject : List Cond := .code y_V_isObject c_V_isObject 1 (some .boolean) :: WB_
abbrev c_V_toNumber : ByteArray := prog_3_method_6_code
def y_V_toNumber : MethodName := ⟨R_V, "toNumber", "(I)I"⟩
def ws_V_toNumber : List Cond := .code y_V_toNumber c_V_toNumber 1 (some .int) :: WB_
abbrev c_V_toEntry : ByteArray := prog_3_method_7_code
def y_V_toEntry : MethodName := ⟨R_V, "toEntry", "(I)I"⟩
def ws_V_toEntry : List Cond := .code y_V_toEntry c_V_toEntry 1 (some .int) :: WB_
abbrev c_M_init : ByteArray := prog_2_method_1_code
def y_M_init : MethodName := ⟨R_M, "<init>", "(II)V"⟩
def ws_M_init : List Cond := .code y_M_init c_M_init 4 none :: WB_
abbrev c_M_shape : ByteArray := prog_2_method_2_code
def y_M_shape : MethodName := ⟨R_M, "shape", "(IZ)I"⟩
def ws_M_shape : List Cond := .code y_M_shape c_M_shape 2 (some .int) :: WB_
abbrev c_M_isOfBytes : ByteArray := prog_2_method_3_code
def y_M_isOfBytes : MethodName := ⟨R_M, "isOfBytes", "(I)Z"⟩
def ws_M_isOfBytes : List Cond := .code y_M_isOfBytes c_M_isOfBytes 1 (some .boolean) :: WB_
abbrev c_M_bodyWords : ByteArray := prog_2_method_4_code
def y_M_bodyWords : MethodName := ⟨R_M, "bodyWords", "(I)I"⟩
def ws_M_bodyWords : List Cond := .code y_M_bodyWords c_M_bodyWords 2 (some .int) :: WB_
abbrev c_M_word : ByteArray := prog_2_method_5_code
def y_M_word : MethodName := ⟨R_M, "word", "(I)I"⟩
def ws_M_word : List Cond := .code y_M_word c_M_word 2 (some .int) :: WB_
abbrev c_M_setWord : ByteArray := prog_2_method_6_code
def y_M_setWord : MethodName := ⟨R_M, "setWord", "(II)V"⟩
def ws_M_setWord : List Cond := .code y_M_setWord c_M_setWord 3 none :: WB_
abbrev c_M_copyWords : ByteArray := prog_2_method_7_code
def y_M_copyWords : MethodName := ⟨R_M, "copyWords", "(III)V"⟩
def ws_M_copyWords : List Cond := .code y_M_copyWords c_M_copyWords 4 none :: WB_
abbrev c_M_place : ByteArray := prog_2_method_8_code
def y_M_place : MethodName := ⟨R_M, "place", "(I)I"⟩
def ws_M_place : List Cond := .code y_M_place c_M_place 3 (some .int) :: WB_
abbrev c_M_shapeOf : ByteArray := prog_2_method_9_code
def y_M_shapeOf : MethodName := ⟨R_M, "shapeOf", "(I)I"⟩
def ws_M_shapeOf : List Cond := .code y_M_shapeOf c_M_shapeOf 2 (some .int) :: WB_
abbrev c_M_holdsSlots : ByteArray := prog_2_method_10_code
def y_M_holdsSlots : MethodName := ⟨R_M, "holdsSlots", "(I)Z"⟩
def ws_M_holdsSlots : List Cond := .code y_M_holdsSlots c_M_holdsSlots 2 (some .boolean) :: WB_
abbrev c_M_holdsBytes : ByteArray := prog_2_method_11_code
def y_M_holdsBytes : MethodName := ⟨R_M, "holdsBytes", "(I)Z"⟩
def ws_M_holdsBytes : List Cond := .code y_M_holdsBytes c_M_holdsBytes 2 (some .boolean) :: WB_
abbrev c_M_count : ByteArray := prog_2_method_12_code
def y_M_count : MethodName := ⟨R_M, "count", "(I)I"⟩
def ws_M_count : List Cond := .code y_M_count c_M_count 2 (some .int) :: WB_
abbrev c_M_holdsSlot : ByteArray := prog_2_method_13_code
def y_M_holdsSlot : MethodName := ⟨R_M, "holdsSlot", "(II)Z"⟩
def ws_M_holdsSlot : List Cond := .code y_M_holdsSlot c_M_holdsSlot 3 (some .boolean) :: WB_
abbrev c_M_identity : ByteArray := prog_2_method_14_code
def y_M_identity : MethodName := ⟨R_M, "identity", "(I)I"⟩
def ws_M_identity : List Cond := .code y_M_identity c_M_identity 2 (some .int) :: WB_
abbrev c_M_itsClass : ByteArray := prog_2_method_15_code
def y_M_itsClass : MethodName := ⟨R_M, "itsClass", "(I)I"⟩
def ws_M_itsClass : List Cond := .code y_M_itsClass c_M_itsClass 2 (some .int) :: WB_
abbrev c_M_setItsClass : ByteArray := prog_2_method_16_code
def y_M_setItsClass : MethodName := ⟨R_M, "setItsClass", "(II)V"⟩
def ws_M_setItsClass : List Cond := .code y_M_setItsClass c_M_setItsClass 3 none :: WB_
abbrev c_M_slot : ByteArray := prog_2_method_17_code
def y_M_slot : MethodName := ⟨R_M, "slot", "(II)I"⟩
def ws_M_slot : List Cond := .code y_M_slot c_M_slot 3 (some .int) :: WB_
abbrev c_M_setSlot : ByteArray := prog_2_method_18_code
def y_M_setSlot : MethodName := ⟨R_M, "setSlot", "(III)V"⟩
def ws_M_setSlot : List Cond := .code y_M_setSlot c_M_setSlot 4 none :: WB_
abbrev c_M_oneByte : ByteArray := prog_2_method_19_code
def y_M_oneByte : MethodName := ⟨R_M, "oneByte", "(II)I"⟩
def ws_M_oneByte : List Cond := .code y_M_oneByte c_M_oneByte 3 (some .int) :: WB_
abbrev c_M_byteFrom : ByteArray := prog_2_method_20_code
def y_M_byteFrom : MethodName := ⟨R_M, "byteFrom", "(II)I"⟩
def ws_M_byteFrom : List Cond := .code y_M_byteFrom c_M_byteFrom 3 (some .int) :: WB_
abbrev c_M_sumOfBytes : ByteArray := prog_2_method_21_code
def y_M_sumOfBytes : MethodName := ⟨R_M, "sumOfBytes", "(I)I"⟩
def ws_M_sumOfBytes : List Cond := .code y_M_sumOfBytes c_M_sumOfBytes 6 (some .int) :: WB_
abbrev c_M_setOneByte : ByteArray := prog_2_method_22_code
def y_M_setOneByte : MethodName := ⟨R_M, "setOneByte", "(III)V"⟩
def ws_M_setOneByte : List Cond := .code y_M_setOneByte c_M_setOneByte 6 none :: WB_
abbrev c_M_shiftOf : ByteArray := prog_2_method_23_code
def y_M_shiftOf : MethodName := ⟨R_M, "shiftOf", "(I)I"⟩
def ws_M_shiftOf : List Cond := .code y_M_shiftOf c_M_shiftOf 1 (some .int) :: WB_
abbrev c_M_overwrite : ByteArray := prog_2_method_24_code
def y_M_overwrite : MethodName := ⟨R_M, "overwrite", "(II)V"⟩
def ws_M_overwrite : List Cond := .code y_M_overwrite c_M_overwrite 3 none :: WB_
abbrev c_M_letGo : ByteArray := prog_2_method_25_code
def y_M_letGo : MethodName := ⟨R_M, "letGo", "(I)V"⟩
def ws_M_letGo : List Cond := .code y_M_letGo c_M_letGo 2 none :: WB_
abbrev c_M_freeWords : ByteArray := prog_2_method_26_code
def y_M_freeWords : MethodName := ⟨R_M, "freeWords", "()I"⟩
def ws_M_freeWords : List Cond := .code y_M_freeWords c_M_freeWords 1 (some .int) :: WB_
abbrev c_M_freeEntries : ByteArray := prog_2_method_27_code
def y_M_freeEntries : MethodName := ⟨R_M, "freeEntries", "()I"⟩
def ws_M_freeEntries : List Cond := .code y_M_freeEntries c_M_freeEntries 1 (some .int) :: WB_
abbrev c_M_build : ByteArray := prog_2_method_28_code
def y_M_build : MethodName := ⟨R_M, "build", "(II[I)I"⟩
def ws_M_build : List Cond := .code y_M_build c_M_build 9 (some .int) :: WB_
abbrev c_M_fillLike : ByteArray := prog_2_method_29_code
def y_M_fillLike : MethodName := ⟨R_M, "fillLike", "(II)V"⟩
def ws_M_fillLike : List Cond := .code y_M_fillLike c_M_fillLike 3 none :: WB_
abbrev c_M_fits : ByteArray := prog_2_method_30_code
def y_M_fits : MethodName := ⟨R_M, "fits", "(I)Z"⟩
def ws_M_fits : List Cond := .code y_M_fits c_M_fits 2 (some .boolean) :: WB_
abbrev c_M_giveBackEntry : ByteArray := prog_2_method_31_code
def y_M_giveBackEntry : MethodName := ⟨R_M, "giveBackEntry", "(I)V"⟩
def ws_M_giveBackEntry : List Cond := .code y_M_giveBackEntry c_M_giveBackEntry 2 none :: WB_
abbrev c_M_swap : ByteArray := prog_2_method_32_code
def y_M_swap : MethodName := ⟨R_M, "swap", "(II)V"⟩
def ws_M_swap : List Cond := .code y_M_swap c_M_swap 5 none :: WB_
abbrev c_M_seat : ByteArray := prog_2_method_33_code
def y_M_seat : MethodName := ⟨R_M, "seat", "(II)V"⟩
def ws_M_seat : List Cond := .code y_M_seat c_M_seat 3 none :: WB_
abbrev c_M_settle : ByteArray := prog_2_method_34_code
def y_M_settle : MethodName := ⟨R_M, "settle", "([I)V"⟩
def ws_M_settle : List Cond := .code y_M_settle c_M_settle 6 none :: WB_
abbrev c_M_leadsTo : ByteArray := prog_2_method_35_code
def y_M_leadsTo : MethodName := ⟨R_M, "leadsTo", "(II)Z"⟩
def ws_M_leadsTo : List Cond := .code y_M_leadsTo c_M_leadsTo 3 (some .boolean) :: WB_
abbrev c_M_startRound : ByteArray := prog_2_method_36_code
def y_M_startRound : MethodName := ⟨R_M, "startRound", "()V"⟩
def ws_M_startRound : List Cond := .code y_M_startRound c_M_startRound 1 none :: WB_
abbrev c_M_isReached : ByteArray := prog_2_method_37_code
def y_M_isReached : MethodName := ⟨R_M, "isReached", "(I)Z"⟩
def ws_M_isReached : List Cond := .code y_M_isReached c_M_isReached 2 (some .boolean) :: WB_
abbrev c_M_reach : ByteArray := prog_2_method_38_code
def y_M_reach : MethodName := ⟨R_M, "reach", "(I)V"⟩
def ws_M_reach : List Cond := .code y_M_reach c_M_reach 3 none :: WB_
abbrev c_M_spread : ByteArray := prog_2_method_39_code
def y_M_spread : MethodName := ⟨R_M, "spread", "()V"⟩
def ws_M_spread : List Cond := .code y_M_spread c_M_spread 5 none :: WB_
abbrev c_M_endOfSlots : ByteArray := prog_2_method_40_code
def y_M_endOfSlots : MethodName := ⟨R_M, "endOfSlots", "(I)I"⟩
def ws_M_endOfSlots : List Cond := .code y_M_endOfSlots c_M_endOfSlots 3 (some .int) :: WB_
abbrev c_M_bodyWordsAt : ByteArray := prog_2_method_41_code
def y_M_bodyWordsAt : MethodName := ⟨R_M, "bodyWordsAt", "(I)I"⟩
def ws_M_bodyWordsAt : List Cond := .code y_M_bodyWordsAt c_M_bodyWordsAt 2 (some .int) :: WB_
abbrev c_M_slide : ByteArray := prog_2_method_42_code
def y_M_slide : MethodName := ⟨R_M, "slide", "()V"⟩
def ws_M_slide : List Cond := .code y_M_slide c_M_slide 5 none :: WB_
abbrev c_M_findOfClass : ByteArray := prog_2_method_43_code
def y_M_findOfClass : MethodName := ⟨R_M, "findOfClass", "(II)I"⟩
def ws_M_findOfClass : List Cond := .code y_M_findOfClass c_M_findOfClass 5 (some .int) :: WB_
abbrev c_M_countHolders : ByteArray := prog_2_method_44_code
def y_M_countHolders : MethodName := ⟨R_M, "countHolders", "(I)I"⟩
def ws_M_countHolders : List Cond := .code y_M_countHolders c_M_countHolders 6 (some .int) :: WB_
abbrev c_T_init : ByteArray := prog_1_method_1_code
def y_T_init : MethodName := ⟨R_T, "<init>", "(II)V"⟩
def ws_T_init : List Cond := .code y_T_init c_T_init 3 none :: WB_
abbrev c_T_number : ByteArray := prog_1_method_2_code
def y_T_number : MethodName := ⟨R_T, "number", "(II)V"⟩
def ws_T_number : List Cond := .code y_T_number c_T_number 3 none :: WB_
abbrev c_T_move : ByteArray := prog_1_method_3_code
def y_T_move : MethodName := ⟨R_T, "move", "(II)V"⟩
def ws_T_move : List Cond := .code y_T_move c_T_move 3 none :: WB_
abbrev c_T_clear : ByteArray := prog_1_method_4_code
def y_T_clear : MethodName := ⟨R_T, "clear", "(I)V"⟩
def ws_T_clear : List Cond := .code y_T_clear c_T_clear 2 none :: WB_
abbrev c_T_make : ByteArray := prog_1_method_5_code
def y_T_make : MethodName := ⟨R_T, "make", "(IIIZ)I"⟩
def ws_T_make : List Cond := .code y_T_make c_T_make 6 (some .int) :: WB_
abbrev c_T_copy : ByteArray := prog_1_method_6_code
def y_T_copy : MethodName := ⟨R_T, "copy", "(II)I"⟩
def ws_T_copy : List Cond := .code y_T_copy c_T_copy 5 (some .int) :: WB_
abbrev c_T_chain : ByteArray := prog_1_method_7_code
def y_T_chain : MethodName := ⟨R_T, "chain", "(IIII)I"⟩
def ws_T_chain : List Cond := .code y_T_chain c_T_chain 8 (some .int) :: WB_
abbrev c_T_get : ByteArray := prog_1_method_8_code
def y_T_get : MethodName := ⟨R_T, "get", "(III)V"⟩
def ws_T_get : List Cond := .code y_T_get c_T_get 4 none :: WB_
abbrev c_T_put : ByteArray := prog_1_method_9_code
def y_T_put : MethodName := ⟨R_T, "put", "(III)V"⟩
def ws_T_put : List Cond := .code y_T_put c_T_put 4 none :: WB_
abbrev c_T_walk : ByteArray := prog_1_method_10_code
def y_T_walk : MethodName := ⟨R_T, "walk", "(III)I"⟩
def ws_T_walk : List Cond := .code y_T_walk c_T_walk 6 (some .int) :: WB_
abbrev c_T_classOf : ByteArray := prog_1_method_11_code
def y_T_classOf : MethodName := ⟨R_T, "classOf", "(II)V"⟩
def ws_T_classOf : List Cond := .code y_T_classOf c_T_classOf 3 none :: WB_
abbrev c_T_setClass : ByteArray := prog_1_method_12_code
def y_T_setClass : MethodName := ⟨R_T, "setClass", "(II)V"⟩
def ws_T_setClass : List Cond := .code y_T_setClass c_T_setClass 3 none :: WB_
abbrev c_T_byteAt : ByteArray := prog_1_method_13_code
def y_T_byteAt : MethodName := ⟨R_T, "byteAt", "(II)I"⟩
def ws_T_byteAt : List Cond := .code y_T_byteAt c_T_byteAt 3 (some .int) :: WB_
abbrev c_T_bytePut : ByteArray := prog_1_method_14_code
def y_T_bytePut : MethodName := ⟨R_T, "bytePut", "(IIJ)V"⟩
def ws_T_bytePut : List Cond := .code y_T_bytePut c_T_bytePut 9 none :: WB_
abbrev c_T_kind : ByteArray := prog_1_method_15_code
def y_T_kind : MethodName := ⟨R_T, "kind", "(I)I"⟩
def ws_T_kind : List Cond := .code y_T_kind c_T_kind 3 (some .int) :: WB_
abbrev c_T_value : ByteArray := prog_1_method_16_code
def y_T_value : MethodName := ⟨R_T, "value", "(I)I"⟩
def ws_T_value : List Cond := .code y_T_value c_T_value 3 (some .int) :: WB_
abbrev c_T_size : ByteArray := prog_1_method_17_code
def y_T_size : MethodName := ⟨R_T, "size", "(I)I"⟩
def ws_T_size : List Cond := .code y_T_size c_T_size 2 (some .int) :: WB_
abbrev c_T_become : ByteArray := prog_1_method_18_code
def y_T_become : MethodName := ⟨R_T, "become", "(II)V"⟩
def ws_T_become : List Cond := .code y_T_become c_T_become 3 none :: WB_
abbrev c_T_words : ByteArray := prog_1_method_19_code
def y_T_words : MethodName := ⟨R_T, "words", "()I"⟩
def ws_T_words : List Cond := .code y_T_words c_T_words 1 (some .int) :: WB_
abbrev c_T_entries : ByteArray := prog_1_method_20_code
def y_T_entries : MethodName := ⟨R_T, "entries", "()I"⟩
def ws_T_entries : List Cond := .code y_T_entries c_T_entries 1 (some .int) :: WB_
abbrev c_T_instance : ByteArray := prog_1_method_21_code
def y_T_instance : MethodName := ⟨R_T, "instance", "(III)I"⟩
def ws_T_instance : List Cond := .code y_T_instance c_T_instance 5 (some .int) :: WB_
abbrev c_T_owners : ByteArray := prog_1_method_22_code
def y_T_owners : MethodName := ⟨R_T, "owners", "(I)I"⟩
def ws_T_owners : List Cond := .code y_T_owners c_T_owners 8 (some .int) :: WB_
abbrev c_T_reaches : ByteArray := prog_1_method_23_code
def y_T_reaches : MethodName := ⟨R_T, "reaches", "(II)Z"⟩
def ws_T_reaches : List Cond := .code y_T_reaches c_T_reaches 3 (some .boolean) :: WB_
abbrev c_T_sum : ByteArray := prog_1_method_24_code
def y_T_sum : MethodName := ⟨R_T, "sum", "(I)I"⟩
def ws_T_sum : List Cond := .code y_T_sum c_T_sum 3 (some .int) :: WB_
abbrev c_T_setRegister : ByteArray := prog_1_method_25_code
def y_T_setRegister : MethodName := ⟨R_T, "setRegister", "(II)V"⟩
def ws_T_setRegister : List Cond := .code y_T_setRegister c_T_setRegister 3 none :: WB_
abbrev c_T_isBetween : ByteArray := prog_1_method_26_code
def y_T_isBetween : MethodName := ⟨R_T, "isBetween", "(III)Z"⟩
def ws_T_isBetween : List Cond := .code y_T_isBetween c_T_isBetween 3 (some .boolean) :: WB_
abbrev c_T_needBetween : ByteArray := prog_1_method_27_code
def y_T_needBetween : MethodName := ⟨R_T, "needBetween", "(III)V"⟩
def ws_T_needBetween : List Cond := .code y_T_needBetween c_T_needBetween 3 none :: WB_
abbrev c_T_needRegister : ByteArray := prog_1_method_28_code
def y_T_needRegister : MethodName := ⟨R_T, "needRegister", "(I)V"⟩
def ws_T_needRegister : List Cond := .code y_T_needRegister c_T_needRegister 1 none :: WB_
abbrev c_T_needObject : ByteArray := prog_1_method_29_code
def y_T_needObject : MethodName := ⟨R_T, "needObject", "(I)V"⟩
def ws_T_needObject : List Cond := .code y_T_needObject c_T_needObject 2 none :: WB_
abbrev c_T_needSlots : ByteArray := prog_1_method_30_code
def y_T_needSlots : MethodName := ⟨R_T, "needSlots", "(I)V"⟩
def ws_T_needSlots : List Cond := .code y_T_needSlots c_T_needSlots 2 none :: WB_
abbrev c_T_needBytes : ByteArray := prog_1_method_31_code
def y_T_needBytes : MethodName := ⟨R_T, "needBytes", "(I)V"⟩
def ws_T_needBytes : List Cond := .code y_T_needBytes c_T_needBytes 2 none :: WB_
abbrev c_T_needIndex : ByteArray := prog_1_method_32_code
def y_T_needIndex : MethodName := ⟨R_T, "needIndex", "(II)V"⟩
def ws_T_needIndex : List Cond := .code y_T_needIndex c_T_needIndex 3 none :: WB_
abbrev c_T_needMade : ByteArray := prog_1_method_33_code
def y_T_needMade : MethodName := ⟨R_T, "needMade", "(I)V"⟩
def ws_T_needMade : List Cond := .code y_T_needMade c_T_needMade 1 none :: WB_
theorem wd_0 : (Jvm.Cond.selects "TabledStore$Memory" ({ cls := "TabledStore$Memory", name := "startRound", desc := "()V" } : Jvm.MethodName) ({ cls := "TabledStore$Memory", name := "startRound", desc := "()V" } : Jvm.MethodName)) ∈ WB_ := wb_mk (i := 0) (by decide +kernel) (by decide +kernel)
theorem wd_1 : (Jvm.Cond.selects "TabledStore$Memory" ({ cls := "TabledStore$Memory", name := "reach", desc := "(I)V" } : Jvm.MethodName) ({ cls := "TabledStore$Memory", name := "reach", desc := "(I)V" } : Jvm.MethodName)) ∈ WB_ := wb_mk (i := 1) (by decide +kernel) (by decide +kernel)
theorem wd_2 : (Jvm.Cond.selects "TabledStore$Memory" ({ cls := "TabledStore$Memory", name := "spread", desc := "()V" } : Jvm.MethodName) ({ cls := "TabledStore$Memory", name := "spread", desc := "()V" } : Jvm.MethodName)) ∈ WB_ := wb_mk (i := 2) (by decide +kernel) (by decide +kernel)
theorem wd_3 : (Jvm.Cond.selects "TabledStore$Memory" ({ cls := "TabledStore$Memory", name := "place", desc := "(I)I" } : Jvm.MethodName) ({ cls := "TabledStore$Memory", name := "place", desc := "(I)I" } : Jvm.MethodName)) ∈ WB_ := wb_mk (i := 3) (by decide +kernel) (by decide +kernel)
theorem wd_4 : (Jvm.Cond.selects "TabledStore$Memory" ({ cls := "TabledStore$Memory", name := "word", desc := "(I)I" } : Jvm.MethodName) ({ cls := "TabledStore$Memory", name := "word", desc := "(I)I" } : Jvm.MethodName)) ∈ WB_ := wb_mk (i := 4) (by decide +kernel) (by decide +kernel)
theorem wd_5 : (Jvm.Cond.selects "TabledStore$Memory" ({ cls := "TabledStore$Memory", name := "endOfSlots", desc := "(I)I" } : Jvm.MethodName) ({ cls := "TabledStore$Memory", name := "endOfSlots", desc := "(I)I" } : Jvm.MethodName)) ∈ WB_ := wb_mk (i := 5) (by decide +kernel) (by decide +kernel)
theorem wd_6 : (Jvm.Cond.selects "TabledStore$Memory" ({ cls := "TabledStore$Memory", name := "slide", desc := "()V" } : Jvm.MethodName) ({ cls := "TabledStore$Memory", name := "slide", desc := "()V" } : Jvm.MethodName)) ∈ WB_ := wb_mk (i := 6) (by decide +kernel) (by decide +kernel)
theorem wd_7 : (Jvm.Cond.selects "TabledStore$Memory" ({ cls := "TabledStore$Memory", name := "bodyWordsAt", desc := "(I)I" } : Jvm.MethodName) ({ cls := "TabledStore$Memory", name := "bodyWordsAt", desc := "(I)I" } : Jvm.MethodName)) ∈ WB_ := wb_mk (i := 7) (by decide +kernel) (by decide +kernel)
theorem wd_8 : (Jvm.Cond.selects "TabledStore$Memory" ({ cls := "TabledStore$Memory", name := "isReached", desc := "(I)Z" } : Jvm.MethodName) ({ cls := "TabledStore$Memory", name := "isReached", desc := "(I)Z" } : Jvm.MethodName)) ∈ WB_ := wb_mk (i := 8) (by decide +kernel) (by decide +kernel)
theorem wd_9 : (Jvm.Cond.selects "TabledStore$Memory" ({ cls := "TabledStore$Memory", name := "copyWords", desc := "(III)V" } : Jvm.MethodName) ({ cls := "TabledStore$Memory", name := "copyWords", desc := "(III)V" } : Jvm.MethodName)) ∈ WB_ := wb_mk (i := 9) (by decide +kernel) (by decide +kernel)
theorem wd_10 : (Jvm.Cond.selects "TabledStore$Memory" ({ cls := "TabledStore$Memory", name := "seat", desc := "(II)V" } : Jvm.MethodName) ({ cls := "TabledStore$Memory", name := "seat", desc := "(II)V" } : Jvm.MethodName)) ∈ WB_ := wb_mk (i := 10) (by decide +kernel) (by decide +kernel)
theorem wd_11 : (Jvm.Cond.selects "TabledStore$Memory" ({ cls := "TabledStore$Memory", name := "setWord", desc := "(II)V" } : Jvm.MethodName) ({ cls := "TabledStore$Memory", name := "setWord", desc := "(II)V" } : Jvm.MethodName)) ∈ WB_ := wb_mk (i := 11) (by decide +kernel) (by decide +kernel)
theorem wd_12 : (Jvm.Cond.selects "TabledStore$Memory" ({ cls := "TabledStore$Memory", name := "giveBackEntry", desc := "(I)V" } : Jvm.MethodName) ({ cls := "TabledStore$Memory", name := "giveBackEntry", desc := "(I)V" } : Jvm.MethodName)) ∈ WB_ := wb_mk (i := 12) (by decide +kernel) (by decide +kernel)
theorem wd_14 : (Jvm.Cond.selects "TabledStore" ({ cls := "TabledStore", name := "setRegister", desc := "(II)V" } : Jvm.MethodName) ({ cls := "TabledStore", name := "setRegister", desc := "(II)V" } : Jvm.MethodName)) ∈ WB_ := wb_mk (i := 14) (by decide +kernel) (by decide +kernel)
theorem wd_15 : (Jvm.Cond.selects "TabledStore$Memory" ({ cls := "TabledStore$Memory", name := "fits", desc := "(I)Z" } : Jvm.MethodName) ({ cls := "TabledStore$Memory", name := "fits", desc := "(I)Z" } : Jvm.MethodName)) ∈ WB_ := wb_mk (i := 15) (by decide +kernel) (by decide +kernel)
theorem wd_16 : (Jvm.Cond.selects "TabledStore" ({ cls := "TabledStore", name := "needObject", desc := "(I)V" } : Jvm.MethodName) ({ cls := "TabledStore", name := "needObject", desc := "(I)V" } : Jvm.MethodName)) ∈ WB_ := wb_mk (i := 16) (by decide +kernel) (by decide +kernel)
theorem wd_17 : (Jvm.Cond.selects "TabledStore$Memory" ({ cls := "TabledStore$Memory", name := "overwrite", desc := "(II)V" } : Jvm.MethodName) ({ cls := "TabledStore$Memory", name := "overwrite", desc := "(II)V" } : Jvm.MethodName)) ∈ WB_ := wb_mk (i := 17) (by decide +kernel) (by decide +kernel)
theorem wd_18 : (Jvm.Cond.selects "TabledStore" ({ cls := "TabledStore", name := "needSlots", desc := "(I)V" } : Jvm.MethodName) ({ cls := "TabledStore", name := "needSlots", desc := "(I)V" } : Jvm.MethodName)) ∈ WB_ := wb_mk (i := 18) (by decide +kernel) (by decide +kernel)
theorem wd_19 : (Jvm.Cond.selects "TabledStore" ({ cls := "TabledStore", name := "needIndex", desc := "(II)V" } : Jvm.MethodName) ({ cls := "TabledStore", name := "needIndex", desc := "(II)V" } : Jvm.MethodName)) ∈ WB_ := wb_mk (i := 19) (by decide +kernel) (by decide +kernel)
theorem wd_20 : (Jvm.Cond.selects "TabledStore" ({ cls := "TabledStore", name := "needBytes", desc := "(I)V" } : Jvm.MethodName) ({ cls := "TabledStore", name := "needBytes", desc := "(I)V" } : Jvm.MethodName)) ∈ WB_ := wb_mk (i := 20) (by decide +kernel) (by decide +kernel)
theorem wd_21 : (Jvm.Cond.selects "TabledStore$Memory" ({ cls := "TabledStore$Memory", name := "byteFrom", desc := "(II)I" } : Jvm.MethodName) ({ cls := "TabledStore$Memory", name := "byteFrom", desc := "(II)I" } : Jvm.MethodName)) ∈ WB_ := wb_mk (i := 21) (by decide +kernel) (by decide +kernel)
theorem wd_38 : (Jvm.Cond.initialized "TabledStore") ∈ WB_ := wb_mk (i := 38) (by decide +kernel) (by decide +kernel)
theorem wd_39 : (Jvm.Cond.initialized "TabledStore$Memory") ∈ WB_ := wb_mk (i := 39) (by decide +kernel) (by decide +kernel)
theorem wd_44 : (Jvm.Cond.initialized "java/lang/IllegalArgumentException") ∈ WB_ := wb_mk (i := 44) (by decide +kernel) (by decide +kernel)
theorem wd_45 : (Jvm.Cond.initialized "TabledStore$Value") ∈ WB_ := wb_mk (i := 45) (by decide +kernel) (by decide +kernel)
theorem wd_46 : (Jvm.Cond.initialized "java/lang/Math") ∈ WB_ := wb_mk (i := 46) (by decide +kernel) (by decide +kernel)
theorem wd_47 : (Jvm.Cond.initialized "java/lang/System") ∈ WB_ := wb_mk (i := 47) (by decide +kernel) (by decide +kernel)
theorem wd_48 : (Jvm.Cond.initialized "java/lang/UnsupportedOperationException") ∈ WB_ := wb_mk (i := 48) (by decide +kernel) (by decide +kernel)
theorem wd_49 : (Jvm.Cond.initialized "java/lang/IndexOutOfBoundsException") ∈ WB_ := wb_mk (i := 49) (by decide +kernel) (by decide +kernel)
theorem wd_61 : (Jvm.Cond.methodLink "TabledStore" (16 : Nat) ({ cls := "TabledStore", name := "isBetween", desc := "(III)Z" } : Jvm.MethodName)) ∈ WB_ := wb_mk (i := 61) (by decide +kernel) (by decide +kernel)
theorem wd_62 : (Jvm.Cond.static ({ cls := "TabledStore", name := "isBetween", desc := "(III)Z" } : Jvm.MethodName)) ∈ WB_ := wb_mk (i := 62) (by decide +kernel) (by decide +kernel)
theorem wd_63 : (Jvm.Cond.code ({ cls := "TabledStore", name := "isBetween", desc := "(III)Z" } : Jvm.MethodName) prog_1_method_26_code (3 : Nat) (Option.some Jvm.ClassFile.FieldType.boolean)) ∈ WB_ := wb_mk (i := 63) (by decide +kernel) (by decide +kernel)
theorem wd_68 : (Jvm.Cond.fieldLink "TabledStore$Memory" (7 : Nat) "TabledStore$Memory" "row" "[I") ∈ WB_ := wb_mk (i := 68) (by decide +kernel) (by decide +kernel)
theorem wd_69 : (Jvm.Cond.fieldLink "TabledStore$Memory" (90 : Nat) "TabledStore$Memory" "used" "I") ∈ WB_ := wb_mk (i := 69) (by decide +kernel) (by decide +kernel)
theorem wd_70 : (Jvm.Cond.fieldLink "TabledStore$Memory" (13 : Nat) "TabledStore$Memory" "places" "[I") ∈ WB_ := wb_mk (i := 70) (by decide +kernel) (by decide +kernel)
theorem wd_71 : (Jvm.Cond.fieldLink "TabledStore$Memory" (16 : Nat) "TabledStore$Memory" "spare" "[I") ∈ WB_ := wb_mk (i := 71) (by decide +kernel) (by decide +kernel)
theorem wd_72 : (Jvm.Cond.fieldLink "TabledStore$Memory" (25 : Nat) "TabledStore$Memory" "spareCount" "I") ∈ WB_ := wb_mk (i := 72) (by decide +kernel) (by decide +kernel)
theorem wd_73 : (Jvm.Cond.fieldLink "TabledStore$Memory" (103 : Nat) "TabledStore$Memory" "lastIdentity" "I") ∈ WB_ := wb_mk (i := 73) (by decide +kernel) (by decide +kernel)
theorem wd_74 : (Jvm.Cond.fieldLink "TabledStore$Memory" (19 : Nat) "TabledStore$Memory" "reached" "[I") ∈ WB_ := wb_mk (i := 74) (by decide +kernel) (by decide +kernel)
theorem wd_75 : (Jvm.Cond.fieldLink "TabledStore$Memory" (134 : Nat) "TabledStore$Memory" "reachedCount" "I") ∈ WB_ := wb_mk (i := 75) (by decide +kernel) (by decide +kernel)
theorem wd_76 : (Jvm.Cond.fieldLink "TabledStore$Memory" (22 : Nat) "TabledStore$Memory" "roundOf" "[I") ∈ WB_ := wb_mk (i := 76) (by decide +kernel) (by decide +kernel)
theorem wd_77 : (Jvm.Cond.fieldLink "TabledStore$Memory" (131 : Nat) "TabledStore$Memory" "round" "I") ∈ WB_ := wb_mk (i := 77) (by decide +kernel) (by decide +kernel)
theorem wd_78 : (Jvm.Cond.fieldLink "TabledStore$Memory" (29 : Nat) "TabledStore$Memory" "settled" "Z") ∈ WB_ := wb_mk (i := 78) (by decide +kernel) (by decide +kernel)
theorem wd_103 : (Jvm.Cond.fieldLink "TabledStore" (9 : Nat) "TabledStore" "registers" "[I") ∈ WB_ := wb_mk (i := 103) (by decide +kernel) (by decide +kernel)
theorem wd_104 : (Jvm.Cond.fieldLink "TabledStore" (23 : Nat) "TabledStore" "memory" "LTabledStore$Memory;") ∈ WB_ := wb_mk (i := 104) (by decide +kernel) (by decide +kernel)
theorem wd_114 : (Jvm.Cond.methodLink "TabledStore" (125 : Nat) ({ cls := "TabledStore$Memory", name := "settle", desc := "([I)V" } : Jvm.MethodName)) ∈ WB_ := wb_mk (i := 114) (by decide +kernel) (by decide +kernel)
theorem wd_115 : (Jvm.Cond.instanceMethod ({ cls := "TabledStore$Memory", name := "settle", desc := "([I)V" } : Jvm.MethodName)) ∈ WB_ := wb_mk (i := 115) (by decide +kernel) (by decide +kernel)
theorem wd_116 : (Jvm.Cond.selects "TabledStore$Memory" ({ cls := "TabledStore$Memory", name := "settle", desc := "([I)V" } : Jvm.MethodName) ({ cls := "TabledStore$Memory", name := "settle", desc := "([I)V" } : Jvm.MethodName)) ∈ WB_ := wb_mk (i := 116) (by decide +kernel) (by decide +kernel)
theorem wd_117 : (Jvm.Cond.code ({ cls := "TabledStore$Memory", name := "settle", desc := "([I)V" } : Jvm.MethodName) prog_2_method_34_code (6 : Nat) (Option.none : Option Jvm.ClassFile.FieldType)) ∈ WB_ := wb_mk (i := 117) (by decide +kernel) (by decide +kernel)
theorem wd_118 : (Jvm.Cond.methodLink "TabledStore$Memory" (116 : Nat) ({ cls := "TabledStore$Memory", name := "startRound", desc := "()V" } : Jvm.MethodName)) ∈ WB_ := wb_mk (i := 118) (by decide +kernel) (by decide +kernel)
theorem wd_120 : (Jvm.Cond.instanceMethod ({ cls := "TabledStore$Memory", name := "startRound", desc := "()V" } : Jvm.MethodName)) ∈ WB_ := wb_mk (i := 120) (by decide +kernel) (by decide +kernel)
theorem wd_121 : (Jvm.Cond.code ({ cls := "TabledStore$Memory", name := "startRound", desc := "()V" } : Jvm.MethodName) prog_2_method_36_code (1 : Nat) (Option.none : Option Jvm.ClassFile.FieldType)) ∈ WB_ := wb_mk (i := 121) (by decide +kernel) (by decide +kernel)
theorem wd_122 : (Jvm.Cond.methodLink "TabledStore$Memory" (119 : Nat) ({ cls := "TabledStore$Memory", name := "reach", desc := "(I)V" } : Jvm.MethodName)) ∈ WB_ := wb_mk (i := 122) (by decide +kernel) (by decide +kernel)
theorem wd_124 : (Jvm.Cond.instanceMethod ({ cls := "TabledStore$Memory", name := "reach", desc := "(I)V" } : Jvm.MethodName)) ∈ WB_ := wb_mk (i := 124) (by decide +kernel) (by decide +kernel)
theorem wd_125 : (Jvm.Cond.code ({ cls := "TabledStore$Memory", name := "reach", desc := "(I)V" } : Jvm.MethodName) prog_2_method_38_code (3 : Nat) (Option.none : Option Jvm.ClassFile.FieldType)) ∈ WB_ := wb_mk (i := 125) (by decide +kernel) (by decide +kernel)
theorem wd_126 : (Jvm.Cond.methodLink "TabledStore$Memory" (61 : Nat) ({ cls := "TabledStore$Value", name := "isObject", desc := "(I)Z" } : Jvm.MethodName)) ∈ WB_ := wb_mk (i := 126) (by decide +kernel) (by decide +kernel)
theorem wd_127 : (Jvm.Cond.static ({ cls := "TabledStore$Value", name := "isObject", desc := "(I)Z" } : Jvm.MethodName)) ∈ WB_ := wb_mk (i := 127) (by decide +kernel) (by decide +kernel)
theorem wd_128 : (Jvm.Cond.code ({ cls := "TabledStore$Value", name := "isObject", desc := "(I)Z" } : Jvm.MethodName) prog_3_method_5_code (1 : Nat) (Option.some Jvm.ClassFile.FieldType.boolean)) ∈ WB_ := wb_mk (i := 128) (by decide +kernel) (by decide +kernel)
theorem wd_129 : (Jvm.Cond.methodLink "TabledStore$Memory" (49 : Nat) ({ cls := "TabledStore$Value", name := "toEntry", desc := "(I)I" } : Jvm.MethodName)) ∈ WB_ := wb_mk (i := 129) (by decide +kernel) (by decide +kernel)
theorem wd_130 : (Jvm.Cond.static ({ cls := "TabledStore$Value", name := "toEntry", desc := "(I)I" } : Jvm.MethodName)) ∈ WB_ := wb_mk (i := 130) (by decide +kernel) (by decide +kernel)
theorem wd_131 : (Jvm.Cond.code ({ cls := "TabledStore$Value", name := "toEntry", desc := "(I)I" } : Jvm.MethodName) prog_3_method_7_code (1 : Nat) (Option.some Jvm.ClassFile.FieldType.int)) ∈ WB_ := wb_mk (i := 131) (by decide +kernel) (by decide +kernel)
theorem wd_132 : (Jvm.Cond.methodLink "TabledStore$Memory" (122 : Nat) ({ cls := "TabledStore$Memory", name := "spread", desc := "()V" } : Jvm.MethodName)) ∈ WB_ := wb_mk (i := 132) (by decide +kernel) (by decide +kernel)
theorem wd_134 : (Jvm.Cond.instanceMethod ({ cls := "TabledStore$Memory", name := "spread", desc := "()V" } : Jvm.MethodName)) ∈ WB_ := wb_mk (i := 134) (by decide +kernel) (by decide +kernel)
theorem wd_135 : (Jvm.Cond.code ({ cls := "TabledStore$Memory", name := "spread", desc := "()V" } : Jvm.MethodName) prog_2_method_39_code (5 : Nat) (Option.none : Option Jvm.ClassFile.FieldType)) ∈ WB_ := wb_mk (i := 135) (by decide +kernel) (by decide +kernel)
theorem wd_136 : (Jvm.Cond.methodLink "TabledStore$Memory" (55 : Nat) ({ cls := "TabledStore$Memory", name := "place", desc := "(I)I" } : Jvm.MethodName)) ∈ WB_ := wb_mk (i := 136) (by decide +kernel) (by decide +kernel)
theorem wd_138 : (Jvm.Cond.instanceMethod ({ cls := "TabledStore$Memory", name := "place", desc := "(I)I" } : Jvm.MethodName)) ∈ WB_ := wb_mk (i := 138) (by decide +kernel) (by decide +kernel)
theorem wd_139 : (Jvm.Cond.code ({ cls := "TabledStore$Memory", name := "place", desc := "(I)I" } : Jvm.MethodName) prog_2_method_8_code (3 : Nat) (Option.some Jvm.ClassFile.FieldType.int)) ∈ WB_ := wb_mk (i := 139) (by decide +kernel) (by decide +kernel)
theorem wd_140 : (Jvm.Cond.methodLink "TabledStore$Memory" (58 : Nat) ({ cls := "TabledStore$Memory", name := "word", desc := "(I)I" } : Jvm.MethodName)) ∈ WB_ := wb_mk (i := 140) (by decide +kernel) (by decide +kernel)
theorem wd_142 : (Jvm.Cond.instanceMethod ({ cls := "TabledStore$Memory", name := "word", desc := "(I)I" } : Jvm.MethodName)) ∈ WB_ := wb_mk (i := 142) (by decide +kernel) (by decide +kernel)
theorem wd_143 : (Jvm.Cond.code ({ cls := "TabledStore$Memory", name := "word", desc := "(I)I" } : Jvm.MethodName) prog_2_method_5_code (2 : Nat) (Option.some Jvm.ClassFile.FieldType.int)) ∈ WB_ := wb_mk (i := 143) (by decide +kernel) (by decide +kernel)
theorem wd_144 : (Jvm.Cond.methodLink "TabledStore$Memory" (137 : Nat) ({ cls := "TabledStore$Memory", name := "endOfSlots", desc := "(I)I" } : Jvm.MethodName)) ∈ WB_ := wb_mk (i := 144) (by decide +kernel) (by decide +kernel)
theorem wd_146 : (Jvm.Cond.instanceMethod ({ cls := "TabledStore$Memory", name := "endOfSlots", desc := "(I)I" } : Jvm.MethodName)) ∈ WB_ := wb_mk (i := 146) (by decide +kernel) (by decide +kernel)
theorem wd_147 : (Jvm.Cond.code ({ cls := "TabledStore$Memory", name := "endOfSlots", desc := "(I)I" } : Jvm.MethodName) prog_2_method_40_code (3 : Nat) (Option.some Jvm.ClassFile.FieldType.int)) ∈ WB_ := wb_mk (i := 147) (by decide +kernel) (by decide +kernel)
theorem wd_148 : (Jvm.Cond.methodLink "TabledStore$Memory" (33 : Nat) ({ cls := "TabledStore$Memory", name := "isOfBytes", desc := "(I)Z" } : Jvm.MethodName)) ∈ WB_ := wb_mk (i := 148) (by decide +kernel) (by decide +kernel)
theorem wd_149 : (Jvm.Cond.static ({ cls := "TabledStore$Memory", name := "isOfBytes", desc := "(I)Z" } : Jvm.MethodName)) ∈ WB_ := wb_mk (i := 149) (by decide +kernel) (by decide +kernel)
theorem wd_150 : (Jvm.Cond.code ({ cls := "TabledStore$Memory", name := "isOfBytes", desc := "(I)Z" } : Jvm.MethodName) prog_2_method_3_code (1 : Nat) (Option.some Jvm.ClassFile.FieldType.boolean)) ∈ WB_ := wb_mk (i := 150) (by decide +kernel) (by decide +kernel)
theorem wd_151 : (Jvm.Cond.methodLink "TabledStore$Memory" (93 : Nat) ({ cls := "TabledStore$Memory", name := "bodyWords", desc := "(I)I" } : Jvm.MethodName)) ∈ WB_ := wb_mk (i := 151) (by decide +kernel) (by decide +kernel)
theorem wd_152 : (Jvm.Cond.static ({ cls := "TabledStore$Memory", name := "bodyWords", desc := "(I)I" } : Jvm.MethodName)) ∈ WB_ := wb_mk (i := 152) (by decide +kernel) (by decide +kernel)
theorem wd_153 : (Jvm.Cond.code ({ cls := "TabledStore$Memory", name := "bodyWords", desc := "(I)I" } : Jvm.MethodName) prog_2_method_4_code (2 : Nat) (Option.some Jvm.ClassFile.FieldType.int)) ∈ WB_ := wb_mk (i := 153) (by decide +kernel) (by decide +kernel)
theorem wd_154 : (Jvm.Cond.methodLink "TabledStore$Memory" (140 : Nat) ({ cls := "java/lang/Math", name := "min", desc := "(II)I" } : Jvm.MethodName)) ∈ WB_ := wb_mk (i := 154) (by decide +kernel) (by decide +kernel)
theorem wd_155 : (Jvm.Cond.static ({ cls := "java/lang/Math", name := "min", desc := "(II)I" } : Jvm.MethodName)) ∈ WB_ := wb_mk (i := 155) (by decide +kernel) (by decide +kernel)
theorem wd_156 : (Jvm.Cond.code ({ cls := "java/lang/Math", name := "min", desc := "(II)I" } : Jvm.MethodName) prog_9_method_69_code (2 : Nat) (Option.some Jvm.ClassFile.FieldType.int)) ∈ WB_ := wb_mk (i := 156) (by decide +kernel) (by decide +kernel)
theorem wd_157 : (Jvm.Cond.methodLink "TabledStore$Memory" (37 : Nat) ({ cls := "java/lang/Math", name := "max", desc := "(II)I" } : Jvm.MethodName)) ∈ WB_ := wb_mk (i := 157) (by decide +kernel) (by decide +kernel)
theorem wd_158 : (Jvm.Cond.static ({ cls := "java/lang/Math", name := "max", desc := "(II)I" } : Jvm.MethodName)) ∈ WB_ := wb_mk (i := 158) (by decide +kernel) (by decide +kernel)
theorem wd_159 : (Jvm.Cond.code ({ cls := "java/lang/Math", name := "max", desc := "(II)I" } : Jvm.MethodName) prog_9_method_65_code (2 : Nat) (Option.some Jvm.ClassFile.FieldType.int)) ∈ WB_ := wb_mk (i := 159) (by decide +kernel) (by decide +kernel)
theorem wd_160 : (Jvm.Cond.methodLink "TabledStore$Memory" (125 : Nat) ({ cls := "TabledStore$Memory", name := "slide", desc := "()V" } : Jvm.MethodName)) ∈ WB_ := wb_mk (i := 160) (by decide +kernel) (by decide +kernel)
theorem wd_162 : (Jvm.Cond.instanceMethod ({ cls := "TabledStore$Memory", name := "slide", desc := "()V" } : Jvm.MethodName)) ∈ WB_ := wb_mk (i := 162) (by decide +kernel) (by decide +kernel)
theorem wd_163 : (Jvm.Cond.code ({ cls := "TabledStore$Memory", name := "slide", desc := "()V" } : Jvm.MethodName) prog_2_method_42_code (5 : Nat) (Option.none : Option Jvm.ClassFile.FieldType)) ∈ WB_ := wb_mk (i := 163) (by decide +kernel) (by decide +kernel)
theorem wd_164 : (Jvm.Cond.methodLink "TabledStore$Memory" (143 : Nat) ({ cls := "TabledStore$Memory", name := "bodyWordsAt", desc := "(I)I" } : Jvm.MethodName)) ∈ WB_ := wb_mk (i := 164) (by decide +kernel) (by decide +kernel)
theorem wd_166 : (Jvm.Cond.instanceMethod ({ cls := "TabledStore$Memory", name := "bodyWordsAt", desc := "(I)I" } : Jvm.MethodName)) ∈ WB_ := wb_mk (i := 166) (by decide +kernel) (by decide +kernel)
theorem wd_167 : (Jvm.Cond.code ({ cls := "TabledStore$Memory", name := "bodyWordsAt", desc := "(I)I" } : Jvm.MethodName) prog_2_method_41_code (2 : Nat) (Option.some Jvm.ClassFile.FieldType.int)) ∈ WB_ := wb_mk (i := 167) (by decide +kernel) (by decide +kernel)
theorem wd_168 : (Jvm.Cond.methodLink "TabledStore$Memory" (128 : Nat) ({ cls := "TabledStore$Memory", name := "isReached", desc := "(I)Z" } : Jvm.MethodName)) ∈ WB_ := wb_mk (i := 168) (by decide +kernel) (by decide +kernel)
theorem wd_170 : (Jvm.Cond.instanceMethod ({ cls := "TabledStore$Memory", name := "isReached", desc := "(I)Z" } : Jvm.MethodName)) ∈ WB_ := wb_mk (i := 170) (by decide +kernel) (by decide +kernel)
theorem wd_171 : (Jvm.Cond.code ({ cls := "TabledStore$Memory", name := "isReached", desc := "(I)Z" } : Jvm.MethodName) prog_2_method_37_code (2 : Nat) (Option.some Jvm.ClassFile.FieldType.boolean)) ∈ WB_ := wb_mk (i := 171) (by decide +kernel) (by decide +kernel)
theorem wd_172 : (Jvm.Cond.methodLink "TabledStore$Memory" (112 : Nat) ({ cls := "TabledStore$Memory", name := "copyWords", desc := "(III)V" } : Jvm.MethodName)) ∈ WB_ := wb_mk (i := 172) (by decide +kernel) (by decide +kernel)
theorem wd_174 : (Jvm.Cond.instanceMethod ({ cls := "TabledStore$Memory", name := "copyWords", desc := "(III)V" } : Jvm.MethodName)) ∈ WB_ := wb_mk (i := 174) (by decide +kernel) (by decide +kernel)
theorem wd_175 : (Jvm.Cond.code ({ cls := "TabledStore$Memory", name := "copyWords", desc := "(III)V" } : Jvm.MethodName) prog_2_method_7_code (4 : Nat) (Option.none : Option Jvm.ClassFile.FieldType)) ∈ WB_ := wb_mk (i := 175) (by decide +kernel) (by decide +kernel)
theorem wd_176 : (Jvm.Cond.methodLink "TabledStore$Memory" (43 : Nat) ({ cls := "java/lang/System", name := "arraycopy", desc := "(Ljava/lang/Object;ILjava/lang/Object;II)V" } : Jvm.MethodName)) ∈ WB_ := wb_mk (i := 176) (by decide +kernel) (by decide +kernel)
theorem wd_177 : (Jvm.Cond.static ({ cls := "java/lang/System", name := "arraycopy", desc := "(Ljava/lang/Object;ILjava/lang/Object;II)V" } : Jvm.MethodName)) ∈ WB_ := wb_mk (i := 177) (by decide +kernel) (by decide +kernel)
theorem wd_178 : (Jvm.Cond.native ({ cls := "java/lang/System", name := "arraycopy", desc := "(Ljava/lang/Object;ILjava/lang/Object;II)V" } : Jvm.MethodName)) ∈ WB_ := wb_mk (i := 178) (by decide +kernel) (by decide +kernel)
theorem wd_179 : (Jvm.Cond.methodLink "TabledStore$Memory" (106 : Nat) ({ cls := "TabledStore$Memory", name := "seat", desc := "(II)V" } : Jvm.MethodName)) ∈ WB_ := wb_mk (i := 179) (by decide +kernel) (by decide +kernel)
theorem wd_181 : (Jvm.Cond.instanceMethod ({ cls := "TabledStore$Memory", name := "seat", desc := "(II)V" } : Jvm.MethodName)) ∈ WB_ := wb_mk (i := 181) (by decide +kernel) (by decide +kernel)
theorem wd_182 : (Jvm.Cond.code ({ cls := "TabledStore$Memory", name := "seat", desc := "(II)V" } : Jvm.MethodName) prog_2_method_33_code (3 : Nat) (Option.none : Option Jvm.ClassFile.FieldType)) ∈ WB_ := wb_mk (i := 182) (by decide +kernel) (by decide +kernel)
theorem wd_183 : (Jvm.Cond.methodLink "TabledStore$Memory" (83 : Nat) ({ cls := "TabledStore$Memory", name := "setWord", desc := "(II)V" } : Jvm.MethodName)) ∈ WB_ := wb_mk (i := 183) (by decide +kernel) (by decide +kernel)
theorem wd_185 : (Jvm.Cond.instanceMethod ({ cls := "TabledStore$Memory", name := "setWord", desc := "(II)V" } : Jvm.MethodName)) ∈ WB_ := wb_mk (i := 185) (by decide +kernel) (by decide +kernel)
theorem wd_186 : (Jvm.Cond.code ({ cls := "TabledStore$Memory", name := "setWord", desc := "(II)V" } : Jvm.MethodName) prog_2_method_6_code (3 : Nat) (Option.none : Option Jvm.ClassFile.FieldType)) ∈ WB_ := wb_mk (i := 186) (by decide +kernel) (by decide +kernel)
theorem wd_187 : (Jvm.Cond.methodLink "TabledStore$Memory" (146 : Nat) ({ cls := "TabledStore$Memory", name := "giveBackEntry", desc := "(I)V" } : Jvm.MethodName)) ∈ WB_ := wb_mk (i := 187) (by decide +kernel) (by decide +kernel)
theorem wd_189 : (Jvm.Cond.instanceMethod ({ cls := "TabledStore$Memory", name := "giveBackEntry", desc := "(I)V" } : Jvm.MethodName)) ∈ WB_ := wb_mk (i := 189) (by decide +kernel) (by decide +kernel)
theorem wd_190 : (Jvm.Cond.code ({ cls := "TabledStore$Memory", name := "giveBackEntry", desc := "(I)V" } : Jvm.MethodName) prog_2_method_31_code (2 : Nat) (Option.none : Option Jvm.ClassFile.FieldType)) ∈ WB_ := wb_mk (i := 190) (by decide +kernel) (by decide +kernel)
theorem wd_191 : (Jvm.Cond.methodLink "TabledStore" (129 : Nat) ({ cls := "TabledStore$Memory", name := "freeWords", desc := "()I" } : Jvm.MethodName)) ∈ WB_ := wb_mk (i := 191) (by decide +kernel) (by decide +kernel)
theorem wd_192 : (Jvm.Cond.instanceMethod ({ cls := "TabledStore$Memory", name := "freeWords", desc := "()I" } : Jvm.MethodName)) ∈ WB_ := wb_mk (i := 192) (by decide +kernel) (by decide +kernel)
theorem wd_193 : (Jvm.Cond.selects "TabledStore$Memory" ({ cls := "TabledStore$Memory", name := "freeWords", desc := "()I" } : Jvm.MethodName) ({ cls := "TabledStore$Memory", name := "freeWords", desc := "()I" } : Jvm.MethodName)) ∈ WB_ := wb_mk (i := 193) (by decide +kernel) (by decide +kernel)
theorem wd_194 : (Jvm.Cond.code ({ cls := "TabledStore$Memory", name := "freeWords", desc := "()I" } : Jvm.MethodName) prog_2_method_26_code (1 : Nat) (Option.some Jvm.ClassFile.FieldType.int)) ∈ WB_ := wb_mk (i := 194) (by decide +kernel) (by decide +kernel)
theorem wd_199 : (Jvm.Cond.methodLink "TabledStore" (133 : Nat) ({ cls := "TabledStore$Memory", name := "freeEntries", desc := "()I" } : Jvm.MethodName)) ∈ WB_ := wb_mk (i := 199) (by decide +kernel) (by decide +kernel)
theorem wd_200 : (Jvm.Cond.instanceMethod ({ cls := "TabledStore$Memory", name := "freeEntries", desc := "()I" } : Jvm.MethodName)) ∈ WB_ := wb_mk (i := 200) (by decide +kernel) (by decide +kernel)
theorem wd_201 : (Jvm.Cond.selects "TabledStore$Memory" ({ cls := "TabledStore$Memory", name := "freeEntries", desc := "()I" } : Jvm.MethodName) ({ cls := "TabledStore$Memory", name := "freeEntries", desc := "()I" } : Jvm.MethodName)) ∈ WB_ := wb_mk (i := 201) (by decide +kernel) (by decide +kernel)
theorem wd_202 : (Jvm.Cond.code ({ cls := "TabledStore$Memory", name := "freeEntries", desc := "()I" } : Jvm.MethodName) prog_2_method_27_code (1 : Nat) (Option.some Jvm.ClassFile.FieldType.int)) ∈ WB_ := wb_mk (i := 202) (by decide +kernel) (by decide +kernel)
theorem wd_214 : (Jvm.Cond.methodLink "TabledStore" (27 : Nat) ({ cls := "TabledStore", name := "needRegister", desc := "(I)V" } : Jvm.MethodName)) ∈ WB_ := wb_mk (i := 214) (by decide +kernel) (by decide +kernel)
theorem wd_215 : (Jvm.Cond.static ({ cls := "TabledStore", name := "needRegister", desc := "(I)V" } : Jvm.MethodName)) ∈ WB_ := wb_mk (i := 215) (by decide +kernel) (by decide +kernel)
theorem wd_216 : (Jvm.Cond.code ({ cls := "TabledStore", name := "needRegister", desc := "(I)V" } : Jvm.MethodName) prog_1_method_28_code (1 : Nat) (Option.none : Option Jvm.ClassFile.FieldType)) ∈ WB_ := wb_mk (i := 216) (by decide +kernel) (by decide +kernel)
theorem wd_217 : (Jvm.Cond.classLink "TabledStore" (157 : Nat) "java/lang/IllegalArgumentException") ∈ WB_ := wb_mk (i := 217) (by decide +kernel) (by decide +kernel)
theorem wd_285 : (Jvm.Cond.constant "TabledStore" (31 : Nat) (-1073741824 : Int32)) ∈ WB_ := wb_mk (i := 285) (by decide +kernel) (by decide +kernel)
theorem wd_286 : (Jvm.Cond.constant "TabledStore" (32 : Nat) (1073741823 : Int32)) ∈ WB_ := wb_mk (i := 286) (by decide +kernel) (by decide +kernel)
theorem wd_287 : (Jvm.Cond.methodLink "TabledStore" (33 : Nat) ({ cls := "TabledStore", name := "needBetween", desc := "(III)V" } : Jvm.MethodName)) ∈ WB_ := wb_mk (i := 287) (by decide +kernel) (by decide +kernel)
theorem wd_288 : (Jvm.Cond.static ({ cls := "TabledStore", name := "needBetween", desc := "(III)V" } : Jvm.MethodName)) ∈ WB_ := wb_mk (i := 288) (by decide +kernel) (by decide +kernel)
theorem wd_289 : (Jvm.Cond.code ({ cls := "TabledStore", name := "needBetween", desc := "(III)V" } : Jvm.MethodName) prog_1_method_27_code (3 : Nat) (Option.none : Option Jvm.ClassFile.FieldType)) ∈ WB_ := wb_mk (i := 289) (by decide +kernel) (by decide +kernel)
theorem wd_291 : (Jvm.Cond.methodLink "TabledStore" (37 : Nat) ({ cls := "TabledStore$Value", name := "ofNumber", desc := "(I)I" } : Jvm.MethodName)) ∈ WB_ := wb_mk (i := 291) (by decide +kernel) (by decide +kernel)
theorem wd_292 : (Jvm.Cond.static ({ cls := "TabledStore$Value", name := "ofNumber", desc := "(I)I" } : Jvm.MethodName)) ∈ WB_ := wb_mk (i := 292) (by decide +kernel) (by decide +kernel)
theorem wd_293 : (Jvm.Cond.code ({ cls := "TabledStore$Value", name := "ofNumber", desc := "(I)I" } : Jvm.MethodName) prog_3_method_2_code (1 : Nat) (Option.some Jvm.ClassFile.FieldType.int)) ∈ WB_ := wb_mk (i := 293) (by decide +kernel) (by decide +kernel)
theorem wd_294 : (Jvm.Cond.methodLink "TabledStore" (43 : Nat) ({ cls := "TabledStore", name := "setRegister", desc := "(II)V" } : Jvm.MethodName)) ∈ WB_ := wb_mk (i := 294) (by decide +kernel) (by decide +kernel)
theorem wd_296 : (Jvm.Cond.instanceMethod ({ cls := "TabledStore", name := "setRegister", desc := "(II)V" } : Jvm.MethodName)) ∈ WB_ := wb_mk (i := 296) (by decide +kernel) (by decide +kernel)
theorem wd_297 : (Jvm.Cond.code ({ cls := "TabledStore", name := "setRegister", desc := "(II)V" } : Jvm.MethodName) prog_1_method_25_code (3 : Nat) (Option.none : Option Jvm.ClassFile.FieldType)) ∈ WB_ := wb_mk (i := 297) (by decide +kernel) (by decide +kernel)
theorem wd_298 : (Jvm.Cond.methodLink "TabledStore" (154 : Nat) ({ cls := "TabledStore$Memory", name := "letGo", desc := "(I)V" } : Jvm.MethodName)) ∈ WB_ := wb_mk (i := 298) (by decide +kernel) (by decide +kernel)
theorem wd_299 : (Jvm.Cond.instanceMethod ({ cls := "TabledStore$Memory", name := "letGo", desc := "(I)V" } : Jvm.MethodName)) ∈ WB_ := wb_mk (i := 299) (by decide +kernel) (by decide +kernel)
theorem wd_300 : (Jvm.Cond.selects "TabledStore$Memory" ({ cls := "TabledStore$Memory", name := "letGo", desc := "(I)V" } : Jvm.MethodName) ({ cls := "TabledStore$Memory", name := "letGo", desc := "(I)V" } : Jvm.MethodName)) ∈ WB_ := wb_mk (i := 300) (by decide +kernel) (by decide +kernel)
theorem wd_301 : (Jvm.Cond.code ({ cls := "TabledStore$Memory", name := "letGo", desc := "(I)V" } : Jvm.MethodName) prog_2_method_25_code (2 : Nat) (Option.none : Option Jvm.ClassFile.FieldType)) ∈ WB_ := wb_mk (i := 301) (by decide +kernel) (by decide +kernel)
theorem wd_324 : (Jvm.Cond.methodLink "TabledStore" (46 : Nat) ({ cls := "TabledStore$Memory", name := "shape", desc := "(IZ)I" } : Jvm.MethodName)) ∈ WB_ := wb_mk (i := 324) (by decide +kernel) (by decide +kernel)
theorem wd_325 : (Jvm.Cond.static ({ cls := "TabledStore$Memory", name := "shape", desc := "(IZ)I" } : Jvm.MethodName)) ∈ WB_ := wb_mk (i := 325) (by decide +kernel) (by decide +kernel)
theorem wd_326 : (Jvm.Cond.code ({ cls := "TabledStore$Memory", name := "shape", desc := "(IZ)I" } : Jvm.MethodName) prog_2_method_2_code (2 : Nat) (Option.some Jvm.ClassFile.FieldType.int)) ∈ WB_ := wb_mk (i := 326) (by decide +kernel) (by decide +kernel)
theorem wd_327 : (Jvm.Cond.methodLink "TabledStore" (50 : Nat) ({ cls := "TabledStore$Memory", name := "build", desc := "(II[I)I" } : Jvm.MethodName)) ∈ WB_ := wb_mk (i := 327) (by decide +kernel) (by decide +kernel)
theorem wd_328 : (Jvm.Cond.instanceMethod ({ cls := "TabledStore$Memory", name := "build", desc := "(II[I)I" } : Jvm.MethodName)) ∈ WB_ := wb_mk (i := 328) (by decide +kernel) (by decide +kernel)
theorem wd_329 : (Jvm.Cond.selects "TabledStore$Memory" ({ cls := "TabledStore$Memory", name := "build", desc := "(II[I)I" } : Jvm.MethodName) ({ cls := "TabledStore$Memory", name := "build", desc := "(II[I)I" } : Jvm.MethodName)) ∈ WB_ := wb_mk (i := 329) (by decide +kernel) (by decide +kernel)
theorem wd_330 : (Jvm.Cond.code ({ cls := "TabledStore$Memory", name := "build", desc := "(II[I)I" } : Jvm.MethodName) prog_2_method_28_code (9 : Nat) (Option.some Jvm.ClassFile.FieldType.int)) ∈ WB_ := wb_mk (i := 330) (by decide +kernel) (by decide +kernel)
theorem wd_331 : (Jvm.Cond.methodLink "TabledStore$Memory" (96 : Nat) ({ cls := "TabledStore$Memory", name := "fits", desc := "(I)Z" } : Jvm.MethodName)) ∈ WB_ := wb_mk (i := 331) (by decide +kernel) (by decide +kernel)
theorem wd_333 : (Jvm.Cond.instanceMethod ({ cls := "TabledStore$Memory", name := "fits", desc := "(I)Z" } : Jvm.MethodName)) ∈ WB_ := wb_mk (i := 333) (by decide +kernel) (by decide +kernel)
theorem wd_334 : (Jvm.Cond.code ({ cls := "TabledStore$Memory", name := "fits", desc := "(I)Z" } : Jvm.MethodName) prog_2_method_30_code (2 : Nat) (Option.some Jvm.ClassFile.FieldType.boolean)) ∈ WB_ := wb_mk (i := 334) (by decide +kernel) (by decide +kernel)
theorem wd_335 : (Jvm.Cond.methodLink "TabledStore$Memory" (99 : Nat) ({ cls := "TabledStore$Memory", name := "settle", desc := "([I)V" } : Jvm.MethodName)) ∈ WB_ := wb_mk (i := 335) (by decide +kernel) (by decide +kernel)
theorem wd_336 : (Jvm.Cond.methodLink "TabledStore$Memory" (109 : Nat) ({ cls := "TabledStore$Value", name := "ofEntry", desc := "(I)I" } : Jvm.MethodName)) ∈ WB_ := wb_mk (i := 336) (by decide +kernel) (by decide +kernel)
theorem wd_337 : (Jvm.Cond.static ({ cls := "TabledStore$Value", name := "ofEntry", desc := "(I)I" } : Jvm.MethodName)) ∈ WB_ := wb_mk (i := 337) (by decide +kernel) (by decide +kernel)
theorem wd_338 : (Jvm.Cond.code ({ cls := "TabledStore$Value", name := "ofEntry", desc := "(I)I" } : Jvm.MethodName) prog_3_method_3_code (1 : Nat) (Option.some Jvm.ClassFile.FieldType.int)) ∈ WB_ := wb_mk (i := 338) (by decide +kernel) (by decide +kernel)
theorem wd_339 : (Jvm.Cond.methodLink "TabledStore" (54 : Nat) ({ cls := "TabledStore", name := "needMade", desc := "(I)V" } : Jvm.MethodName)) ∈ WB_ := wb_mk (i := 339) (by decide +kernel) (by decide +kernel)
theorem wd_340 : (Jvm.Cond.static ({ cls := "TabledStore", name := "needMade", desc := "(I)V" } : Jvm.MethodName)) ∈ WB_ := wb_mk (i := 340) (by decide +kernel) (by decide +kernel)
theorem wd_341 : (Jvm.Cond.code ({ cls := "TabledStore", name := "needMade", desc := "(I)V" } : Jvm.MethodName) prog_1_method_33_code (1 : Nat) (Option.none : Option Jvm.ClassFile.FieldType)) ∈ WB_ := wb_mk (i := 341) (by decide +kernel) (by decide +kernel)
theorem wd_342 : (Jvm.Cond.classLink "TabledStore" (177 : Nat) "java/lang/UnsupportedOperationException") ∈ WB_ := wb_mk (i := 342) (by decide +kernel) (by decide +kernel)
theorem wd_358 : (Jvm.Cond.methodLink "TabledStore" (57 : Nat) ({ cls := "TabledStore$Memory", name := "identity", desc := "(I)I" } : Jvm.MethodName)) ∈ WB_ := wb_mk (i := 358) (by decide +kernel) (by decide +kernel)
theorem wd_359 : (Jvm.Cond.instanceMethod ({ cls := "TabledStore$Memory", name := "identity", desc := "(I)I" } : Jvm.MethodName)) ∈ WB_ := wb_mk (i := 359) (by decide +kernel) (by decide +kernel)
theorem wd_360 : (Jvm.Cond.selects "TabledStore$Memory" ({ cls := "TabledStore$Memory", name := "identity", desc := "(I)I" } : Jvm.MethodName) ({ cls := "TabledStore$Memory", name := "identity", desc := "(I)I" } : Jvm.MethodName)) ∈ WB_ := wb_mk (i := 360) (by decide +kernel) (by decide +kernel)
theorem wd_361 : (Jvm.Cond.code ({ cls := "TabledStore$Memory", name := "identity", desc := "(I)I" } : Jvm.MethodName) prog_2_method_14_code (2 : Nat) (Option.some Jvm.ClassFile.FieldType.int)) ∈ WB_ := wb_mk (i := 361) (by decide +kernel) (by decide +kernel)
theorem wd_369 : (Jvm.Cond.methodLink "TabledStore" (60 : Nat) ({ cls := "TabledStore", name := "needObject", desc := "(I)V" } : Jvm.MethodName)) ∈ WB_ := wb_mk (i := 369) (by decide +kernel) (by decide +kernel)
theorem wd_371 : (Jvm.Cond.instanceMethod ({ cls := "TabledStore", name := "needObject", desc := "(I)V" } : Jvm.MethodName)) ∈ WB_ := wb_mk (i := 371) (by decide +kernel) (by decide +kernel)
theorem wd_372 : (Jvm.Cond.code ({ cls := "TabledStore", name := "needObject", desc := "(I)V" } : Jvm.MethodName) prog_1_method_29_code (2 : Nat) (Option.none : Option Jvm.ClassFile.FieldType)) ∈ WB_ := wb_mk (i := 372) (by decide +kernel) (by decide +kernel)
theorem wd_373 : (Jvm.Cond.methodLink "TabledStore" (119 : Nat) ({ cls := "TabledStore$Value", name := "isObject", desc := "(I)Z" } : Jvm.MethodName)) ∈ WB_ := wb_mk (i := 373) (by decide +kernel) (by decide +kernel)
theorem wd_375 : (Jvm.Cond.methodLink "TabledStore" (63 : Nat) ({ cls := "TabledStore$Memory", name := "itsClass", desc := "(I)I" } : Jvm.MethodName)) ∈ WB_ := wb_mk (i := 375) (by decide +kernel) (by decide +kernel)
theorem wd_376 : (Jvm.Cond.instanceMethod ({ cls := "TabledStore$Memory", name := "itsClass", desc := "(I)I" } : Jvm.MethodName)) ∈ WB_ := wb_mk (i := 376) (by decide +kernel) (by decide +kernel)
theorem wd_377 : (Jvm.Cond.selects "TabledStore$Memory" ({ cls := "TabledStore$Memory", name := "itsClass", desc := "(I)I" } : Jvm.MethodName) ({ cls := "TabledStore$Memory", name := "itsClass", desc := "(I)I" } : Jvm.MethodName)) ∈ WB_ := wb_mk (i := 377) (by decide +kernel) (by decide +kernel)
theorem wd_378 : (Jvm.Cond.code ({ cls := "TabledStore$Memory", name := "itsClass", desc := "(I)I" } : Jvm.MethodName) prog_2_method_15_code (2 : Nat) (Option.some Jvm.ClassFile.FieldType.int)) ∈ WB_ := wb_mk (i := 378) (by decide +kernel) (by decide +kernel)
theorem wd_379 : (Jvm.Cond.methodLink "TabledStore" (66 : Nat) ({ cls := "TabledStore$Memory", name := "shapeOf", desc := "(I)I" } : Jvm.MethodName)) ∈ WB_ := wb_mk (i := 379) (by decide +kernel) (by decide +kernel)
theorem wd_380 : (Jvm.Cond.instanceMethod ({ cls := "TabledStore$Memory", name := "shapeOf", desc := "(I)I" } : Jvm.MethodName)) ∈ WB_ := wb_mk (i := 380) (by decide +kernel) (by decide +kernel)
theorem wd_381 : (Jvm.Cond.selects "TabledStore$Memory" ({ cls := "TabledStore$Memory", name := "shapeOf", desc := "(I)I" } : Jvm.MethodName) ({ cls := "TabledStore$Memory", name := "shapeOf", desc := "(I)I" } : Jvm.MethodName)) ∈ WB_ := wb_mk (i := 381) (by decide +kernel) (by decide +kernel)
theorem wd_382 : (Jvm.Cond.code ({ cls := "TabledStore$Memory", name := "shapeOf", desc := "(I)I" } : Jvm.MethodName) prog_2_method_9_code (2 : Nat) (Option.some Jvm.ClassFile.FieldType.int)) ∈ WB_ := wb_mk (i := 382) (by decide +kernel) (by decide +kernel)
theorem wd_383 : (Jvm.Cond.methodLink "TabledStore" (69 : Nat) ({ cls := "TabledStore$Memory", name := "fillLike", desc := "(II)V" } : Jvm.MethodName)) ∈ WB_ := wb_mk (i := 383) (by decide +kernel) (by decide +kernel)
theorem wd_384 : (Jvm.Cond.instanceMethod ({ cls := "TabledStore$Memory", name := "fillLike", desc := "(II)V" } : Jvm.MethodName)) ∈ WB_ := wb_mk (i := 384) (by decide +kernel) (by decide +kernel)
theorem wd_385 : (Jvm.Cond.selects "TabledStore$Memory" ({ cls := "TabledStore$Memory", name := "fillLike", desc := "(II)V" } : Jvm.MethodName) ({ cls := "TabledStore$Memory", name := "fillLike", desc := "(II)V" } : Jvm.MethodName)) ∈ WB_ := wb_mk (i := 385) (by decide +kernel) (by decide +kernel)
theorem wd_386 : (Jvm.Cond.code ({ cls := "TabledStore$Memory", name := "fillLike", desc := "(II)V" } : Jvm.MethodName) prog_2_method_29_code (3 : Nat) (Option.none : Option Jvm.ClassFile.FieldType)) ∈ WB_ := wb_mk (i := 386) (by decide +kernel) (by decide +kernel)
theorem wd_387 : (Jvm.Cond.methodLink "TabledStore$Memory" (64 : Nat) ({ cls := "TabledStore$Memory", name := "shapeOf", desc := "(I)I" } : Jvm.MethodName)) ∈ WB_ := wb_mk (i := 387) (by decide +kernel) (by decide +kernel)
theorem wd_395 : (Jvm.Cond.methodLink "TabledStore" (72 : Nat) ({ cls := "TabledStore$Memory", name := "setSlot", desc := "(III)V" } : Jvm.MethodName)) ∈ WB_ := wb_mk (i := 395) (by decide +kernel) (by decide +kernel)
theorem wd_396 : (Jvm.Cond.instanceMethod ({ cls := "TabledStore$Memory", name := "setSlot", desc := "(III)V" } : Jvm.MethodName)) ∈ WB_ := wb_mk (i := 396) (by decide +kernel) (by decide +kernel)
theorem wd_397 : (Jvm.Cond.selects "TabledStore$Memory" ({ cls := "TabledStore$Memory", name := "setSlot", desc := "(III)V" } : Jvm.MethodName) ({ cls := "TabledStore$Memory", name := "setSlot", desc := "(III)V" } : Jvm.MethodName)) ∈ WB_ := wb_mk (i := 397) (by decide +kernel) (by decide +kernel)
theorem wd_398 : (Jvm.Cond.code ({ cls := "TabledStore$Memory", name := "setSlot", desc := "(III)V" } : Jvm.MethodName) prog_2_method_18_code (4 : Nat) (Option.none : Option Jvm.ClassFile.FieldType)) ∈ WB_ := wb_mk (i := 398) (by decide +kernel) (by decide +kernel)
theorem wd_399 : (Jvm.Cond.methodLink "TabledStore$Memory" (73 : Nat) ({ cls := "TabledStore$Memory", name := "overwrite", desc := "(II)V" } : Jvm.MethodName)) ∈ WB_ := wb_mk (i := 399) (by decide +kernel) (by decide +kernel)
theorem wd_401 : (Jvm.Cond.instanceMethod ({ cls := "TabledStore$Memory", name := "overwrite", desc := "(II)V" } : Jvm.MethodName)) ∈ WB_ := wb_mk (i := 401) (by decide +kernel) (by decide +kernel)
theorem wd_402 : (Jvm.Cond.code ({ cls := "TabledStore$Memory", name := "overwrite", desc := "(II)V" } : Jvm.MethodName) prog_2_method_24_code (3 : Nat) (Option.none : Option Jvm.ClassFile.FieldType)) ∈ WB_ := wb_mk (i := 402) (by decide +kernel) (by decide +kernel)
theorem wd_403 : (Jvm.Cond.methodLink "TabledStore$Memory" (86 : Nat) ({ cls := "TabledStore$Memory", name := "letGo", desc := "(I)V" } : Jvm.MethodName)) ∈ WB_ := wb_mk (i := 403) (by decide +kernel) (by decide +kernel)
theorem wd_412 : (Jvm.Cond.methodLink "TabledStore" (75 : Nat) ({ cls := "TabledStore", name := "needSlots", desc := "(I)V" } : Jvm.MethodName)) ∈ WB_ := wb_mk (i := 412) (by decide +kernel) (by decide +kernel)
theorem wd_414 : (Jvm.Cond.instanceMethod ({ cls := "TabledStore", name := "needSlots", desc := "(I)V" } : Jvm.MethodName)) ∈ WB_ := wb_mk (i := 414) (by decide +kernel) (by decide +kernel)
theorem wd_415 : (Jvm.Cond.code ({ cls := "TabledStore", name := "needSlots", desc := "(I)V" } : Jvm.MethodName) prog_1_method_30_code (2 : Nat) (Option.none : Option Jvm.ClassFile.FieldType)) ∈ WB_ := wb_mk (i := 415) (by decide +kernel) (by decide +kernel)
theorem wd_416 : (Jvm.Cond.methodLink "TabledStore" (113 : Nat) ({ cls := "TabledStore$Memory", name := "holdsSlots", desc := "(I)Z" } : Jvm.MethodName)) ∈ WB_ := wb_mk (i := 416) (by decide +kernel) (by decide +kernel)
theorem wd_417 : (Jvm.Cond.instanceMethod ({ cls := "TabledStore$Memory", name := "holdsSlots", desc := "(I)Z" } : Jvm.MethodName)) ∈ WB_ := wb_mk (i := 417) (by decide +kernel) (by decide +kernel)
theorem wd_418 : (Jvm.Cond.selects "TabledStore$Memory" ({ cls := "TabledStore$Memory", name := "holdsSlots", desc := "(I)Z" } : Jvm.MethodName) ({ cls := "TabledStore$Memory", name := "holdsSlots", desc := "(I)Z" } : Jvm.MethodName)) ∈ WB_ := wb_mk (i := 418) (by decide +kernel) (by decide +kernel)
theorem wd_419 : (Jvm.Cond.code ({ cls := "TabledStore$Memory", name := "holdsSlots", desc := "(I)Z" } : Jvm.MethodName) prog_2_method_10_code (2 : Nat) (Option.some Jvm.ClassFile.FieldType.boolean)) ∈ WB_ := wb_mk (i := 419) (by decide +kernel) (by decide +kernel)
theorem wd_421 : (Jvm.Cond.methodLink "TabledStore" (78 : Nat) ({ cls := "TabledStore", name := "needIndex", desc := "(II)V" } : Jvm.MethodName)) ∈ WB_ := wb_mk (i := 421) (by decide +kernel) (by decide +kernel)
theorem wd_423 : (Jvm.Cond.instanceMethod ({ cls := "TabledStore", name := "needIndex", desc := "(II)V" } : Jvm.MethodName)) ∈ WB_ := wb_mk (i := 423) (by decide +kernel) (by decide +kernel)
theorem wd_424 : (Jvm.Cond.code ({ cls := "TabledStore", name := "needIndex", desc := "(II)V" } : Jvm.MethodName) prog_1_method_32_code (3 : Nat) (Option.none : Option Jvm.ClassFile.FieldType)) ∈ WB_ := wb_mk (i := 424) (by decide +kernel) (by decide +kernel)
theorem wd_425 : (Jvm.Cond.methodLink "TabledStore" (98 : Nat) ({ cls := "TabledStore$Memory", name := "count", desc := "(I)I" } : Jvm.MethodName)) ∈ WB_ := wb_mk (i := 425) (by decide +kernel) (by decide +kernel)
theorem wd_426 : (Jvm.Cond.instanceMethod ({ cls := "TabledStore$Memory", name := "count", desc := "(I)I" } : Jvm.MethodName)) ∈ WB_ := wb_mk (i := 426) (by decide +kernel) (by decide +kernel)
theorem wd_427 : (Jvm.Cond.selects "TabledStore$Memory" ({ cls := "TabledStore$Memory", name := "count", desc := "(I)I" } : Jvm.MethodName) ({ cls := "TabledStore$Memory", name := "count", desc := "(I)I" } : Jvm.MethodName)) ∈ WB_ := wb_mk (i := 427) (by decide +kernel) (by decide +kernel)
theorem wd_428 : (Jvm.Cond.code ({ cls := "TabledStore$Memory", name := "count", desc := "(I)I" } : Jvm.MethodName) prog_2_method_12_code (2 : Nat) (Option.some Jvm.ClassFile.FieldType.int)) ∈ WB_ := wb_mk (i := 428) (by decide +kernel) (by decide +kernel)
theorem wd_429 : (Jvm.Cond.classLink "TabledStore" (172 : Nat) "java/lang/IndexOutOfBoundsException") ∈ WB_ := wb_mk (i := 429) (by decide +kernel) (by decide +kernel)
theorem wd_445 : (Jvm.Cond.methodLink "TabledStore" (81 : Nat) ({ cls := "TabledStore$Memory", name := "slot", desc := "(II)I" } : Jvm.MethodName)) ∈ WB_ := wb_mk (i := 445) (by decide +kernel) (by decide +kernel)
theorem wd_446 : (Jvm.Cond.instanceMethod ({ cls := "TabledStore$Memory", name := "slot", desc := "(II)I" } : Jvm.MethodName)) ∈ WB_ := wb_mk (i := 446) (by decide +kernel) (by decide +kernel)
theorem wd_447 : (Jvm.Cond.selects "TabledStore$Memory" ({ cls := "TabledStore$Memory", name := "slot", desc := "(II)I" } : Jvm.MethodName) ({ cls := "TabledStore$Memory", name := "slot", desc := "(II)I" } : Jvm.MethodName)) ∈ WB_ := wb_mk (i := 447) (by decide +kernel) (by decide +kernel)
theorem wd_448 : (Jvm.Cond.code ({ cls := "TabledStore$Memory", name := "slot", desc := "(II)I" } : Jvm.MethodName) prog_2_method_17_code (3 : Nat) (Option.some Jvm.ClassFile.FieldType.int)) ∈ WB_ := wb_mk (i := 448) (by decide +kernel) (by decide +kernel)
theorem wd_463 : (Jvm.Cond.methodLink "TabledStore" (85 : Nat) ({ cls := "TabledStore$Memory", name := "holdsSlot", desc := "(II)Z" } : Jvm.MethodName)) ∈ WB_ := wb_mk (i := 463) (by decide +kernel) (by decide +kernel)
theorem wd_464 : (Jvm.Cond.instanceMethod ({ cls := "TabledStore$Memory", name := "holdsSlot", desc := "(II)Z" } : Jvm.MethodName)) ∈ WB_ := wb_mk (i := 464) (by decide +kernel) (by decide +kernel)
theorem wd_465 : (Jvm.Cond.selects "TabledStore$Memory" ({ cls := "TabledStore$Memory", name := "holdsSlot", desc := "(II)Z" } : Jvm.MethodName) ({ cls := "TabledStore$Memory", name := "holdsSlot", desc := "(II)Z" } : Jvm.MethodName)) ∈ WB_ := wb_mk (i := 465) (by decide +kernel) (by decide +kernel)
theorem wd_466 : (Jvm.Cond.code ({ cls := "TabledStore$Memory", name := "holdsSlot", desc := "(II)Z" } : Jvm.MethodName) prog_2_method_13_code (3 : Nat) (Option.some Jvm.ClassFile.FieldType.boolean)) ∈ WB_ := wb_mk (i := 466) (by decide +kernel) (by decide +kernel)
theorem wd_467 : (Jvm.Cond.methodLink "TabledStore$Memory" (67 : Nat) ({ cls := "TabledStore$Memory", name := "holdsSlots", desc := "(I)Z" } : Jvm.MethodName)) ∈ WB_ := wb_mk (i := 467) (by decide +kernel) (by decide +kernel)
theorem wd_468 : (Jvm.Cond.methodLink "TabledStore$Memory" (70 : Nat) ({ cls := "TabledStore$Memory", name := "count", desc := "(I)I" } : Jvm.MethodName)) ∈ WB_ := wb_mk (i := 468) (by decide +kernel) (by decide +kernel)
theorem wd_483 : (Jvm.Cond.methodLink "TabledStore" (89 : Nat) ({ cls := "TabledStore$Memory", name := "setItsClass", desc := "(II)V" } : Jvm.MethodName)) ∈ WB_ := wb_mk (i := 483) (by decide +kernel) (by decide +kernel)
theorem wd_484 : (Jvm.Cond.instanceMethod ({ cls := "TabledStore$Memory", name := "setItsClass", desc := "(II)V" } : Jvm.MethodName)) ∈ WB_ := wb_mk (i := 484) (by decide +kernel) (by decide +kernel)
theorem wd_485 : (Jvm.Cond.selects "TabledStore$Memory" ({ cls := "TabledStore$Memory", name := "setItsClass", desc := "(II)V" } : Jvm.MethodName) ({ cls := "TabledStore$Memory", name := "setItsClass", desc := "(II)V" } : Jvm.MethodName)) ∈ WB_ := wb_mk (i := 485) (by decide +kernel) (by decide +kernel)
theorem wd_486 : (Jvm.Cond.code ({ cls := "TabledStore$Memory", name := "setItsClass", desc := "(II)V" } : Jvm.MethodName) prog_2_method_16_code (3 : Nat) (Option.none : Option Jvm.ClassFile.FieldType)) ∈ WB_ := wb_mk (i := 486) (by decide +kernel) (by decide +kernel)
theorem wd_494 : (Jvm.Cond.methodLink "TabledStore" (92 : Nat) ({ cls := "TabledStore", name := "needBytes", desc := "(I)V" } : Jvm.MethodName)) ∈ WB_ := wb_mk (i := 494) (by decide +kernel) (by decide +kernel)
theorem wd_496 : (Jvm.Cond.instanceMethod ({ cls := "TabledStore", name := "needBytes", desc := "(I)V" } : Jvm.MethodName)) ∈ WB_ := wb_mk (i := 496) (by decide +kernel) (by decide +kernel)
theorem wd_497 : (Jvm.Cond.code ({ cls := "TabledStore", name := "needBytes", desc := "(I)V" } : Jvm.MethodName) prog_1_method_31_code (2 : Nat) (Option.none : Option Jvm.ClassFile.FieldType)) ∈ WB_ := wb_mk (i := 497) (by decide +kernel) (by decide +kernel)
theorem wd_498 : (Jvm.Cond.methodLink "TabledStore" (148 : Nat) ({ cls := "TabledStore$Memory", name := "holdsBytes", desc := "(I)Z" } : Jvm.MethodName)) ∈ WB_ := wb_mk (i := 498) (by decide +kernel) (by decide +kernel)
theorem wd_499 : (Jvm.Cond.instanceMethod ({ cls := "TabledStore$Memory", name := "holdsBytes", desc := "(I)Z" } : Jvm.MethodName)) ∈ WB_ := wb_mk (i := 499) (by decide +kernel) (by decide +kernel)
theorem wd_500 : (Jvm.Cond.selects "TabledStore$Memory" ({ cls := "TabledStore$Memory", name := "holdsBytes", desc := "(I)Z" } : Jvm.MethodName) ({ cls := "TabledStore$Memory", name := "holdsBytes", desc := "(I)Z" } : Jvm.MethodName)) ∈ WB_ := wb_mk (i := 500) (by decide +kernel) (by decide +kernel)
theorem wd_501 : (Jvm.Cond.code ({ cls := "TabledStore$Memory", name := "holdsBytes", desc := "(I)Z" } : Jvm.MethodName) prog_2_method_11_code (2 : Nat) (Option.some Jvm.ClassFile.FieldType.boolean)) ∈ WB_ := wb_mk (i := 501) (by decide +kernel) (by decide +kernel)
theorem wd_503 : (Jvm.Cond.methodLink "TabledStore" (95 : Nat) ({ cls := "TabledStore$Memory", name := "oneByte", desc := "(II)I" } : Jvm.MethodName)) ∈ WB_ := wb_mk (i := 503) (by decide +kernel) (by decide +kernel)
theorem wd_504 : (Jvm.Cond.instanceMethod ({ cls := "TabledStore$Memory", name := "oneByte", desc := "(II)I" } : Jvm.MethodName)) ∈ WB_ := wb_mk (i := 504) (by decide +kernel) (by decide +kernel)
theorem wd_505 : (Jvm.Cond.selects "TabledStore$Memory" ({ cls := "TabledStore$Memory", name := "oneByte", desc := "(II)I" } : Jvm.MethodName) ({ cls := "TabledStore$Memory", name := "oneByte", desc := "(II)I" } : Jvm.MethodName)) ∈ WB_ := wb_mk (i := 505) (by decide +kernel) (by decide +kernel)
theorem wd_506 : (Jvm.Cond.code ({ cls := "TabledStore$Memory", name := "oneByte", desc := "(II)I" } : Jvm.MethodName) prog_2_method_19_code (3 : Nat) (Option.some Jvm.ClassFile.FieldType.int)) ∈ WB_ := wb_mk (i := 506) (by decide +kernel) (by decide +kernel)
theorem wd_507 : (Jvm.Cond.methodLink "TabledStore$Memory" (77 : Nat) ({ cls := "TabledStore$Memory", name := "byteFrom", desc := "(II)I" } : Jvm.MethodName)) ∈ WB_ := wb_mk (i := 507) (by decide +kernel) (by decide +kernel)
theorem wd_509 : (Jvm.Cond.instanceMethod ({ cls := "TabledStore$Memory", name := "byteFrom", desc := "(II)I" } : Jvm.MethodName)) ∈ WB_ := wb_mk (i := 509) (by decide +kernel) (by decide +kernel)
theorem wd_510 : (Jvm.Cond.code ({ cls := "TabledStore$Memory", name := "byteFrom", desc := "(II)I" } : Jvm.MethodName) prog_2_method_20_code (3 : Nat) (Option.some Jvm.ClassFile.FieldType.int)) ∈ WB_ := wb_mk (i := 510) (by decide +kernel) (by decide +kernel)
theorem wd_511 : (Jvm.Cond.methodLink "TabledStore$Memory" (80 : Nat) ({ cls := "TabledStore$Memory", name := "shiftOf", desc := "(I)I" } : Jvm.MethodName)) ∈ WB_ := wb_mk (i := 511) (by decide +kernel) (by decide +kernel)
theorem wd_512 : (Jvm.Cond.static ({ cls := "TabledStore$Memory", name := "shiftOf", desc := "(I)I" } : Jvm.MethodName)) ∈ WB_ := wb_mk (i := 512) (by decide +kernel) (by decide +kernel)
theorem wd_513 : (Jvm.Cond.code ({ cls := "TabledStore$Memory", name := "shiftOf", desc := "(I)I" } : Jvm.MethodName) prog_2_method_23_code (1 : Nat) (Option.some Jvm.ClassFile.FieldType.int)) ∈ WB_ := wb_mk (i := 513) (by decide +kernel) (by decide +kernel)
theorem wd_521 : (Jvm.Cond.methodLink "TabledStore" (101 : Nat) ({ cls := "java/lang/Math", name := "min", desc := "(II)I" } : Jvm.MethodName)) ∈ WB_ := wb_mk (i := 521) (by decide +kernel) (by decide +kernel)
theorem wd_522 : (Jvm.Cond.methodLink "TabledStore" (106 : Nat) ({ cls := "TabledStore$Memory", name := "setOneByte", desc := "(III)V" } : Jvm.MethodName)) ∈ WB_ := wb_mk (i := 522) (by decide +kernel) (by decide +kernel)
theorem wd_523 : (Jvm.Cond.instanceMethod ({ cls := "TabledStore$Memory", name := "setOneByte", desc := "(III)V" } : Jvm.MethodName)) ∈ WB_ := wb_mk (i := 523) (by decide +kernel) (by decide +kernel)
theorem wd_524 : (Jvm.Cond.selects "TabledStore$Memory" ({ cls := "TabledStore$Memory", name := "setOneByte", desc := "(III)V" } : Jvm.MethodName) ({ cls := "TabledStore$Memory", name := "setOneByte", desc := "(III)V" } : Jvm.MethodName)) ∈ WB_ := wb_mk (i := 524) (by decide +kernel) (by decide +kernel)
theorem wd_525 : (Jvm.Cond.code ({ cls := "TabledStore$Memory", name := "setOneByte", desc := "(III)V" } : Jvm.MethodName) prog_2_method_22_code (6 : Nat) (Option.none : Option Jvm.ClassFile.FieldType)) ∈ WB_ := wb_mk (i := 525) (by decide +kernel) (by decide +kernel)
theorem wd_533 : (Jvm.Cond.methodLink "TabledStore" (109 : Nat) ({ cls := "TabledStore$Value", name := "isNumber", desc := "(I)Z" } : Jvm.MethodName)) ∈ WB_ := wb_mk (i := 533) (by decide +kernel) (by decide +kernel)
theorem wd_534 : (Jvm.Cond.static ({ cls := "TabledStore$Value", name := "isNumber", desc := "(I)Z" } : Jvm.MethodName)) ∈ WB_ := wb_mk (i := 534) (by decide +kernel) (by decide +kernel)
theorem wd_535 : (Jvm.Cond.code ({ cls := "TabledStore$Value", name := "isNumber", desc := "(I)Z" } : Jvm.MethodName) prog_3_method_4_code (1 : Nat) (Option.some Jvm.ClassFile.FieldType.boolean)) ∈ WB_ := wb_mk (i := 535) (by decide +kernel) (by decide +kernel)
theorem wd_543 : (Jvm.Cond.methodLink "TabledStore" (116 : Nat) ({ cls := "TabledStore$Value", name := "toNumber", desc := "(I)I" } : Jvm.MethodName)) ∈ WB_ := wb_mk (i := 543) (by decide +kernel) (by decide +kernel)
theorem wd_544 : (Jvm.Cond.static ({ cls := "TabledStore$Value", name := "toNumber", desc := "(I)I" } : Jvm.MethodName)) ∈ WB_ := wb_mk (i := 544) (by decide +kernel) (by decide +kernel)
theorem wd_545 : (Jvm.Cond.code ({ cls := "TabledStore$Value", name := "toNumber", desc := "(I)I" } : Jvm.MethodName) prog_3_method_6_code (1 : Nat) (Option.some Jvm.ClassFile.FieldType.int)) ∈ WB_ := wb_mk (i := 545) (by decide +kernel) (by decide +kernel)
theorem wd_560 : (Jvm.Cond.methodLink "TabledStore" (122 : Nat) ({ cls := "TabledStore$Memory", name := "swap", desc := "(II)V" } : Jvm.MethodName)) ∈ WB_ := wb_mk (i := 560) (by decide +kernel) (by decide +kernel)
theorem wd_561 : (Jvm.Cond.instanceMethod ({ cls := "TabledStore$Memory", name := "swap", desc := "(II)V" } : Jvm.MethodName)) ∈ WB_ := wb_mk (i := 561) (by decide +kernel) (by decide +kernel)
theorem wd_562 : (Jvm.Cond.selects "TabledStore$Memory" ({ cls := "TabledStore$Memory", name := "swap", desc := "(II)V" } : Jvm.MethodName) ({ cls := "TabledStore$Memory", name := "swap", desc := "(II)V" } : Jvm.MethodName)) ∈ WB_ := wb_mk (i := 562) (by decide +kernel) (by decide +kernel)
theorem wd_563 : (Jvm.Cond.code ({ cls := "TabledStore$Memory", name := "swap", desc := "(II)V" } : Jvm.MethodName) prog_2_method_32_code (5 : Nat) (Option.none : Option Jvm.ClassFile.FieldType)) ∈ WB_ := wb_mk (i := 563) (by decide +kernel) (by decide +kernel)
theorem wd_571 : (Jvm.Cond.constant "TabledStore" (138 : Nat) (2147483647 : Int32)) ∈ WB_ := wb_mk (i := 571) (by decide +kernel) (by decide +kernel)
theorem wd_572 : (Jvm.Cond.methodLink "TabledStore" (139 : Nat) ({ cls := "TabledStore$Memory", name := "findOfClass", desc := "(II)I" } : Jvm.MethodName)) ∈ WB_ := wb_mk (i := 572) (by decide +kernel) (by decide +kernel)
theorem wd_573 : (Jvm.Cond.instanceMethod ({ cls := "TabledStore$Memory", name := "findOfClass", desc := "(II)I" } : Jvm.MethodName)) ∈ WB_ := wb_mk (i := 573) (by decide +kernel) (by decide +kernel)
theorem wd_574 : (Jvm.Cond.selects "TabledStore$Memory" ({ cls := "TabledStore$Memory", name := "findOfClass", desc := "(II)I" } : Jvm.MethodName) ({ cls := "TabledStore$Memory", name := "findOfClass", desc := "(II)I" } : Jvm.MethodName)) ∈ WB_ := wb_mk (i := 574) (by decide +kernel) (by decide +kernel)
theorem wd_575 : (Jvm.Cond.code ({ cls := "TabledStore$Memory", name := "findOfClass", desc := "(II)I" } : Jvm.MethodName) prog_2_method_43_code (5 : Nat) (Option.some Jvm.ClassFile.FieldType.int)) ∈ WB_ := wb_mk (i := 575) (by decide +kernel) (by decide +kernel)
theorem wd_583 : (Jvm.Cond.methodLink "TabledStore" (142 : Nat) ({ cls := "TabledStore$Memory", name := "countHolders", desc := "(I)I" } : Jvm.MethodName)) ∈ WB_ := wb_mk (i := 583) (by decide +kernel) (by decide +kernel)
theorem wd_584 : (Jvm.Cond.instanceMethod ({ cls := "TabledStore$Memory", name := "countHolders", desc := "(I)I" } : Jvm.MethodName)) ∈ WB_ := wb_mk (i := 584) (by decide +kernel) (by decide +kernel)
theorem wd_585 : (Jvm.Cond.selects "TabledStore$Memory" ({ cls := "TabledStore$Memory", name := "countHolders", desc := "(I)I" } : Jvm.MethodName) ({ cls := "TabledStore$Memory", name := "countHolders", desc := "(I)I" } : Jvm.MethodName)) ∈ WB_ := wb_mk (i := 585) (by decide +kernel) (by decide +kernel)
theorem wd_586 : (Jvm.Cond.code ({ cls := "TabledStore$Memory", name := "countHolders", desc := "(I)I" } : Jvm.MethodName) prog_2_method_44_code (6 : Nat) (Option.some Jvm.ClassFile.FieldType.int)) ∈ WB_ := wb_mk (i := 586) (by decide +kernel) (by decide +kernel)
theorem wd_594 : (Jvm.Cond.methodLink "TabledStore" (145 : Nat) ({ cls := "TabledStore$Memory", name := "leadsTo", desc := "(II)Z" } : Jvm.MethodName)) ∈ WB_ := wb_mk (i := 594) (by decide +kernel) (by decide +kernel)
theorem wd_595 : (Jvm.Cond.instanceMethod ({ cls := "TabledStore$Memory", name := "leadsTo", desc := "(II)Z" } : Jvm.MethodName)) ∈ WB_ := wb_mk (i := 595) (by decide +kernel) (by decide +kernel)
theorem wd_596 : (Jvm.Cond.selects "TabledStore$Memory" ({ cls := "TabledStore$Memory", name := "leadsTo", desc := "(II)Z" } : Jvm.MethodName) ({ cls := "TabledStore$Memory", name := "leadsTo", desc := "(II)Z" } : Jvm.MethodName)) ∈ WB_ := wb_mk (i := 596) (by decide +kernel) (by decide +kernel)
theorem wd_597 : (Jvm.Cond.code ({ cls := "TabledStore$Memory", name := "leadsTo", desc := "(II)Z" } : Jvm.MethodName) prog_2_method_35_code (3 : Nat) (Option.some Jvm.ClassFile.FieldType.boolean)) ∈ WB_ := wb_mk (i := 597) (by decide +kernel) (by decide +kernel)
theorem wd_605 : (Jvm.Cond.methodLink "TabledStore" (151 : Nat) ({ cls := "TabledStore$Memory", name := "sumOfBytes", desc := "(I)I" } : Jvm.MethodName)) ∈ WB_ := wb_mk (i := 605) (by decide +kernel) (by decide +kernel)
theorem wd_606 : (Jvm.Cond.instanceMethod ({ cls := "TabledStore$Memory", name := "sumOfBytes", desc := "(I)I" } : Jvm.MethodName)) ∈ WB_ := wb_mk (i := 606) (by decide +kernel) (by decide +kernel)
theorem wd_607 : (Jvm.Cond.selects "TabledStore$Memory" ({ cls := "TabledStore$Memory", name := "sumOfBytes", desc := "(I)I" } : Jvm.MethodName) ({ cls := "TabledStore$Memory", name := "sumOfBytes", desc := "(I)I" } : Jvm.MethodName)) ∈ WB_ := wb_mk (i := 607) (by decide +kernel) (by decide +kernel)
theorem wd_608 : (Jvm.Cond.code ({ cls := "TabledStore$Memory", name := "sumOfBytes", desc := "(I)I" } : Jvm.MethodName) prog_2_method_21_code (6 : Nat) (Option.some Jvm.ClassFile.FieldType.int)) ∈ WB_ := wb_mk (i := 608) (by decide +kernel) (by decide +kernel)
theorem g_M_33 : GoodIn WB_ (va_wsS R_M 33 y_M_isOfBytes ws_M_isOfBytes) := gS_ wd_148 wd_149 wd_39 wd_150
theorem g_M_49 : GoodIn WB_ (va_wsS R_M 49 y_V_toEntry ws_V_toEntry) := gS_ wd_129 wd_130 wd_45 wd_131
theorem g_M_55 : GoodIn WB_ (wsV R_M 55 R_M y_M_place ws_M_place) := gV_ wd_136 wd_138 wd_3 wd_39 wd_139
theorem g_M_58 : GoodIn WB_ (wsV R_M 58 R_M y_M_word ws_M_word) := gV_ wd_140 wd_142 wd_4 wd_39 wd_143
theorem g_M_61 : GoodIn WB_ (va_wsS R_M 61 y_V_isObject ws_V_isObject) := gS_ wd_126 wd_127 wd_45 wd_128
theorem g_M_64 : GoodIn WB_ (wsV R_M 64 R_M y_M_shapeOf ws_M_shapeOf) := gV_ wd_387 wd_380 wd_381 wd_39 wd_382
theorem g_M_67 : GoodIn WB_ (wsV R_M 67 R_M y_M_holdsSlots ws_M_holdsSlots) := gV_ wd_467 wd_417 wd_418 wd_39 wd_419
theorem g_M_70 : GoodIn WB_ (wsV R_M 70 R_M y_M_count ws_M_count) := gV_ wd_468 wd_426 wd_427 wd_39 wd_428
theorem g_M_80 : GoodIn WB_ (va_wsS R_M 80 y_M_shiftOf ws_M_shiftOf) := gS_ wd_511 wd_512 wd_39 wd_513
theorem g_M_77 : GoodIn WB_ (wsV R_M 77 R_M y_M_byteFrom ws_M_byteFrom) := gV_ wd_507 wd_509 wd_21 wd_39 wd_510
theorem g_M_93 : GoodIn WB_ (va_wsS R_M 93 y_M_bodyWords ws_M_bodyWords) := gS_ wd_151 wd_152 wd_39 wd_153
theorem g_M_143 : GoodIn WB_ (wsV R_M 143 R_M y_M_bodyWordsAt ws_M_bodyWordsAt) := gV_ wd_164 wd_166 wd_7 wd_39 wd_167
theorem g_M_109 : GoodIn WB_ (va_wsS R_M 109 y_V_ofEntry ws_V_ofEntry) := gS_ wd_336 wd_337 wd_45 wd_338
theorem g_M_137 : GoodIn WB_ (wsV R_M 137 R_M y_M_endOfSlots ws_M_endOfSlots) := gV_ wd_144 wd_146 wd_5 wd_39 wd_147
theorem g_M_86 : GoodIn WB_ (wsV R_M 86 R_M y_M_letGo ws_M_letGo) := gV_ wd_403 wd_299 wd_300 wd_39 wd_301
theorem g_M_83 : GoodIn WB_ (wsV R_M 83 R_M y_M_setWord ws_M_setWord) := gV_ wd_183 wd_185 wd_11 wd_39 wd_186
theorem g_M_73 : GoodIn WB_ (wsV R_M 73 R_M y_M_overwrite ws_M_overwrite) := gV_ wd_399 wd_401 wd_17 wd_39 wd_402
theorem g_M_106 : GoodIn WB_ (wsV R_M 106 R_M y_M_seat ws_M_seat) := gV_ wd_179 wd_181 wd_10 wd_39 wd_182
theorem g_M_119 : GoodIn WB_ (wsV R_M 119 R_M y_M_reach ws_M_reach) := gV_ wd_122 wd_124 wd_1 wd_39 wd_125
theorem g_M_128 : GoodIn WB_ (wsV R_M 128 R_M y_M_isReached ws_M_isReached) := gV_ wd_168 wd_170 wd_8 wd_39 wd_171
theorem g_M_146 : GoodIn WB_ (wsV R_M 146 R_M y_M_giveBackEntry ws_M_giveBackEntry) := gV_ wd_187 wd_189 wd_12 wd_39 wd_190
theorem g_M_112 : GoodIn WB_ (wsV R_M 112 R_M y_M_copyWords ws_M_copyWords) := gV_ wd_172 wd_174 wd_9 wd_39 wd_175
theorem g_M_116 : GoodIn WB_ (wsV R_M 116 R_M y_M_startRound ws_M_startRound) := gV_ wd_118 wd_120 wd_0 wd_39 wd_121
theorem g_M_122 : GoodIn WB_ (wsV R_M 122 R_M y_M_spread ws_M_spread) := gV_ wd_132 wd_134 wd_2 wd_39 wd_135
theorem g_M_125 : GoodIn WB_ (wsV R_M 125 R_M y_M_slide ws_M_slide) := gV_ wd_160 wd_162 wd_6 wd_39 wd_163
theorem g_M_96 : GoodIn WB_ (wsV R_M 96 R_M y_M_fits ws_M_fits) := gV_ wd_331 wd_333 wd_15 wd_39 wd_334
theorem g_M_99 : GoodIn WB_ (wsV R_M 99 R_M y_M_settle ws_M_settle) := gV_ wd_335 wd_115 wd_116 wd_39 wd_117
theorem g_T_16 : GoodIn WB_ (va_wsS R_T 16 y_T_isBetween ws_T_isBetween) := gS_ wd_61 wd_62 wd_38 wd_63
theorem g_T_27 : GoodIn WB_ (va_wsS R_T 27 y_T_needRegister ws_T_needRegister) := gS_ wd_214 wd_215 wd_38 wd_216
theorem g_T_119 : GoodIn WB_ (va_wsS R_T 119 y_V_isObject ws_V_isObject) := gS_ wd_373 wd_127 wd_45 wd_128
theorem g_T_113 : GoodIn WB_ (wsV R_T 113 R_M y_M_holdsSlots ws_M_holdsSlots) := gV_ wd_416 wd_417 wd_418 wd_39 wd_419
theorem g_T_148 : GoodIn WB_ (wsV R_T 148 R_M y_M_holdsBytes ws_M_holdsBytes) := gV_ wd_498 wd_499 wd_500 wd_39 wd_501
theorem g_T_98 : GoodIn WB_ (wsV R_T 98 R_M y_M_count ws_M_count) := gV_ wd_425 wd_426 wd_427 wd_39 wd_428
theorem g_T_154 : GoodIn WB_ (wsV R_T 154 R_M y_M_letGo ws_M_letGo) := gV_ wd_298 wd_299 wd_300 wd_39 wd_301
theorem g_T_33 : GoodIn WB_ (va_wsS R_T 33 y_T_needBetween ws_T_needBetween) := gS_ wd_287 wd_288 wd_38 wd_289
theorem g_T_37 : GoodIn WB_ (va_wsS R_T 37 y_V_ofNumber ws_V_ofNumber) := gS_ wd_291 wd_292 wd_45 wd_293
theorem g_T_43 : GoodIn WB_ (wsV R_T 43 R_T y_T_setRegister ws_T_setRegister) := gV_ wd_294 wd_296 wd_14 wd_38 wd_297
theorem g_T_46 : GoodIn WB_ (va_wsS R_T 46 y_M_shape ws_M_shape) := gS_ wd_324 wd_325 wd_39 wd_326
theorem g_T_50 : GoodIn WB_ (wsV R_T 50 R_M y_M_build ws_M_build) := gV_ wd_327 wd_328 wd_329 wd_39 wd_330
theorem g_T_54 : GoodIn WB_ (va_wsS R_T 54 y_T_needMade ws_T_needMade) := gS_ wd_339 wd_340 wd_38 wd_341
theorem g_T_57 : GoodIn WB_ (wsV R_T 57 R_M y_M_identity ws_M_identity) := gV_ wd_358 wd_359 wd_360 wd_39 wd_361
theorem g_T_60 : GoodIn WB_ (wsV R_T 60 R_T y_T_needObject ws_T_needObject) := gV_ wd_369 wd_371 wd_16 wd_38 wd_372
theorem g_T_63 : GoodIn WB_ (wsV R_T 63 R_M y_M_itsClass ws_M_itsClass) := gV_ wd_375 wd_376 wd_377 wd_39 wd_378
theorem g_T_66 : GoodIn WB_ (wsV R_T 66 R_M y_M_shapeOf ws_M_shapeOf) := gV_ wd_379 wd_380 wd_381 wd_39 wd_382
theorem g_T_69 : GoodIn WB_ (wsV R_T 69 R_M y_M_fillLike ws_M_fillLike) := gV_ wd_383 wd_384 wd_385 wd_39 wd_386
theorem g_T_72 : GoodIn WB_ (wsV R_T 72 R_M y_M_setSlot ws_M_setSlot) := gV_ wd_395 wd_396 wd_397 wd_39 wd_398
theorem g_T_75 : GoodIn WB_ (wsV R_T 75 R_T y_T_needSlots ws_T_needSlots) := gV_ wd_412 wd_414 wd_18 wd_38 wd_415
theorem g_T_78 : GoodIn WB_ (wsV R_T 78 R_T y_T_needIndex ws_T_needIndex) := gV_ wd_421 wd_423 wd_19 wd_38 wd_424
theorem g_T_81 : GoodIn WB_ (wsV R_T 81 R_M y_M_slot ws_M_slot) := gV_ wd_445 wd_446 wd_447 wd_39 wd_448
theorem g_T_85 : GoodIn WB_ (wsV R_T 85 R_M y_M_holdsSlot ws_M_holdsSlot) := gV_ wd_463 wd_464 wd_465 wd_39 wd_466
theorem g_T_89 : GoodIn WB_ (wsV R_T 89 R_M y_M_setItsClass ws_M_setItsClass) := gV_ wd_483 wd_484 wd_485 wd_39 wd_486
theorem g_T_92 : GoodIn WB_ (wsV R_T 92 R_T y_T_needBytes ws_T_needBytes) := gV_ wd_494 wd_496 wd_20 wd_38 wd_497
theorem g_T_95 : GoodIn WB_ (wsV R_T 95 R_M y_M_oneByte ws_M_oneByte) := gV_ wd_503 wd_504 wd_505 wd_39 wd_506
theorem g_T_106 : GoodIn WB_ (wsV R_T 106 R_M y_M_setOneByte ws_M_setOneByte) := gV_ wd_522 wd_523 wd_524 wd_39 wd_525
theorem g_T_109 : GoodIn WB_ (va_wsS R_T 109 y_V_isNumber ws_V_isNumber) := gS_ wd_533 wd_534 wd_45 wd_535
theorem g_T_116 : GoodIn WB_ (va_wsS R_T 116 y_V_toNumber ws_V_toNumber) := gS_ wd_543 wd_544 wd_45 wd_545
theorem g_T_122 : GoodIn WB_ (wsV R_T 122 R_M y_M_swap ws_M_swap) := gV_ wd_560 wd_561 wd_562 wd_39 wd_563
theorem g_T_125 : GoodIn WB_ (wsV R_T 125 R_M y_M_settle ws_M_settle) := gV_ wd_114 wd_115 wd_116 wd_39 wd_117
theorem g_T_129 : GoodIn WB_ (wsV R_T 129 R_M y_M_freeWords ws_M_freeWords) := gV_ wd_191 wd_192 wd_193 wd_39 wd_194
theorem g_T_133 : GoodIn WB_ (wsV R_T 133 R_M y_M_freeEntries ws_M_freeEntries) := gV_ wd_199 wd_200 wd_201 wd_39 wd_202
theorem g_T_139 : GoodIn WB_ (wsV R_T 139 R_M y_M_findOfClass ws_M_findOfClass) := gV_ wd_572 wd_573 wd_574 wd_39 wd_575
theorem g_T_142 : GoodIn WB_ (wsV R_T 142 R_M y_M_countHolders ws_M_countHolders) := gV_ wd_583 wd_584 wd_585 wd_39 wd_586
theorem g_T_145 : GoodIn WB_ (wsV R_T 145 R_M y_M_leadsTo ws_M_leadsTo) := gV_ wd_594 wd_595 wd_596 wd_39 wd_597
theorem g_T_151 : GoodIn WB_ (wsV R_T 151 R_M y_M_sumOfBytes ws_M_sumOfBytes) := gV_ wd_605 wd_606 wd_607 wd_39 wd_608
theorem xa_T_161 : ∀ w ∈ (vx_atS R_T 161 "java/lang/IllegalArgumentException" ["java/lang/RuntimeException", "java/lang/Exception"]).filter goodWord, w ∈ WB_ := by decide +kernel
theorem xa_T_161_n : ∀ w ∈ (vx_atS R_T 161 "java/lang/IllegalArgumentException" ["java/lang/RuntimeException", "java/lang/Exception"]).filter (fun w => !goodWord w), w ∈ [Cond.castable "java/lang/IllegalArgumentException" "java/lang/IllegalArgumentException", Cond.declares (Bundle.initS "java/lang/RuntimeException"), Cond.declares (Bundle.initS "java/lang/Exception"), Cond.declares (Bundle.initS "java/lang/Throwable")] := by decide +kernel
theorem xa_T_181 : ∀ w ∈ (vx_atS R_T 181 "java/lang/UnsupportedOperationException" ["java/lang/RuntimeException", "java/lang/Exception"]).filter goodWord, w ∈ WB_ := by decide +kernel
theorem xa_T_181_n : ∀ w ∈ (vx_atS R_T 181 "java/lang/UnsupportedOperationException" ["java/lang/RuntimeException", "java/lang/Exception"]).filter (fun w => !goodWord w), w ∈ [Cond.castable "java/lang/UnsupportedOperationException" "java/lang/UnsupportedOperationException", Cond.declares (Bundle.initS "java/lang/RuntimeException"), Cond.declares (Bundle.initS "java/lang/Exception"), Cond.declares (Bundle.initS "java/lang/Throwable")] := by decide +kernel
theorem xa_T_176 : ∀ w ∈ (vx_atS R_T 176 "java/lang/IndexOutOfBoundsException" ["java/lang/RuntimeException", "java/lang/Exception"]).filter goodWord, w ∈ WB_ := by decide +kernel
theorem xa_T_176_n : ∀ w ∈ (vx_atS R_T 176 "java/lang/IndexOutOfBoundsException" ["java/lang/RuntimeException", "java/lang/Exception"]).filter (fun w => !goodWord w), w ∈ [Cond.castable "java/lang/IndexOutOfBoundsException" "java/lang/IndexOutOfBoundsException", Cond.declares (Bundle.initS "java/lang/RuntimeException"), Cond.declares (Bundle.initS "java/lang/Exception"), Cond.declares (Bundle.initS "java/lang/Throwable")] := by decide +kernel
