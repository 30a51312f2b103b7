abbrev c_R_init : ByteArray := prog_5_method_1_code
def y_R_init : MethodName := ⟨R_R, "<init>", "(II)V"⟩
def ws_R_init : List Cond := .code y_R_init c_R_init 4 none :: WB_
abbrev c_R_thrown : ByteArray := prog_5_method_2_code
def y_R_thrown : MethodName := ⟨R_R, "thrown", "()I"⟩
def ws_R_thrown : List Cond := .code y_R_thrown c_R_thrown 1 (some .int) :: WB_
abbrev c_R_isRegister : ByteArray := prog_5_method_3_code
def y_R_isRegister : MethodName := ⟨R_R, "isRegister", "(I)Z"⟩
def ws_R_isRegister : List Cond := .code y_R_isRegister c_R_isRegister 1 (some .boolean) :: WB_
abbrev c_R_isObject : ByteArray := prog_5_method_4_code
def y_R_isObject : MethodName := ⟨R_R, "isObject", "(I)Z"⟩
def ws_R_isObject : List Cond := .code y_R_isObject c_R_isObject 1 (some .boolean) :: WB_
abbrev c_R_placeOf : ByteArray := prog_5_method_5_code
def y_R_placeOf : MethodName := ⟨R_R, "placeOf", "(I)I"⟩
def ws_R_placeOf : List Cond := .code y_R_placeOf c_R_placeOf 1 (some .int) :: WB_
abbrev c_R_valueOf : ByteArray := prog_5_method_6_code
def y_R_valueOf : MethodName := ⟨R_R, "valueOf", "(I)I"⟩
def ws_R_valueOf : List Cond := .code y_R_valueOf c_R_valueOf 1 (some .int) :: WB_
abbrev c_R_has : ByteArray := prog_5_method_7_code
def y_R_has : MethodName := ⟨R_R, "has", "(I)Z"⟩
def ws_R_has : List Cond := .code y_R_has c_R_has 2 (some .boolean) :: WB_
abbrev c_R_hasSlots : ByteArray := prog_5_method_8_code
def y_R_hasSlots : MethodName := ⟨R_R, "hasSlots", "(I)Z"⟩
def ws_R_hasSlots : List Cond := .code y_R_hasSlots c_R_hasSlots 2 (some .boolean) :: WB_
abbrev c_R_hasBytes : ByteArray := prog_5_method_9_code
def y_R_hasBytes : MethodName := ⟨R_R, "hasBytes", "(I)Z"⟩
def ws_R_hasBytes : List Cond := .code y_R_hasBytes c_R_hasBytes 2 (some .boolean) :: WB_
abbrev c_R_sizeOf : ByteArray := prog_5_method_10_code
def y_R_sizeOf : MethodName := ⟨R_R, "sizeOf", "(I)I"⟩
def ws_R_sizeOf : List Cond := .code y_R_sizeOf c_R_sizeOf 2 (some .int) :: WB_
abbrev c_R_cellsFor : ByteArray := prog_5_method_11_code
def y_R_cellsFor : MethodName := ⟨R_R, "cellsFor", "(IZ)I"⟩
def ws_R_cellsFor : List Cond := .code y_R_cellsFor c_R_cellsFor 2 (some .int) :: WB_
abbrev c_R_cellAt : ByteArray := prog_5_method_12_code
def y_R_cellAt : MethodName := ⟨R_R, "cellAt", "(II)I"⟩
def ws_R_cellAt : List Cond := .code y_R_cellAt c_R_cellAt 5 (some .int) :: WB_
abbrev c_R_meet : ByteArray := prog_5_method_13_code
def y_R_meet : MethodName := ⟨R_R, "meet", "(I)V"⟩
def ws_R_meet : List Cond := .code y_R_meet c_R_meet 2 none :: WB_
abbrev c_R_spread : ByteArray := prog_5_method_14_code
def y_R_spread : MethodName := ⟨R_R, "spread", "()V"⟩
def ws_R_spread : List Cond := .code y_R_spread c_R_spread 4 none :: WB_
abbrev c_R_forget : ByteArray := prog_5_method_15_code
def y_R_forget : MethodName := ⟨R_R, "forget", "()V"⟩
def ws_R_forget : List Cond := .code y_R_forget c_R_forget 2 none :: WB_
abbrev c_R_reach : ByteArray := prog_5_method_16_code
def y_R_reach : MethodName := ⟨R_R, "reach", "()V"⟩
def ws_R_reach : List Cond := .code y_R_reach c_R_reach 2 none :: WB_
abbrev c_R_giveBack : ByteArray := prog_5_method_17_code
def y_R_giveBack : MethodName := ⟨R_R, "giveBack", "()V"⟩
def ws_R_giveBack : List Cond := .code y_R_giveBack c_R_giveBack 4 none :: WB_
abbrev c_R_add : ByteArray := prog_5_method_18_code
def y_R_add : MethodName := ⟨R_R, "add", "(IIZ)I"⟩
def ws_R_add : List Cond := .code y_R_add c_R_add 7 (some .int) :: WB_
abbrev c_R_canMake : ByteArray := prog_5_method_19_code
def y_R_canMake : MethodName := ⟨R_R, "canMake", "(IZ)Z"⟩
def ws_R_canMake : List Cond := .code y_R_canMake c_R_canMake 4 (some .boolean) :: WB_
abbrev c_R_number : ByteArray := prog_5_method_20_code
def y_R_number : MethodName := ⟨R_R, "number", "(II)V"⟩
def ws_R_number : List Cond := .code y_R_number c_R_number 3 none :: WB_
abbrev c_R_move : ByteArray := prog_5_method_21_code
def y_R_move : MethodName := ⟨R_R, "move", "(II)V"⟩
def ws_R_move : List Cond := .code y_R_move c_R_move 3 none :: WB_
abbrev c_R_clear : ByteArray := prog_5_method_22_code
def y_R_clear : MethodName := ⟨R_R, "clear", "(I)V"⟩
def ws_R_clear : List Cond := .code y_R_clear c_R_clear 2 none :: WB_
abbrev c_R_make : ByteArray := prog_5_method_23_code
def y_R_make : MethodName := ⟨R_R, "make", "(IIIZ)I"⟩
def ws_R_make : List Cond := .code y_R_make c_R_make 7 (some .int) :: WB_
abbrev c_R_copy : ByteArray := prog_5_method_24_code
def y_R_copy : MethodName := ⟨R_R, "copy", "(II)I"⟩
def ws_R_copy : List Cond := .code y_R_copy c_R_copy 8 (some .int) :: WB_
abbrev c_R_chain : ByteArray := prog_5_method_25_code
def y_R_chain : MethodName := ⟨R_R, "chain", "(IIII)I"⟩
def ws_R_chain : List Cond := .code y_R_chain c_R_chain 9 (some .int) :: WB_
abbrev c_R_get : ByteArray := prog_5_method_26_code
def y_R_get : MethodName := ⟨R_R, "get", "(III)V"⟩
def ws_R_get : List Cond := .code y_R_get c_R_get 5 none :: WB_
abbrev c_R_put : ByteArray := prog_5_method_27_code
def y_R_put : MethodName := ⟨R_R, "put", "(III)V"⟩
def ws_R_put : List Cond := .code y_R_put c_R_put 5 none :: WB_
abbrev c_R_walk : ByteArray := prog_5_method_28_code
def y_R_walk : MethodName := ⟨R_R, "walk", "(III)I"⟩
def ws_R_walk : List Cond := .code y_R_walk c_R_walk 5 (some .int) :: WB_
abbrev c_R_classOf : ByteArray := prog_5_method_29_code
def y_R_classOf : MethodName := ⟨R_R, "classOf", "(II)V"⟩
def ws_R_classOf : List Cond := .code y_R_classOf c_R_classOf 3 none :: WB_
abbrev c_R_setClass : ByteArray := prog_5_method_30_code
def y_R_setClass : MethodName := ⟨R_R, "setClass", "(II)V"⟩
def ws_R_setClass : List Cond := .code y_R_setClass c_R_setClass 3 none :: WB_
abbrev c_R_byteOf : ByteArray := prog_5_method_31_code
def y_R_byteOf : MethodName := ⟨R_R, "byteOf", "(II)I"⟩
def ws_R_byteOf : List Cond := .code y_R_byteOf c_R_byteOf 3 (some .int) :: WB_
abbrev c_R_setByte : ByteArray := prog_5_method_32_code
def y_R_setByte : MethodName := ⟨R_R, "setByte", "(III)V"⟩
def ws_R_setByte : List Cond := .code y_R_setByte c_R_setByte 6 none :: WB_
abbrev c_R_byteAt : ByteArray := prog_5_method_33_code
def y_R_byteAt : MethodName := ⟨R_R, "byteAt", "(II)I"⟩
def ws_R_byteAt : List Cond := .code y_R_byteAt c_R_byteAt 3 (some .int) :: WB_
abbrev c_R_bytePut : ByteArray := prog_5_method_34_code
def y_R_bytePut : MethodName := ⟨R_R, "bytePut", "(IIJ)V"⟩
def ws_R_bytePut : List Cond := .code y_R_bytePut c_R_bytePut 6 none :: WB_
abbrev c_R_sum : ByteArray := prog_5_method_35_code
def y_R_sum : MethodName := ⟨R_R, "sum", "(I)I"⟩
def ws_R_sum : List Cond := .code y_R_sum c_R_sum 6 (some .int) :: WB_
abbrev c_R_kind : ByteArray := prog_5_method_36_code
def y_R_kind : MethodName := ⟨R_R, "kind", "(I)I"⟩
def ws_R_kind : List Cond := .code y_R_kind c_R_kind 2 (some .int) :: WB_
abbrev c_R_value : ByteArray := prog_5_method_37_code
def y_R_value : MethodName := ⟨R_R, "value", "(I)I"⟩
def ws_R_value : List Cond := .code y_R_value c_R_value 2 (some .int) :: WB_
abbrev c_R_size : ByteArray := prog_5_method_38_code
def y_R_size : MethodName := ⟨R_R, "size", "(I)I"⟩
def ws_R_size : List Cond := .code y_R_size c_R_size 2 (some .int) :: WB_
abbrev c_R_become : ByteArray := prog_5_method_39_code
def y_R_become : MethodName := ⟨R_R, "become", "(II)V"⟩
def ws_R_become : List Cond := .code y_R_become c_R_become 10 none :: WB_
abbrev c_R_words : ByteArray := prog_5_method_40_code
def y_R_words : MethodName := ⟨R_R, "words", "()I"⟩
def ws_R_words : List Cond := .code y_R_words c_R_words 1 (some .int) :: WB_
abbrev c_R_entries : ByteArray := prog_5_method_41_code
def y_R_entries : MethodName := ⟨R_R, "entries", "()I"⟩
def ws_R_entries : List Cond := .code y_R_entries c_R_entries 1 (some .int) :: WB_
abbrev c_R_nextOf : ByteArray := prog_5_method_42_code
def y_R_nextOf : MethodName := ⟨R_R, "nextOf", "(II)I"⟩
def ws_R_nextOf : List Cond := .code y_R_nextOf c_R_nextOf 7 (some .int) :: WB_
abbrev c_R_instance : ByteArray := prog_5_method_43_code
def y_R_instance : MethodName := ⟨R_R, "instance", "(III)I"⟩
def ws_R_instance : List Cond := .code y_R_instance c_R_instance 7 (some .int) :: WB_
abbrev c_R_owners : ByteArray := prog_5_method_44_code
def y_R_owners : MethodName := ⟨R_R, "owners", "(I)I"⟩
def ws_R_owners : List Cond := .code y_R_owners c_R_owners 7 (some .int) :: WB_
abbrev c_R_reaches : ByteArray := prog_5_method_45_code
def y_R_reaches : MethodName := ⟨R_R, "reaches", "(II)Z"⟩
def ws_R_reaches : List Cond := .code y_R_reaches c_R_reaches 3 (some .boolean) :: WB_
theorem wd_22 : (Jvm.Cond.selects "TabledStoreModel" ({ cls := "TabledStoreModel", name := "canMake", desc := "(IZ)Z" } : Jvm.MethodName) ({ cls := "TabledStoreModel", name := "canMake", desc := "(IZ)Z" } : Jvm.MethodName)) ∈ WB_ := wb_mk (i := 22) (by decide +kernel) (by decide +kernel)
theorem wd_23 : (Jvm.Cond.selects "TabledStoreModel" ({ cls := "TabledStoreModel", name := "reach", desc := "()V" } : Jvm.MethodName) ({ cls := "TabledStoreModel", name := "reach", desc := "()V" } : Jvm.MethodName)) ∈ WB_ := wb_mk (i := 23) (by decide +kernel) (by decide +kernel)
theorem wd_24 : (Jvm.Cond.selects "TabledStoreModel" ({ cls := "TabledStoreModel", name := "forget", desc := "()V" } : Jvm.MethodName) ({ cls := "TabledStoreModel", name := "forget", desc := "()V" } : Jvm.MethodName)) ∈ WB_ := wb_mk (i := 24) (by decide +kernel) (by decide +kernel)
theorem wd_25 : (Jvm.Cond.selects "TabledStoreModel" ({ cls := "TabledStoreModel", name := "meet", desc := "(I)V" } : Jvm.MethodName) ({ cls := "TabledStoreModel", name := "meet", desc := "(I)V" } : Jvm.MethodName)) ∈ WB_ := wb_mk (i := 25) (by decide +kernel) (by decide +kernel)
theorem wd_26 : (Jvm.Cond.selects "TabledStoreModel" ({ cls := "TabledStoreModel", name := "spread", desc := "()V" } : Jvm.MethodName) ({ cls := "TabledStoreModel", name := "spread", desc := "()V" } : Jvm.MethodName)) ∈ WB_ := wb_mk (i := 26) (by decide +kernel) (by decide +kernel)
theorem wd_27 : (Jvm.Cond.selects "TabledStoreModel" ({ cls := "TabledStoreModel", name := "giveBack", desc := "()V" } : Jvm.MethodName) ({ cls := "TabledStoreModel", name := "giveBack", desc := "()V" } : Jvm.MethodName)) ∈ WB_ := wb_mk (i := 27) (by decide +kernel) (by decide +kernel)
theorem wd_28 : (Jvm.Cond.selects "TabledStoreModel" ({ cls := "TabledStoreModel", name := "add", desc := "(IIZ)I" } : Jvm.MethodName) ({ cls := "TabledStoreModel", name := "add", desc := "(IIZ)I" } : Jvm.MethodName)) ∈ WB_ := wb_mk (i := 28) (by decide +kernel) (by decide +kernel)
theorem wd_29 : (Jvm.Cond.selects "TabledStoreModel" ({ cls := "TabledStoreModel", name := "has", desc := "(I)Z" } : Jvm.MethodName) ({ cls := "TabledStoreModel", name := "has", desc := "(I)Z" } : Jvm.MethodName)) ∈ WB_ := wb_mk (i := 29) (by decide +kernel) (by decide +kernel)
theorem wd_30 : (Jvm.Cond.selects "TabledStoreModel" ({ cls := "TabledStoreModel", name := "sizeOf", desc := "(I)I" } : Jvm.MethodName) ({ cls := "TabledStoreModel", name := "sizeOf", desc := "(I)I" } : Jvm.MethodName)) ∈ WB_ := wb_mk (i := 30) (by decide +kernel) (by decide +kernel)
theorem wd_31 : (Jvm.Cond.selects "TabledStoreModel" ({ cls := "TabledStoreModel", name := "hasBytes", desc := "(I)Z" } : Jvm.MethodName) ({ cls := "TabledStoreModel", name := "hasBytes", desc := "(I)Z" } : Jvm.MethodName)) ∈ WB_ := wb_mk (i := 31) (by decide +kernel) (by decide +kernel)
theorem wd_32 : (Jvm.Cond.selects "TabledStoreModel" ({ cls := "TabledStoreModel", name := "hasSlots", desc := "(I)Z" } : Jvm.MethodName) ({ cls := "TabledStoreModel", name := "hasSlots", desc := "(I)Z" } : Jvm.MethodName)) ∈ WB_ := wb_mk (i := 32) (by decide +kernel) (by decide +kernel)
theorem wd_33 : (Jvm.Cond.selects "TabledStoreModel" ({ cls := "TabledStoreModel", name := "cellAt", desc := "(II)I" } : Jvm.MethodName) ({ cls := "TabledStoreModel", name := "cellAt", desc := "(II)I" } : Jvm.MethodName)) ∈ WB_ := wb_mk (i := 33) (by decide +kernel) (by decide +kernel)
theorem wd_34 : (Jvm.Cond.selects "TabledStoreModel" ({ cls := "TabledStoreModel", name := "byteOf", desc := "(II)I" } : Jvm.MethodName) ({ cls := "TabledStoreModel", name := "byteOf", desc := "(II)I" } : Jvm.MethodName)) ∈ WB_ := wb_mk (i := 34) (by decide +kernel) (by decide +kernel)
theorem wd_35 : (Jvm.Cond.selects "TabledStoreModel" ({ cls := "TabledStoreModel", name := "setByte", desc := "(III)V" } : Jvm.MethodName) ({ cls := "TabledStoreModel", name := "setByte", desc := "(III)V" } : Jvm.MethodName)) ∈ WB_ := wb_mk (i := 35) (by decide +kernel) (by decide +kernel)
theorem wd_36 : (Jvm.Cond.selects "TabledStoreModel" ({ cls := "TabledStoreModel", name := "nextOf", desc := "(II)I" } : Jvm.MethodName) ({ cls := "TabledStoreModel", name := "nextOf", desc := "(II)I" } : Jvm.MethodName)) ∈ WB_ := wb_mk (i := 36) (by decide +kernel) (by decide +kernel)
theorem wd_40 : (Jvm.Cond.initialized "TabledStoreModel") ∈ WB_ := wb_mk (i := 40) (by decide +kernel) (by decide +kernel)
theorem wd_616 : (Jvm.Cond.fieldLink "TabledStoreModel" (49 : Nat) "TabledStoreModel" "code" "I") ∈ WB_ := wb_mk (i := 616) (by decide +kernel) (by decide +kernel)
theorem wd_617 : (Jvm.Cond.fieldLink "TabledStoreModel" (14 : Nat) "TabledStoreModel" "words" "I") ∈ WB_ := wb_mk (i := 617) (by decide +kernel) (by decide +kernel)
theorem wd_618 : (Jvm.Cond.fieldLink "TabledStoreModel" (18 : Nat) "TabledStoreModel" "entries" "I") ∈ WB_ := wb_mk (i := 618) (by decide +kernel) (by decide +kernel)
theorem wd_619 : (Jvm.Cond.fieldLink "TabledStoreModel" (7 : Nat) "TabledStoreModel" "registers" "[I") ∈ WB_ := wb_mk (i := 619) (by decide +kernel) (by decide +kernel)
theorem wd_620 : (Jvm.Cond.fieldLink "TabledStoreModel" (21 : Nat) "TabledStoreModel" "identities" "[I") ∈ WB_ := wb_mk (i := 620) (by decide +kernel) (by decide +kernel)
theorem wd_621 : (Jvm.Cond.fieldLink "TabledStoreModel" (24 : Nat) "TabledStoreModel" "classes" "[I") ∈ WB_ := wb_mk (i := 621) (by decide +kernel) (by decide +kernel)
theorem wd_622 : (Jvm.Cond.fieldLink "TabledStoreModel" (27 : Nat) "TabledStoreModel" "bytes" "[Z") ∈ WB_ := wb_mk (i := 622) (by decide +kernel) (by decide +kernel)
theorem wd_623 : (Jvm.Cond.fieldLink "TabledStoreModel" (31 : Nat) "TabledStoreModel" "sizes" "[I") ∈ WB_ := wb_mk (i := 623) (by decide +kernel) (by decide +kernel)
theorem wd_624 : (Jvm.Cond.fieldLink "TabledStoreModel" (34 : Nat) "TabledStoreModel" "firsts" "[I") ∈ WB_ := wb_mk (i := 624) (by decide +kernel) (by decide +kernel)
theorem wd_625 : (Jvm.Cond.fieldLink "TabledStoreModel" (92 : Nat) "TabledStoreModel" "made" "I") ∈ WB_ := wb_mk (i := 625) (by decide +kernel) (by decide +kernel)
theorem wd_626 : (Jvm.Cond.fieldLink "TabledStoreModel" (86 : Nat) "TabledStoreModel" "hint" "I") ∈ WB_ := wb_mk (i := 626) (by decide +kernel) (by decide +kernel)
theorem wd_627 : (Jvm.Cond.fieldLink "TabledStoreModel" (43 : Nat) "TabledStoreModel" "cells" "[I") ∈ WB_ := wb_mk (i := 627) (by decide +kernel) (by decide +kernel)
theorem wd_628 : (Jvm.Cond.fieldLink "TabledStoreModel" (46 : Nat) "TabledStoreModel" "nexts" "[I") ∈ WB_ := wb_mk (i := 628) (by decide +kernel) (by decide +kernel)
theorem wd_629 : (Jvm.Cond.fieldLink "TabledStoreModel" (89 : Nat) "TabledStoreModel" "free" "I") ∈ WB_ := wb_mk (i := 629) (by decide +kernel) (by decide +kernel)
theorem wd_630 : (Jvm.Cond.fieldLink "TabledStoreModel" (37 : Nat) "TabledStoreModel" "reached" "[Z") ∈ WB_ := wb_mk (i := 630) (by decide +kernel) (by decide +kernel)
theorem wd_631 : (Jvm.Cond.fieldLink "TabledStoreModel" (40 : Nat) "TabledStoreModel" "todo" "[I") ∈ WB_ := wb_mk (i := 631) (by decide +kernel) (by decide +kernel)
theorem wd_632 : (Jvm.Cond.fieldLink "TabledStoreModel" (66 : Nat) "TabledStoreModel" "count" "I") ∈ WB_ := wb_mk (i := 632) (by decide +kernel) (by decide +kernel)
theorem wd_633 : (Jvm.Cond.fieldLink "TabledStoreModel" (73 : Nat) "TabledStoreModel" "taken" "I") ∈ WB_ := wb_mk (i := 633) (by decide +kernel) (by decide +kernel)
theorem wd_680 : (Jvm.Cond.methodLink "TabledStoreModel" (52 : Nat) ({ cls := "TabledStoreModel", name := "isRegister", desc := "(I)Z" } : Jvm.MethodName)) ∈ WB_ := wb_mk (i := 680) (by decide +kernel) (by decide +kernel)
theorem wd_681 : (Jvm.Cond.static ({ cls := "TabledStoreModel", name := "isRegister", desc := "(I)Z" } : Jvm.MethodName)) ∈ WB_ := wb_mk (i := 681) (by decide +kernel) (by decide +kernel)
theorem wd_682 : (Jvm.Cond.code ({ cls := "TabledStoreModel", name := "isRegister", desc := "(I)Z" } : Jvm.MethodName) prog_5_method_3_code (1 : Nat) (Option.some Jvm.ClassFile.FieldType.boolean)) ∈ WB_ := wb_mk (i := 682) (by decide +kernel) (by decide +kernel)
theorem wd_683 : (Jvm.Cond.constant "TabledStoreModel" (101 : Nat) (-1073741824 : Int32)) ∈ WB_ := wb_mk (i := 683) (by decide +kernel) (by decide +kernel)
theorem wd_684 : (Jvm.Cond.constant "TabledStoreModel" (102 : Nat) (1073741823 : Int32)) ∈ WB_ := wb_mk (i := 684) (by decide +kernel) (by decide +kernel)
theorem wd_697 : (Jvm.Cond.methodLink "TabledStoreModel" (103 : Nat) ({ cls := "TabledStoreModel", name := "canMake", desc := "(IZ)Z" } : Jvm.MethodName)) ∈ WB_ := wb_mk (i := 697) (by decide +kernel) (by decide +kernel)
theorem wd_699 : (Jvm.Cond.instanceMethod ({ cls := "TabledStoreModel", name := "canMake", desc := "(IZ)Z" } : Jvm.MethodName)) ∈ WB_ := wb_mk (i := 699) (by decide +kernel) (by decide +kernel)
theorem wd_700 : (Jvm.Cond.code ({ cls := "TabledStoreModel", name := "canMake", desc := "(IZ)Z" } : Jvm.MethodName) prog_5_method_19_code (4 : Nat) (Option.some Jvm.ClassFile.FieldType.boolean)) ∈ WB_ := wb_mk (i := 700) (by decide +kernel) (by decide +kernel)
theorem wd_701 : (Jvm.Cond.methodLink "TabledStoreModel" (95 : Nat) ({ cls := "TabledStoreModel", name := "reach", desc := "()V" } : Jvm.MethodName)) ∈ WB_ := wb_mk (i := 701) (by decide +kernel) (by decide +kernel)
theorem wd_703 : (Jvm.Cond.instanceMethod ({ cls := "TabledStoreModel", name := "reach", desc := "()V" } : Jvm.MethodName)) ∈ WB_ := wb_mk (i := 703) (by decide +kernel) (by decide +kernel)
theorem wd_704 : (Jvm.Cond.code ({ cls := "TabledStoreModel", name := "reach", desc := "()V" } : Jvm.MethodName) prog_5_method_16_code (2 : Nat) (Option.none : Option Jvm.ClassFile.FieldType)) ∈ WB_ := wb_mk (i := 704) (by decide +kernel) (by decide +kernel)
theorem wd_705 : (Jvm.Cond.methodLink "TabledStoreModel" (80 : Nat) ({ cls := "TabledStoreModel", name := "forget", desc := "()V" } : Jvm.MethodName)) ∈ WB_ := wb_mk (i := 705) (by decide +kernel) (by decide +kernel)
theorem wd_707 : (Jvm.Cond.instanceMethod ({ cls := "TabledStoreModel", name := "forget", desc := "()V" } : Jvm.MethodName)) ∈ WB_ := wb_mk (i := 707) (by decide +kernel) (by decide +kernel)
theorem wd_708 : (Jvm.Cond.code ({ cls := "TabledStoreModel", name := "forget", desc := "()V" } : Jvm.MethodName) prog_5_method_15_code (2 : Nat) (Option.none : Option Jvm.ClassFile.FieldType)) ∈ WB_ := wb_mk (i := 708) (by decide +kernel) (by decide +kernel)
theorem wd_709 : (Jvm.Cond.methodLink "TabledStoreModel" (69 : Nat) ({ cls := "TabledStoreModel", name := "meet", desc := "(I)V" } : Jvm.MethodName)) ∈ WB_ := wb_mk (i := 709) (by decide +kernel) (by decide +kernel)
theorem wd_711 : (Jvm.Cond.instanceMethod ({ cls := "TabledStoreModel", name := "meet", desc := "(I)V" } : Jvm.MethodName)) ∈ WB_ := wb_mk (i := 711) (by decide +kernel) (by decide +kernel)
theorem wd_712 : (Jvm.Cond.code ({ cls := "TabledStoreModel", name := "meet", desc := "(I)V" } : Jvm.MethodName) prog_5_method_13_code (2 : Nat) (Option.none : Option Jvm.ClassFile.FieldType)) ∈ WB_ := wb_mk (i := 712) (by decide +kernel) (by decide +kernel)
theorem wd_713 : (Jvm.Cond.methodLink "TabledStoreModel" (56 : Nat) ({ cls := "TabledStoreModel", name := "isObject", desc := "(I)Z" } : Jvm.MethodName)) ∈ WB_ := wb_mk (i := 713) (by decide +kernel) (by decide +kernel)
theorem wd_714 : (Jvm.Cond.static ({ cls := "TabledStoreModel", name := "isObject", desc := "(I)Z" } : Jvm.MethodName)) ∈ WB_ := wb_mk (i := 714) (by decide +kernel) (by decide +kernel)
theorem wd_715 : (Jvm.Cond.code ({ cls := "TabledStoreModel", name := "isObject", desc := "(I)Z" } : Jvm.MethodName) prog_5_method_4_code (1 : Nat) (Option.some Jvm.ClassFile.FieldType.boolean)) ∈ WB_ := wb_mk (i := 715) (by decide +kernel) (by decide +kernel)
theorem wd_716 : (Jvm.Cond.methodLink "TabledStoreModel" (62 : Nat) ({ cls := "TabledStoreModel", name := "placeOf", desc := "(I)I" } : Jvm.MethodName)) ∈ WB_ := wb_mk (i := 716) (by decide +kernel) (by decide +kernel)
theorem wd_717 : (Jvm.Cond.static ({ cls := "TabledStoreModel", name := "placeOf", desc := "(I)I" } : Jvm.MethodName)) ∈ WB_ := wb_mk (i := 717) (by decide +kernel) (by decide +kernel)
theorem wd_718 : (Jvm.Cond.code ({ cls := "TabledStoreModel", name := "placeOf", desc := "(I)I" } : Jvm.MethodName) prog_5_method_5_code (1 : Nat) (Option.some Jvm.ClassFile.FieldType.int)) ∈ WB_ := wb_mk (i := 718) (by decide +kernel) (by decide +kernel)
theorem wd_719 : (Jvm.Cond.methodLink "TabledStoreModel" (83 : Nat) ({ cls := "TabledStoreModel", name := "spread", desc := "()V" } : Jvm.MethodName)) ∈ WB_ := wb_mk (i := 719) (by decide +kernel) (by decide +kernel)
theorem wd_721 : (Jvm.Cond.instanceMethod ({ cls := "TabledStoreModel", name := "spread", desc := "()V" } : Jvm.MethodName)) ∈ WB_ := wb_mk (i := 721) (by decide +kernel) (by decide +kernel)
theorem wd_722 : (Jvm.Cond.code ({ cls := "TabledStoreModel", name := "spread", desc := "()V" } : Jvm.MethodName) prog_5_method_14_code (4 : Nat) (Option.none : Option Jvm.ClassFile.FieldType)) ∈ WB_ := wb_mk (i := 722) (by decide +kernel) (by decide +kernel)
theorem wd_723 : (Jvm.Cond.methodLink "TabledStoreModel" (76 : Nat) ({ cls := "TabledStoreModel", name := "cellsFor", desc := "(IZ)I" } : Jvm.MethodName)) ∈ WB_ := wb_mk (i := 723) (by decide +kernel) (by decide +kernel)
theorem wd_724 : (Jvm.Cond.static ({ cls := "TabledStoreModel", name := "cellsFor", desc := "(IZ)I" } : Jvm.MethodName)) ∈ WB_ := wb_mk (i := 724) (by decide +kernel) (by decide +kernel)
theorem wd_725 : (Jvm.Cond.code ({ cls := "TabledStoreModel", name := "cellsFor", desc := "(IZ)I" } : Jvm.MethodName) prog_5_method_11_code (2 : Nat) (Option.some Jvm.ClassFile.FieldType.int)) ∈ WB_ := wb_mk (i := 725) (by decide +kernel) (by decide +kernel)
theorem wd_726 : (Jvm.Cond.methodLink "TabledStoreModel" (98 : Nat) ({ cls := "TabledStoreModel", name := "giveBack", desc := "()V" } : Jvm.MethodName)) ∈ WB_ := wb_mk (i := 726) (by decide +kernel) (by decide +kernel)
theorem wd_728 : (Jvm.Cond.instanceMethod ({ cls := "TabledStoreModel", name := "giveBack", desc := "()V" } : Jvm.MethodName)) ∈ WB_ := wb_mk (i := 728) (by decide +kernel) (by decide +kernel)
theorem wd_729 : (Jvm.Cond.code ({ cls := "TabledStoreModel", name := "giveBack", desc := "()V" } : Jvm.MethodName) prog_5_method_17_code (4 : Nat) (Option.none : Option Jvm.ClassFile.FieldType)) ∈ WB_ := wb_mk (i := 729) (by decide +kernel) (by decide +kernel)
theorem wd_730 : (Jvm.Cond.methodLink "TabledStoreModel" (107 : Nat) ({ cls := "TabledStoreModel", name := "add", desc := "(IIZ)I" } : Jvm.MethodName)) ∈ WB_ := wb_mk (i := 730) (by decide +kernel) (by decide +kernel)
theorem wd_732 : (Jvm.Cond.instanceMethod ({ cls := "TabledStoreModel", name := "add", desc := "(IIZ)I" } : Jvm.MethodName)) ∈ WB_ := wb_mk (i := 732) (by decide +kernel) (by decide +kernel)
theorem wd_733 : (Jvm.Cond.code ({ cls := "TabledStoreModel", name := "add", desc := "(IIZ)I" } : Jvm.MethodName) prog_5_method_18_code (7 : Nat) (Option.some Jvm.ClassFile.FieldType.int)) ∈ WB_ := wb_mk (i := 733) (by decide +kernel) (by decide +kernel)
theorem wd_734 : (Jvm.Cond.methodLink "TabledStoreModel" (111 : Nat) ({ cls := "TabledStoreModel", name := "valueOf", desc := "(I)I" } : Jvm.MethodName)) ∈ WB_ := wb_mk (i := 734) (by decide +kernel) (by decide +kernel)
theorem wd_735 : (Jvm.Cond.static ({ cls := "TabledStoreModel", name := "valueOf", desc := "(I)I" } : Jvm.MethodName)) ∈ WB_ := wb_mk (i := 735) (by decide +kernel) (by decide +kernel)
theorem wd_736 : (Jvm.Cond.code ({ cls := "TabledStoreModel", name := "valueOf", desc := "(I)I" } : Jvm.MethodName) prog_5_method_6_code (1 : Nat) (Option.some Jvm.ClassFile.FieldType.int)) ∈ WB_ := wb_mk (i := 736) (by decide +kernel) (by decide +kernel)
theorem wd_741 : (Jvm.Cond.methodLink "TabledStoreModel" (59 : Nat) ({ cls := "TabledStoreModel", name := "has", desc := "(I)Z" } : Jvm.MethodName)) ∈ WB_ := wb_mk (i := 741) (by decide +kernel) (by decide +kernel)
theorem wd_743 : (Jvm.Cond.instanceMethod ({ cls := "TabledStoreModel", name := "has", desc := "(I)Z" } : Jvm.MethodName)) ∈ WB_ := wb_mk (i := 743) (by decide +kernel) (by decide +kernel)
theorem wd_744 : (Jvm.Cond.code ({ cls := "TabledStoreModel", name := "has", desc := "(I)Z" } : Jvm.MethodName) prog_5_method_7_code (2 : Nat) (Option.some Jvm.ClassFile.FieldType.boolean)) ∈ WB_ := wb_mk (i := 744) (by decide +kernel) (by decide +kernel)
theorem wd_745 : (Jvm.Cond.methodLink "TabledStoreModel" (114 : Nat) ({ cls := "TabledStoreModel", name := "sizeOf", desc := "(I)I" } : Jvm.MethodName)) ∈ WB_ := wb_mk (i := 745) (by decide +kernel) (by decide +kernel)
theorem wd_747 : (Jvm.Cond.instanceMethod ({ cls := "TabledStoreModel", name := "sizeOf", desc := "(I)I" } : Jvm.MethodName)) ∈ WB_ := wb_mk (i := 747) (by decide +kernel) (by decide +kernel)
theorem wd_748 : (Jvm.Cond.code ({ cls := "TabledStoreModel", name := "sizeOf", desc := "(I)I" } : Jvm.MethodName) prog_5_method_10_code (2 : Nat) (Option.some Jvm.ClassFile.FieldType.int)) ∈ WB_ := wb_mk (i := 748) (by decide +kernel) (by decide +kernel)
theorem wd_749 : (Jvm.Cond.methodLink "TabledStoreModel" (117 : Nat) ({ cls := "TabledStoreModel", name := "hasBytes", desc := "(I)Z" } : Jvm.MethodName)) ∈ WB_ := wb_mk (i := 749) (by decide +kernel) (by decide +kernel)
theorem wd_751 : (Jvm.Cond.instanceMethod ({ cls := "TabledStoreModel", name := "hasBytes", desc := "(I)Z" } : Jvm.MethodName)) ∈ WB_ := wb_mk (i := 751) (by decide +kernel) (by decide +kernel)
theorem wd_752 : (Jvm.Cond.code ({ cls := "TabledStoreModel", name := "hasBytes", desc := "(I)Z" } : Jvm.MethodName) prog_5_method_9_code (2 : Nat) (Option.some Jvm.ClassFile.FieldType.boolean)) ∈ WB_ := wb_mk (i := 752) (by decide +kernel) (by decide +kernel)
theorem wd_761 : (Jvm.Cond.methodLink "TabledStoreModel" (120 : Nat) ({ cls := "TabledStoreModel", name := "hasSlots", desc := "(I)Z" } : Jvm.MethodName)) ∈ WB_ := wb_mk (i := 761) (by decide +kernel) (by decide +kernel)
theorem wd_763 : (Jvm.Cond.instanceMethod ({ cls := "TabledStoreModel", name := "hasSlots", desc := "(I)Z" } : Jvm.MethodName)) ∈ WB_ := wb_mk (i := 763) (by decide +kernel) (by decide +kernel)
theorem wd_764 : (Jvm.Cond.code ({ cls := "TabledStoreModel", name := "hasSlots", desc := "(I)Z" } : Jvm.MethodName) prog_5_method_8_code (2 : Nat) (Option.some Jvm.ClassFile.FieldType.boolean)) ∈ WB_ := wb_mk (i := 764) (by decide +kernel) (by decide +kernel)
theorem wd_765 : (Jvm.Cond.methodLink "TabledStoreModel" (123 : Nat) ({ cls := "TabledStoreModel", name := "cellAt", desc := "(II)I" } : Jvm.MethodName)) ∈ WB_ := wb_mk (i := 765) (by decide +kernel) (by decide +kernel)
theorem wd_767 : (Jvm.Cond.instanceMethod ({ cls := "TabledStoreModel", name := "cellAt", desc := "(II)I" } : Jvm.MethodName)) ∈ WB_ := wb_mk (i := 767) (by decide +kernel) (by decide +kernel)
theorem wd_768 : (Jvm.Cond.code ({ cls := "TabledStoreModel", name := "cellAt", desc := "(II)I" } : Jvm.MethodName) prog_5_method_12_code (5 : Nat) (Option.some Jvm.ClassFile.FieldType.int)) ∈ WB_ := wb_mk (i := 768) (by decide +kernel) (by decide +kernel)
theorem wd_789 : (Jvm.Cond.methodLink "TabledStoreModel" (127 : Nat) ({ cls := "TabledStoreModel", name := "byteOf", desc := "(II)I" } : Jvm.MethodName)) ∈ WB_ := wb_mk (i := 789) (by decide +kernel) (by decide +kernel)
theorem wd_791 : (Jvm.Cond.instanceMethod ({ cls := "TabledStoreModel", name := "byteOf", desc := "(II)I" } : Jvm.MethodName)) ∈ WB_ := wb_mk (i := 791) (by decide +kernel) (by decide +kernel)
theorem wd_792 : (Jvm.Cond.code ({ cls := "TabledStoreModel", name := "byteOf", desc := "(II)I" } : Jvm.MethodName) prog_5_method_31_code (3 : Nat) (Option.some Jvm.ClassFile.FieldType.int)) ∈ WB_ := wb_mk (i := 792) (by decide +kernel) (by decide +kernel)
theorem wd_797 : (Jvm.Cond.constantLong "TabledStoreModel" (130 : Nat) (255 : Int64)) ∈ WB_ := wb_mk (i := 797) (by decide +kernel) (by decide +kernel)
theorem wd_798 : (Jvm.Cond.methodLink "TabledStoreModel" (132 : Nat) ({ cls := "TabledStoreModel", name := "setByte", desc := "(III)V" } : Jvm.MethodName)) ∈ WB_ := wb_mk (i := 798) (by decide +kernel) (by decide +kernel)
theorem wd_800 : (Jvm.Cond.instanceMethod ({ cls := "TabledStoreModel", name := "setByte", desc := "(III)V" } : Jvm.MethodName)) ∈ WB_ := wb_mk (i := 800) (by decide +kernel) (by decide +kernel)
theorem wd_801 : (Jvm.Cond.code ({ cls := "TabledStoreModel", name := "setByte", desc := "(III)V" } : Jvm.MethodName) prog_5_method_32_code (6 : Nat) (Option.none : Option Jvm.ClassFile.FieldType)) ∈ WB_ := wb_mk (i := 801) (by decide +kernel) (by decide +kernel)
theorem wd_834 : (Jvm.Cond.methodLink "TabledStoreModel" (136 : Nat) ({ cls := "TabledStoreModel", name := "nextOf", desc := "(II)I" } : Jvm.MethodName)) ∈ WB_ := wb_mk (i := 834) (by decide +kernel) (by decide +kernel)
theorem wd_836 : (Jvm.Cond.instanceMethod ({ cls := "TabledStoreModel", name := "nextOf", desc := "(II)I" } : Jvm.MethodName)) ∈ WB_ := wb_mk (i := 836) (by decide +kernel) (by decide +kernel)
theorem wd_837 : (Jvm.Cond.code ({ cls := "TabledStoreModel", name := "nextOf", desc := "(II)I" } : Jvm.MethodName) prog_5_method_42_code (7 : Nat) (Option.some Jvm.ClassFile.FieldType.int)) ∈ WB_ := wb_mk (i := 837) (by decide +kernel) (by decide +kernel)
theorem g_R_52 : GoodIn WB_ (va_wsS R_R 52 y_R_isRegister ws_R_isRegister) := gS_ wd_680 wd_681 wd_40 wd_682
theorem g_R_56 : GoodIn WB_ (va_wsS R_R 56 y_R_isObject ws_R_isObject) := gS_ wd_713 wd_714 wd_40 wd_715
theorem g_R_59 : GoodIn WB_ (wsV R_R 59 R_R y_R_has ws_R_has) := gV_ wd_741 wd_743 wd_29 wd_40 wd_744
theorem g_R_62 : GoodIn WB_ (va_wsS R_R 62 y_R_placeOf ws_R_placeOf) := gS_ wd_716 wd_717 wd_40 wd_718
theorem g_R_123 : GoodIn WB_ (wsV R_R 123 R_R y_R_cellAt ws_R_cellAt) := gV_ wd_765 wd_767 wd_33 wd_40 wd_768
theorem g_R_69 : GoodIn WB_ (wsV R_R 69 R_R y_R_meet ws_R_meet) := gV_ wd_709 wd_711 wd_25 wd_40 wd_712
theorem g_R_76 : GoodIn WB_ (va_wsS R_R 76 y_R_cellsFor ws_R_cellsFor) := gS_ wd_723 wd_724 wd_40 wd_725
theorem g_R_80 : GoodIn WB_ (wsV R_R 80 R_R y_R_forget ws_R_forget) := gV_ wd_705 wd_707 wd_24 wd_40 wd_708
theorem g_R_83 : GoodIn WB_ (wsV R_R 83 R_R y_R_spread ws_R_spread) := gV_ wd_719 wd_721 wd_26 wd_40 wd_722
theorem g_R_95 : GoodIn WB_ (wsV R_R 95 R_R y_R_reach ws_R_reach) := gV_ wd_701 wd_703 wd_23 wd_40 wd_704
theorem g_R_98 : GoodIn WB_ (wsV R_R 98 R_R y_R_giveBack ws_R_giveBack) := gV_ wd_726 wd_728 wd_27 wd_40 wd_729
theorem g_R_103 : GoodIn WB_ (wsV R_R 103 R_R y_R_canMake ws_R_canMake) := gV_ wd_697 wd_699 wd_22 wd_40 wd_700
theorem g_R_107 : GoodIn WB_ (wsV R_R 107 R_R y_R_add ws_R_add) := gV_ wd_730 wd_732 wd_28 wd_40 wd_733
theorem g_R_111 : GoodIn WB_ (va_wsS R_R 111 y_R_valueOf ws_R_valueOf) := gS_ wd_734 wd_735 wd_40 wd_736
theorem g_R_114 : GoodIn WB_ (wsV R_R 114 R_R y_R_sizeOf ws_R_sizeOf) := gV_ wd_745 wd_747 wd_30 wd_40 wd_748
theorem g_R_117 : GoodIn WB_ (wsV R_R 117 R_R y_R_hasBytes ws_R_hasBytes) := gV_ wd_749 wd_751 wd_31 wd_40 wd_752
theorem g_R_120 : GoodIn WB_ (wsV R_R 120 R_R y_R_hasSlots ws_R_hasSlots) := gV_ wd_761 wd_763 wd_32 wd_40 wd_764
theorem g_R_127 : GoodIn WB_ (wsV R_R 127 R_R y_R_byteOf ws_R_byteOf) := gV_ wd_789 wd_791 wd_34 wd_40 wd_792
theorem g_R_132 : GoodIn WB_ (wsV R_R 132 R_R y_R_setByte ws_R_setByte) := gV_ wd_798 wd_800 wd_35 wd_40 wd_801
theorem g_R_136 : GoodIn WB_ (wsV R_R 136 R_R y_R_nextOf ws_R_nextOf) := gV_ wd_834 wd_836 wd_36 wd_40 wd_837
theorem d_R_init_0 : decode c_R_init 0 = .ok (.aload_n 0, 1) := by decide +kernel
theorem d_R_init_1 : decode c_R_init 1 = .ok (.invokespecial 1, 3) := by decide +kernel
theorem d_R_init_4 : decode c_R_init 4 = .ok (.aload_n 0, 1) := by decide +kernel
theorem d_R_init_5 : decode c_R_init 5 = .ok (.bipush 32, 2) := by decide +kernel
theorem d_R_init_7 : decode c_R_init 7 = .ok (.newarray .int, 2) := by decide +kernel
theorem d_R_init_9 : decode c_R_init 9 = .ok (.putfield 7, 3) := by decide +kernel
theorem d_R_init_12 : decode c_R_init 12 = .ok (.aload_n 0, 1) := by decide +kernel
theorem d_R_init_13 : decode c_R_init 13 = .ok (.iload_n 1, 1) := by decide +kernel
theorem d_R_init_14 : decode c_R_init 14 = .ok (.bipush 64, 2) := by decide +kernel
theorem d_R_init_16 : decode c_R_init 16 = .ok (.if_icmp .lt 13, 3) := by decide +kernel
theorem d_R_init_19 : decode c_R_init 19 = .ok (.iload_n 1, 1) := by decide +kernel
theorem d_R_init_20 : decode c_R_init 20 = .ok (.ldc 13, 2) := by decide +kernel
theorem d_R_init_22 : decode c_R_init 22 = .ok (.if_icmp .gt 7, 3) := by decide +kernel
theorem d_R_init_25 : decode c_R_init 25 = .ok (.iload_n 1, 1) := by decide +kernel
theorem d_R_init_26 : decode c_R_init 26 = .ok (.goto 5, 3) := by decide +kernel
theorem d_R_init_29 : decode c_R_init 29 = .ok (.ldc 13, 2) := by decide +kernel
theorem d_R_init_31 : decode c_R_init 31 = .ok (.putfield 14, 3) := by decide +kernel
theorem d_R_init_34 : decode c_R_init 34 = .ok (.aload_n 0, 1) := by decide +kernel
theorem d_R_init_35 : decode c_R_init 35 = .ok (.iload_n 2, 1) := by decide +kernel
theorem d_R_init_36 : decode c_R_init 36 = .ok (.bipush 16, 2) := by decide +kernel
theorem d_R_init_38 : decode c_R_init 38 = .ok (.if_icmp .lt 14, 3) := by decide +kernel
theorem d_R_init_41 : decode c_R_init 41 = .ok (.iload_n 2, 1) := by decide +kernel
theorem d_R_init_42 : decode c_R_init 42 = .ok (.sipush 8192, 3) := by decide +kernel
theorem d_R_init_45 : decode c_R_init 45 = .ok (.if_icmp .gt 7, 3) := by decide +kernel
theorem d_R_init_48 : decode c_R_init 48 = .ok (.iload_n 2, 1) := by decide +kernel
theorem d_R_init_49 : decode c_R_init 49 = .ok (.goto 6, 3) := by decide +kernel
theorem d_R_init_52 : decode c_R_init 52 = .ok (.sipush 8192, 3) := by decide +kernel
theorem d_R_init_55 : decode c_R_init 55 = .ok (.putfield 18, 3) := by decide +kernel
theorem d_R_init_58 : decode c_R_init 58 = .ok (.aload_n 0, 1) := by decide +kernel
theorem d_R_init_59 : decode c_R_init 59 = .ok (.sipush 8192, 3) := by decide +kernel
theorem d_R_init_62 : decode c_R_init 62 = .ok (.newarray .int, 2) := by decide +kernel
theorem d_R_init_64 : decode c_R_init 64 = .ok (.putfield 21, 3) := by decide +kernel
theorem d_R_init_67 : decode c_R_init 67 = .ok (.aload_n 0, 1) := by decide +kernel
theorem d_R_init_68 : decode c_R_init 68 = .ok (.sipush 8192, 3) := by decide +kernel
theorem d_R_init_71 : decode c_R_init 71 = .ok (.newarray .int, 2) := by decide +kernel
theorem d_R_init_73 : decode c_R_init 73 = .ok (.putfield 24, 3) := by decide +kernel
theorem d_R_init_76 : decode c_R_init 76 = .ok (.aload_n 0, 1) := by decide +kernel
theorem d_R_init_77 : decode c_R_init 77 = .ok (.sipush 8192, 3) := by decide +kernel
theorem d_R_init_80 : decode c_R_init 80 = .ok (.newarray .boolean, 2) := by decide +kernel
theorem d_R_init_82 : decode c_R_init 82 = .ok (.putfield 27, 3) := by decide +kernel
theorem d_R_init_85 : decode c_R_init 85 = .ok (.aload_n 0, 1) := by decide +kernel
theorem d_R_init_86 : decode c_R_init 86 = .ok (.sipush 8192, 3) := by decide +kernel
theorem d_R_init_89 : decode c_R_init 89 = .ok (.newarray .int, 2) := by decide +kernel
theorem d_R_init_91 : decode c_R_init 91 = .ok (.putfield 31, 3) := by decide +kernel
theorem d_R_init_94 : decode c_R_init 94 = .ok (.aload_n 0, 1) := by decide +kernel
theorem d_R_init_95 : decode c_R_init 95 = .ok (.sipush 8192, 3) := by decide +kernel
theorem d_R_init_98 : decode c_R_init 98 = .ok (.newarray .int, 2) := by decide +kernel
theorem d_R_init_100 : decode c_R_init 100 = .ok (.putfield 34, 3) := by decide +kernel
theorem d_R_init_103 : decode c_R_init 103 = .ok (.aload_n 0, 1) := by decide +kernel
theorem d_R_init_104 : decode c_R_init 104 = .ok (.sipush 8192, 3) := by decide +kernel
theorem d_R_init_107 : decode c_R_init 107 = .ok (.newarray .boolean, 2) := by decide +kernel
theorem d_R_init_109 : decode c_R_init 109 = .ok (.putfield 37, 3) := by decide +kernel
theorem d_R_init_112 : decode c_R_init 112 = .ok (.aload_n 0, 1) := by decide +kernel
theorem d_R_init_113 : decode c_R_init 113 = .ok (.sipush 8192, 3) := by decide +kernel
theorem d_R_init_116 : decode c_R_init 116 = .ok (.newarray .int, 2) := by decide +kernel
theorem d_R_init_118 : decode c_R_init 118 = .ok (.putfield 40, 3) := by decide +kernel
theorem d_R_init_121 : decode c_R_init 121 = .ok (.aload_n 0, 1) := by decide +kernel
theorem d_R_init_122 : decode c_R_init 122 = .ok (.ldc 13, 2) := by decide +kernel
theorem d_R_init_124 : decode c_R_init 124 = .ok (.newarray .int, 2) := by decide +kernel
theorem d_R_init_126 : decode c_R_init 126 = .ok (.putfield 43, 3) := by decide +kernel
theorem d_R_init_129 : decode c_R_init 129 = .ok (.aload_n 0, 1) := by decide +kernel
theorem d_R_init_130 : decode c_R_init 130 = .ok (.ldc 13, 2) := by decide +kernel
theorem d_R_init_132 : decode c_R_init 132 = .ok (.newarray .int, 2) := by decide +kernel
theorem d_R_init_134 : decode c_R_init 134 = .ok (.putfield 46, 3) := by decide +kernel
theorem d_R_init_137 : decode c_R_init 137 = .ok (.iconst 0, 1) := by decide +kernel
theorem d_R_init_138 : decode c_R_init 138 = .ok (.istore_n 3, 1) := by decide +kernel
theorem d_R_init_139 : decode c_R_init 139 = .ok (.iload_n 3, 1) := by decide +kernel
theorem d_R_init_140 : decode c_R_init 140 = .ok (.aload_n 0, 1) := by decide +kernel
theorem d_R_init_141 : decode c_R_init 141 = .ok (.getfield 14, 3) := by decide +kernel
theorem d_R_init_144 : decode c_R_init 144 = .ok (.if_icmp .ge 32, 3) := by decide +kernel
theorem d_R_init_147 : decode c_R_init 147 = .ok (.aload_n 0, 1) := by decide +kernel
theorem d_R_init_148 : decode c_R_init 148 = .ok (.getfield 46, 3) := by decide +kernel
theorem d_R_init_151 : decode c_R_init 151 = .ok (.iload_n 3, 1) := by decide +kernel
theorem d_R_init_152 : decode c_R_init 152 = .ok (.iload_n 3, 1) := by decide +kernel
theorem d_R_init_153 : decode c_R_init 153 = .ok (.iconst 1, 1) := by decide +kernel
theorem d_R_init_154 : decode c_R_init 154 = .ok (.iadd, 1) := by decide +kernel
theorem d_R_init_155 : decode c_R_init 155 = .ok (.aload_n 0, 1) := by decide +kernel
theorem d_R_init_156 : decode c_R_init 156 = .ok (.getfield 14, 3) := by decide +kernel
theorem d_R_init_159 : decode c_R_init 159 = .ok (.if_icmp .ge 9, 3) := by decide +kernel
theorem d_R_init_162 : decode c_R_init 162 = .ok (.iload_n 3, 1) := by decide +kernel
theorem d_R_init_163 : decode c_R_init 163 = .ok (.iconst 1, 1) := by decide +kernel
theorem d_R_init_164 : decode c_R_init 164 = .ok (.iadd, 1) := by decide +kernel
theorem d_R_init_165 : decode c_R_init 165 = .ok (.goto 4, 3) := by decide +kernel
theorem d_R_init_168 : decode c_R_init 168 = .ok (.iconst (-1), 1) := by decide +kernel
theorem d_R_init_169 : decode c_R_init 169 = .ok (.iastore, 1) := by decide +kernel
theorem d_R_init_170 : decode c_R_init 170 = .ok (.iinc 3 1, 3) := by decide +kernel
theorem d_R_init_173 : decode c_R_init 173 = .ok (.goto (-34), 3) := by decide +kernel
theorem d_R_init_176 : decode c_R_init 176 = .ok (.return_, 1) := by decide +kernel
theorem d_R_thrown_0 : decode c_R_thrown 0 = .ok (.aload_n 0, 1) := by decide +kernel
theorem d_R_thrown_1 : decode c_R_thrown 1 = .ok (.getfield 49, 3) := by decide +kernel
theorem d_R_thrown_4 : decode c_R_thrown 4 = .ok (.ireturn, 1) := by decide +kernel
theorem d_R_isRegister_0 : decode c_R_isRegister 0 = .ok (.iload_n 0, 1) := by decide +kernel
theorem d_R_isRegister_1 : decode c_R_isRegister 1 = .ok (.ifCond .lt 13, 3) := by decide +kernel
theorem d_R_isRegister_4 : decode c_R_isRegister 4 = .ok (.iload_n 0, 1) := by decide +kernel
theorem d_R_isRegister_5 : decode c_R_isRegister 5 = .ok (.bipush 32, 2) := by decide +kernel
theorem d_R_isRegister_7 : decode c_R_isRegister 7 = .ok (.if_icmp .ge 7, 3) := by decide +kernel
theorem d_R_isRegister_10 : decode c_R_isRegister 10 = .ok (.iconst 1, 1) := by decide +kernel
theorem d_R_isRegister_11 : decode c_R_isRegister 11 = .ok (.goto 4, 3) := by decide +kernel
theorem d_R_isRegister_14 : decode c_R_isRegister 14 = .ok (.iconst 0, 1) := by decide +kernel
theorem d_R_isRegister_15 : decode c_R_isRegister 15 = .ok (.ireturn, 1) := by decide +kernel
theorem d_R_isObject_0 : decode c_R_isObject 0 = .ok (.iload_n 0, 1) := by decide +kernel
theorem d_R_isObject_1 : decode c_R_isObject 1 = .ok (.ifCond .eq 13, 3) := by decide +kernel
theorem d_R_isObject_4 : decode c_R_isObject 4 = .ok (.iload_n 0, 1) := by decide +kernel
theorem d_R_isObject_5 : decode c_R_isObject 5 = .ok (.iconst 1, 1) := by decide +kernel
theorem d_R_isObject_6 : decode c_R_isObject 6 = .ok (.iand, 1) := by decide +kernel
theorem d_R_isObject_7 : decode c_R_isObject 7 = .ok (.ifCond .ne 7, 3) := by decide +kernel
theorem d_R_isObject_10 : decode c_R_isObject 10 = .ok (.iconst 1, 1) := by decide +kernel
theorem d_R_isObject_11 : decode c_R_isObject 11 = .ok (.goto 4, 3) := by decide +kernel
theorem d_R_isObject_14 : decode c_R_isObject 14 = .ok (.iconst 0, 1) := by decide +kernel
theorem d_R_isObject_15 : decode c_R_isObject 15 = .ok (.ireturn, 1) := by decide +kernel
theorem d_R_placeOf_0 : decode c_R_placeOf 0 = .ok (.iload_n 0, 1) := by decide +kernel
theorem d_R_placeOf_1 : decode c_R_placeOf 1 = .ok (.iconst 2, 1) := by decide +kernel
theorem d_R_placeOf_2 : decode c_R_placeOf 2 = .ok (.idiv, 1) := by decide +kernel
theorem d_R_placeOf_3 : decode c_R_placeOf 3 = .ok (.iconst 1, 1) := by decide +kernel
theorem d_R_placeOf_4 : decode c_R_placeOf 4 = .ok (.isub, 1) := by decide +kernel
theorem d_R_placeOf_5 : decode c_R_placeOf 5 = .ok (.ireturn, 1) := by decide +kernel
theorem d_R_valueOf_0 : decode c_R_valueOf 0 = .ok (.iconst 2, 1) := by decide +kernel
theorem d_R_valueOf_1 : decode c_R_valueOf 1 = .ok (.iload_n 0, 1) := by decide +kernel
theorem d_R_valueOf_2 : decode c_R_valueOf 2 = .ok (.imul, 1) := by decide +kernel
theorem d_R_valueOf_3 : decode c_R_valueOf 3 = .ok (.iconst 2, 1) := by decide +kernel
theorem d_R_valueOf_4 : decode c_R_valueOf 4 = .ok (.iadd, 1) := by decide +kernel
theorem d_R_valueOf_5 : decode c_R_valueOf 5 = .ok (.ireturn, 1) := by decide +kernel
theorem d_R_has_0 : decode c_R_has 0 = .ok (.iload_n 1, 1) := by decide +kernel
theorem d_R_has_1 : decode c_R_has 1 = .ok (.invokestatic 52, 3) := by decide +kernel
theorem d_R_has_4 : decode c_R_has 4 = .ok (.ifCond .eq 19, 3) := by decide +kernel
theorem d_R_has_7 : decode c_R_has 7 = .ok (.aload_n 0, 1) := by decide +kernel
theorem d_R_has_8 : decode c_R_has 8 = .ok (.getfield 7, 3) := by decide +kernel
theorem d_R_has_11 : decode c_R_has 11 = .ok (.iload_n 1, 1) := by decide +kernel
theorem d_R_has_12 : decode c_R_has 12 = .ok (.iaload, 1) := by decide +kernel
theorem d_R_has_13 : decode c_R_has 13 = .ok (.invokestatic 56, 3) := by decide +kernel
theorem d_R_has_16 : decode c_R_has 16 = .ok (.ifCond .eq 7, 3) := by decide +kernel
theorem d_R_has_19 : decode c_R_has 19 = .ok (.iconst 1, 1) := by decide +kernel
theorem d_R_has_20 : decode c_R_has 20 = .ok (.goto 4, 3) := by decide +kernel
theorem d_R_has_23 : decode c_R_has 23 = .ok (.iconst 0, 1) := by decide +kernel
theorem d_R_has_24 : decode c_R_has 24 = .ok (.ireturn, 1) := by decide +kernel
theorem d_R_hasSlots_0 : decode c_R_hasSlots 0 = .ok (.aload_n 0, 1) := by decide +kernel
theorem d_R_hasSlots_1 : decode c_R_hasSlots 1 = .ok (.iload_n 1, 1) := by decide +kernel
theorem d_R_hasSlots_2 : decode c_R_hasSlots 2 = .ok (.invokevirtual 59, 3) := by decide +kernel
theorem d_R_hasSlots_5 : decode c_R_hasSlots 5 = .ok (.ifCond .eq 24, 3) := by decide +kernel
theorem d_R_hasSlots_8 : decode c_R_hasSlots 8 = .ok (.aload_n 0, 1) := by decide +kernel
theorem d_R_hasSlots_9 : decode c_R_hasSlots 9 = .ok (.getfield 27, 3) := by decide +kernel
theorem d_R_hasSlots_12 : decode c_R_hasSlots 12 = .ok (.aload_n 0, 1) := by decide +kernel
theorem d_R_hasSlots_13 : decode c_R_hasSlots 13 = .ok (.getfield 7, 3) := by decide +kernel
theorem d_R_hasSlots_16 : decode c_R_hasSlots 16 = .ok (.iload_n 1, 1) := by decide +kernel
theorem d_R_hasSlots_17 : decode c_R_hasSlots 17 = .ok (.iaload, 1) := by decide +kernel
theorem d_R_hasSlots_18 : decode c_R_hasSlots 18 = .ok (.invokestatic 62, 3) := by decide +kernel
theorem d_R_hasSlots_21 : decode c_R_hasSlots 21 = .ok (.baload, 1) := by decide +kernel
theorem d_R_hasSlots_22 : decode c_R_hasSlots 22 = .ok (.ifCond .ne 7, 3) := by decide +kernel
theorem d_R_hasSlots_25 : decode c_R_hasSlots 25 = .ok (.iconst 1, 1) := by decide +kernel
theorem d_R_hasSlots_26 : decode c_R_hasSlots 26 = .ok (.goto 4, 3) := by decide +kernel
theorem d_R_hasSlots_29 : decode c_R_hasSlots 29 = .ok (.iconst 0, 1) := by decide +kernel
theorem d_R_hasSlots_30 : decode c_R_hasSlots 30 = .ok (.ireturn, 1) := by decide +kernel
theorem d_R_hasBytes_0 : decode c_R_hasBytes 0 = .ok (.aload_n 0, 1) := by decide +kernel
theorem d_R_hasBytes_1 : decode c_R_hasBytes 1 = .ok (.iload_n 1, 1) := by decide +kernel
theorem d_R_hasBytes_2 : decode c_R_hasBytes 2 = .ok (.invokevirtual 59, 3) := by decide +kernel
theorem d_R_hasBytes_5 : decode c_R_hasBytes 5 = .ok (.ifCond .eq 24, 3) := by decide +kernel
theorem d_R_hasBytes_8 : decode c_R_hasBytes 8 = .ok (.aload_n 0, 1) := by decide +kernel
theorem d_R_hasBytes_9 : decode c_R_hasBytes 9 = .ok (.getfield 27, 3) := by decide +kernel
theorem d_R_hasBytes_12 : decode c_R_hasBytes 12 = .ok (.aload_n 0, 1) := by decide +kernel
theorem d_R_hasBytes_13 : decode c_R_hasBytes 13 = .ok (.getfield 7, 3) := by decide +kernel
theorem d_R_hasBytes_16 : decode c_R_hasBytes 16 = .ok (.iload_n 1, 1) := by decide +kernel
theorem d_R_hasBytes_17 : decode c_R_hasBytes 17 = .ok (.iaload, 1) := by decide +kernel
theorem d_R_hasBytes_18 : decode c_R_hasBytes 18 = .ok (.invokestatic 62, 3) := by decide +kernel
theorem d_R_hasBytes_21 : decode c_R_hasBytes 21 = .ok (.baload, 1) := by decide +kernel
theorem d_R_hasBytes_22 : decode c_R_hasBytes 22 = .ok (.ifCond .eq 7, 3) := by decide +kernel
theorem d_R_hasBytes_25 : decode c_R_hasBytes 25 = .ok (.iconst 1, 1) := by decide +kernel
theorem d_R_hasBytes_26 : decode c_R_hasBytes 26 = .ok (.goto 4, 3) := by decide +kernel
theorem d_R_hasBytes_29 : decode c_R_hasBytes 29 = .ok (.iconst 0, 1) := by decide +kernel
theorem d_R_hasBytes_30 : decode c_R_hasBytes 30 = .ok (.ireturn, 1) := by decide +kernel
theorem d_R_sizeOf_0 : decode c_R_sizeOf 0 = .ok (.aload_n 0, 1) := by decide +kernel
theorem d_R_sizeOf_1 : decode c_R_sizeOf 1 = .ok (.getfield 31, 3) := by decide +kernel
theorem d_R_sizeOf_4 : decode c_R_sizeOf 4 = .ok (.aload_n 0, 1) := by decide +kernel
theorem d_R_sizeOf_5 : decode c_R_sizeOf 5 = .ok (.getfield 7, 3) := by decide +kernel
theorem d_R_sizeOf_8 : decode c_R_sizeOf 8 = .ok (.iload_n 1, 1) := by decide +kernel
theorem d_R_sizeOf_9 : decode c_R_sizeOf 9 = .ok (.iaload, 1) := by decide +kernel
theorem d_R_sizeOf_10 : decode c_R_sizeOf 10 = .ok (.invokestatic 62, 3) := by decide +kernel
theorem d_R_sizeOf_13 : decode c_R_sizeOf 13 = .ok (.iaload, 1) := by decide +kernel
theorem d_R_sizeOf_14 : decode c_R_sizeOf 14 = .ok (.ireturn, 1) := by decide +kernel
theorem d_R_cellsFor_0 : decode c_R_cellsFor 0 = .ok (.iload_n 1, 1) := by decide +kernel
theorem d_R_cellsFor_1 : decode c_R_cellsFor 1 = .ok (.ifCond .eq 11, 3) := by decide +kernel
theorem d_R_cellsFor_4 : decode c_R_cellsFor 4 = .ok (.iload_n 0, 1) := by decide +kernel
theorem d_R_cellsFor_5 : decode c_R_cellsFor 5 = .ok (.iconst 3, 1) := by decide +kernel
theorem d_R_cellsFor_6 : decode c_R_cellsFor 6 = .ok (.iadd, 1) := by decide +kernel
theorem d_R_cellsFor_7 : decode c_R_cellsFor 7 = .ok (.iconst 4, 1) := by decide +kernel
theorem d_R_cellsFor_8 : decode c_R_cellsFor 8 = .ok (.idiv, 1) := by decide +kernel
theorem d_R_cellsFor_9 : decode c_R_cellsFor 9 = .ok (.goto 4, 3) := by decide +kernel
theorem d_R_cellsFor_12 : decode c_R_cellsFor 12 = .ok (.iload_n 0, 1) := by decide +kernel
theorem d_R_cellsFor_13 : decode c_R_cellsFor 13 = .ok (.ireturn, 1) := by decide +kernel
theorem d_R_cellAt_0 : decode c_R_cellAt 0 = .ok (.aload_n 0, 1) := by decide +kernel
theorem d_R_cellAt_1 : decode c_R_cellAt 1 = .ok (.getfield 34, 3) := by decide +kernel
theorem d_R_cellAt_4 : decode c_R_cellAt 4 = .ok (.iload_n 1, 1) := by decide +kernel
theorem d_R_cellAt_5 : decode c_R_cellAt 5 = .ok (.iaload, 1) := by decide +kernel
theorem d_R_cellAt_6 : decode c_R_cellAt 6 = .ok (.istore_n 3, 1) := by decide +kernel
theorem d_R_cellAt_7 : decode c_R_cellAt 7 = .ok (.iconst 0, 1) := by decide +kernel
theorem d_R_cellAt_8 : decode c_R_cellAt 8 = .ok (.istore 4, 2) := by decide +kernel
theorem d_R_cellAt_10 : decode c_R_cellAt 10 = .ok (.iload 4, 2) := by decide +kernel
theorem d_R_cellAt_12 : decode c_R_cellAt 12 = .ok (.iload_n 2, 1) := by decide +kernel
theorem d_R_cellAt_13 : decode c_R_cellAt 13 = .ok (.if_icmp .ge 16, 3) := by decide +kernel
theorem d_R_cellAt_16 : decode c_R_cellAt 16 = .ok (.aload_n 0, 1) := by decide +kernel
theorem d_R_cellAt_17 : decode c_R_cellAt 17 = .ok (.getfield 46, 3) := by decide +kernel
theorem d_R_cellAt_20 : decode c_R_cellAt 20 = .ok (.iload_n 3, 1) := by decide +kernel
theorem d_R_cellAt_21 : decode c_R_cellAt 21 = .ok (.iaload, 1) := by decide +kernel
theorem d_R_cellAt_22 : decode c_R_cellAt 22 = .ok (.istore_n 3, 1) := by decide +kernel
theorem d_R_cellAt_23 : decode c_R_cellAt 23 = .ok (.iinc 4 1, 3) := by decide +kernel
theorem d_R_cellAt_26 : decode c_R_cellAt 26 = .ok (.goto (-16), 3) := by decide +kernel
theorem d_R_cellAt_29 : decode c_R_cellAt 29 = .ok (.iload_n 3, 1) := by decide +kernel
theorem d_R_cellAt_30 : decode c_R_cellAt 30 = .ok (.ireturn, 1) := by decide +kernel
theorem d_R_meet_0 : decode c_R_meet 0 = .ok (.iload_n 1, 1) := by decide +kernel
theorem d_R_meet_1 : decode c_R_meet 1 = .ok (.invokestatic 56, 3) := by decide +kernel
theorem d_R_meet_4 : decode c_R_meet 4 = .ok (.ifCond .eq 48, 3) := by decide +kernel
theorem d_R_meet_7 : decode c_R_meet 7 = .ok (.aload_n 0, 1) := by decide +kernel
theorem d_R_meet_8 : decode c_R_meet 8 = .ok (.getfield 37, 3) := by decide +kernel
theorem d_R_meet_11 : decode c_R_meet 11 = .ok (.iload_n 1, 1) := by decide +kernel
theorem d_R_meet_12 : decode c_R_meet 12 = .ok (.invokestatic 62, 3) := by decide +kernel
theorem d_R_meet_15 : decode c_R_meet 15 = .ok (.baload, 1) := by decide +kernel
theorem d_R_meet_16 : decode c_R_meet 16 = .ok (.ifCond .ne 36, 3) := by decide +kernel
theorem d_R_meet_19 : decode c_R_meet 19 = .ok (.aload_n 0, 1) := by decide +kernel
theorem d_R_meet_20 : decode c_R_meet 20 = .ok (.getfield 37, 3) := by decide +kernel
theorem d_R_meet_23 : decode c_R_meet 23 = .ok (.iload_n 1, 1) := by decide +kernel
theorem d_R_meet_24 : decode c_R_meet 24 = .ok (.invokestatic 62, 3) := by decide +kernel
theorem d_R_meet_27 : decode c_R_meet 27 = .ok (.iconst 1, 1) := by decide +kernel
theorem d_R_meet_28 : decode c_R_meet 28 = .ok (.bastore, 1) := by decide +kernel
theorem d_R_meet_29 : decode c_R_meet 29 = .ok (.aload_n 0, 1) := by decide +kernel
theorem d_R_meet_30 : decode c_R_meet 30 = .ok (.getfield 40, 3) := by decide +kernel
theorem d_R_meet_33 : decode c_R_meet 33 = .ok (.aload_n 0, 1) := by decide +kernel
theorem d_R_meet_34 : decode c_R_meet 34 = .ok (.getfield 66, 3) := by decide +kernel
theorem d_R_meet_37 : decode c_R_meet 37 = .ok (.iload_n 1, 1) := by decide +kernel
theorem d_R_meet_38 : decode c_R_meet 38 = .ok (.invokestatic 62, 3) := by decide +kernel
theorem d_R_meet_41 : decode c_R_meet 41 = .ok (.iastore, 1) := by decide +kernel
theorem d_R_meet_42 : decode c_R_meet 42 = .ok (.aload_n 0, 1) := by decide +kernel
theorem d_R_meet_43 : decode c_R_meet 43 = .ok (.aload_n 0, 1) := by decide +kernel
theorem d_R_meet_44 : decode c_R_meet 44 = .ok (.getfield 66, 3) := by decide +kernel
theorem d_R_meet_47 : decode c_R_meet 47 = .ok (.iconst 1, 1) := by decide +kernel
theorem d_R_meet_48 : decode c_R_meet 48 = .ok (.iadd, 1) := by decide +kernel
theorem d_R_meet_49 : decode c_R_meet 49 = .ok (.putfield 66, 3) := by decide +kernel
theorem d_R_meet_52 : decode c_R_meet 52 = .ok (.return_, 1) := by decide +kernel
theorem d_R_spread_0 : decode c_R_spread 0 = .ok (.iconst 0, 1) := by decide +kernel
theorem d_R_spread_1 : decode c_R_spread 1 = .ok (.istore_n 1, 1) := by decide +kernel
theorem d_R_spread_2 : decode c_R_spread 2 = .ok (.iload_n 1, 1) := by decide +kernel
theorem d_R_spread_3 : decode c_R_spread 3 = .ok (.aload_n 0, 1) := by decide +kernel
theorem d_R_spread_4 : decode c_R_spread 4 = .ok (.getfield 66, 3) := by decide +kernel
theorem d_R_spread_7 : decode c_R_spread 7 = .ok (.if_icmp .ge 92, 3) := by decide +kernel
theorem d_R_spread_10 : decode c_R_spread 10 = .ok (.aload_n 0, 1) := by decide +kernel
theorem d_R_spread_11 : decode c_R_spread 11 = .ok (.getfield 40, 3) := by decide +kernel
theorem d_R_spread_14 : decode c_R_spread 14 = .ok (.iload_n 1, 1) := by decide +kernel
theorem d_R_spread_15 : decode c_R_spread 15 = .ok (.iaload, 1) := by decide +kernel
theorem d_R_spread_16 : decode c_R_spread 16 = .ok (.istore_n 2, 1) := by decide +kernel
theorem d_R_spread_17 : decode c_R_spread 17 = .ok (.aload_n 0, 1) := by decide +kernel
theorem d_R_spread_18 : decode c_R_spread 18 = .ok (.aload_n 0, 1) := by decide +kernel
theorem d_R_spread_19 : decode c_R_spread 19 = .ok (.getfield 24, 3) := by decide +kernel
theorem d_R_spread_22 : decode c_R_spread 22 = .ok (.iload_n 2, 1) := by decide +kernel
theorem d_R_spread_23 : decode c_R_spread 23 = .ok (.iaload, 1) := by decide +kernel
theorem d_R_spread_24 : decode c_R_spread 24 = .ok (.invokevirtual 69, 3) := by decide +kernel
theorem d_R_spread_27 : decode c_R_spread 27 = .ok (.aload_n 0, 1) := by decide +kernel
theorem d_R_spread_28 : decode c_R_spread 28 = .ok (.aload_n 0, 1) := by decide +kernel
theorem d_R_spread_29 : decode c_R_spread 29 = .ok (.getfield 73, 3) := by decide +kernel
theorem d_R_spread_32 : decode c_R_spread 32 = .ok (.iconst 4, 1) := by decide +kernel
theorem d_R_spread_33 : decode c_R_spread 33 = .ok (.iadd, 1) := by decide +kernel
theorem d_R_spread_34 : decode c_R_spread 34 = .ok (.aload_n 0, 1) := by decide +kernel
theorem d_R_spread_35 : decode c_R_spread 35 = .ok (.getfield 31, 3) := by decide +kernel
theorem d_R_spread_38 : decode c_R_spread 38 = .ok (.iload_n 2, 1) := by decide +kernel
theorem d_R_spread_39 : decode c_R_spread 39 = .ok (.iaload, 1) := by decide +kernel
theorem d_R_spread_40 : decode c_R_spread 40 = .ok (.aload_n 0, 1) := by decide +kernel
theorem d_R_spread_41 : decode c_R_spread 41 = .ok (.getfield 27, 3) := by decide +kernel
theorem d_R_spread_44 : decode c_R_spread 44 = .ok (.iload_n 2, 1) := by decide +kernel
theorem d_R_spread_45 : decode c_R_spread 45 = .ok (.baload, 1) := by decide +kernel
theorem d_R_spread_46 : decode c_R_spread 46 = .ok (.invokestatic 76, 3) := by decide +kernel
theorem d_R_spread_49 : decode c_R_spread 49 = .ok (.iadd, 1) := by decide +kernel
theorem d_R_spread_50 : decode c_R_spread 50 = .ok (.putfield 73, 3) := by decide +kernel
theorem d_R_spread_53 : decode c_R_spread 53 = .ok (.aload_n 0, 1) := by decide +kernel
theorem d_R_spread_54 : decode c_R_spread 54 = .ok (.getfield 34, 3) := by decide +kernel
theorem d_R_spread_57 : decode c_R_spread 57 = .ok (.iload_n 2, 1) := by decide +kernel
theorem d_R_spread_58 : decode c_R_spread 58 = .ok (.iaload, 1) := by decide +kernel
theorem d_R_spread_59 : decode c_R_spread 59 = .ok (.istore_n 3, 1) := by decide +kernel
theorem d_R_spread_60 : decode c_R_spread 60 = .ok (.iload_n 3, 1) := by decide +kernel
theorem d_R_spread_61 : decode c_R_spread 61 = .ok (.ifCond .lt 32, 3) := by decide +kernel
theorem d_R_spread_64 : decode c_R_spread 64 = .ok (.aload_n 0, 1) := by decide +kernel
theorem d_R_spread_65 : decode c_R_spread 65 = .ok (.getfield 27, 3) := by decide +kernel
theorem d_R_spread_68 : decode c_R_spread 68 = .ok (.iload_n 2, 1) := by decide +kernel
theorem d_R_spread_69 : decode c_R_spread 69 = .ok (.baload, 1) := by decide +kernel
theorem d_R_spread_70 : decode c_R_spread 70 = .ok (.ifCond .ne 23, 3) := by decide +kernel
theorem d_R_spread_73 : decode c_R_spread 73 = .ok (.aload_n 0, 1) := by decide +kernel
theorem d_R_spread_74 : decode c_R_spread 74 = .ok (.aload_n 0, 1) := by decide +kernel
theorem d_R_spread_75 : decode c_R_spread 75 = .ok (.getfield 43, 3) := by decide +kernel
theorem d_R_spread_78 : decode c_R_spread 78 = .ok (.iload_n 3, 1) := by decide +kernel
theorem d_R_spread_79 : decode c_R_spread 79 = .ok (.iaload, 1) := by decide +kernel
theorem d_R_spread_80 : decode c_R_spread 80 = .ok (.invokevirtual 69, 3) := by decide +kernel
theorem d_R_spread_83 : decode c_R_spread 83 = .ok (.aload_n 0, 1) := by decide +kernel
theorem d_R_spread_84 : decode c_R_spread 84 = .ok (.getfield 46, 3) := by decide +kernel
theorem d_R_spread_87 : decode c_R_spread 87 = .ok (.iload_n 3, 1) := by decide +kernel
theorem d_R_spread_88 : decode c_R_spread 88 = .ok (.iaload, 1) := by decide +kernel
theorem d_R_spread_89 : decode c_R_spread 89 = .ok (.istore_n 3, 1) := by decide +kernel
theorem d_R_spread_90 : decode c_R_spread 90 = .ok (.goto (-30), 3) := by decide +kernel
theorem d_R_spread_93 : decode c_R_spread 93 = .ok (.iinc 1 1, 3) := by decide +kernel
theorem d_R_spread_96 : decode c_R_spread 96 = .ok (.goto (-94), 3) := by decide +kernel
theorem d_R_spread_99 : decode c_R_spread 99 = .ok (.return_, 1) := by decide +kernel
theorem d_R_forget_0 : decode c_R_forget 0 = .ok (.iconst 0, 1) := by decide +kernel
theorem d_R_forget_1 : decode c_R_forget 1 = .ok (.istore_n 1, 1) := by decide +kernel
theorem d_R_forget_2 : decode c_R_forget 2 = .ok (.iload_n 1, 1) := by decide +kernel
theorem d_R_forget_3 : decode c_R_forget 3 = .ok (.aload_n 0, 1) := by decide +kernel
theorem d_R_forget_4 : decode c_R_forget 4 = .ok (.getfield 18, 3) := by decide +kernel
theorem d_R_forget_7 : decode c_R_forget 7 = .ok (.if_icmp .ge 16, 3) := by decide +kernel
theorem d_R_forget_10 : decode c_R_forget 10 = .ok (.aload_n 0, 1) := by decide +kernel
theorem d_R_forget_11 : decode c_R_forget 11 = .ok (.getfield 37, 3) := by decide +kernel
theorem d_R_forget_14 : decode c_R_forget 14 = .ok (.iload_n 1, 1) := by decide +kernel
theorem d_R_forget_15 : decode c_R_forget 15 = .ok (.iconst 0, 1) := by decide +kernel
theorem d_R_forget_16 : decode c_R_forget 16 = .ok (.bastore, 1) := by decide +kernel
theorem d_R_forget_17 : decode c_R_forget 17 = .ok (.iinc 1 1, 3) := by decide +kernel
theorem d_R_forget_20 : decode c_R_forget 20 = .ok (.goto (-18), 3) := by decide +kernel
theorem d_R_forget_23 : decode c_R_forget 23 = .ok (.aload_n 0, 1) := by decide +kernel
theorem d_R_forget_24 : decode c_R_forget 24 = .ok (.iconst 0, 1) := by decide +kernel
theorem d_R_forget_25 : decode c_R_forget 25 = .ok (.putfield 66, 3) := by decide +kernel
theorem d_R_forget_28 : decode c_R_forget 28 = .ok (.aload_n 0, 1) := by decide +kernel
theorem d_R_forget_29 : decode c_R_forget 29 = .ok (.iconst 0, 1) := by decide +kernel
theorem d_R_forget_30 : decode c_R_forget 30 = .ok (.putfield 73, 3) := by decide +kernel
theorem d_R_forget_33 : decode c_R_forget 33 = .ok (.return_, 1) := by decide +kernel
theorem d_R_reach_0 : decode c_R_reach 0 = .ok (.aload_n 0, 1) := by decide +kernel
theorem d_R_reach_1 : decode c_R_reach 1 = .ok (.invokevirtual 80, 3) := by decide +kernel
theorem d_R_reach_4 : decode c_R_reach 4 = .ok (.iconst 0, 1) := by decide +kernel
theorem d_R_reach_5 : decode c_R_reach 5 = .ok (.istore_n 1, 1) := by decide +kernel
theorem d_R_reach_6 : decode c_R_reach 6 = .ok (.iload_n 1, 1) := by decide +kernel
theorem d_R_reach_7 : decode c_R_reach 7 = .ok (.bipush 32, 2) := by decide +kernel
theorem d_R_reach_9 : decode c_R_reach 9 = .ok (.if_icmp .ge 19, 3) := by decide +kernel
theorem d_R_reach_12 : decode c_R_reach 12 = .ok (.aload_n 0, 1) := by decide +kernel
theorem d_R_reach_13 : decode c_R_reach 13 = .ok (.aload_n 0, 1) := by decide +kernel
theorem d_R_reach_14 : decode c_R_reach 14 = .ok (.getfield 7, 3) := by decide +kernel
theorem d_R_reach_17 : decode c_R_reach 17 = .ok (.iload_n 1, 1) := by decide +kernel
theorem d_R_reach_18 : decode c_R_reach 18 = .ok (.iaload, 1) := by decide +kernel
theorem d_R_reach_19 : decode c_R_reach 19 = .ok (.invokevirtual 69, 3) := by decide +kernel
theorem d_R_reach_22 : decode c_R_reach 22 = .ok (.iinc 1 1, 3) := by decide +kernel
theorem d_R_reach_25 : decode c_R_reach 25 = .ok (.goto (-19), 3) := by decide +kernel
theorem d_R_reach_28 : decode c_R_reach 28 = .ok (.aload_n 0, 1) := by decide +kernel
theorem d_R_reach_29 : decode c_R_reach 29 = .ok (.invokevirtual 83, 3) := by decide +kernel
theorem d_R_reach_32 : decode c_R_reach 32 = .ok (.return_, 1) := by decide +kernel
theorem d_R_giveBack_0 : decode c_R_giveBack 0 = .ok (.aload_n 0, 1) := by decide +kernel
theorem d_R_giveBack_1 : decode c_R_giveBack 1 = .ok (.iconst 0, 1) := by decide +kernel
theorem d_R_giveBack_2 : decode c_R_giveBack 2 = .ok (.putfield 86, 3) := by decide +kernel
theorem d_R_giveBack_5 : decode c_R_giveBack 5 = .ok (.iconst 0, 1) := by decide +kernel
theorem d_R_giveBack_6 : decode c_R_giveBack 6 = .ok (.istore_n 1, 1) := by decide +kernel
theorem d_R_giveBack_7 : decode c_R_giveBack 7 = .ok (.iload_n 1, 1) := by decide +kernel
theorem d_R_giveBack_8 : decode c_R_giveBack 8 = .ok (.aload_n 0, 1) := by decide +kernel
theorem d_R_giveBack_9 : decode c_R_giveBack 9 = .ok (.getfield 18, 3) := by decide +kernel
theorem d_R_giveBack_12 : decode c_R_giveBack 12 = .ok (.if_icmp .ge 72, 3) := by decide +kernel
theorem d_R_giveBack_15 : decode c_R_giveBack 15 = .ok (.aload_n 0, 1) := by decide +kernel
theorem d_R_giveBack_16 : decode c_R_giveBack 16 = .ok (.getfield 21, 3) := by decide +kernel
theorem d_R_giveBack_19 : decode c_R_giveBack 19 = .ok (.iload_n 1, 1) := by decide +kernel
theorem d_R_giveBack_20 : decode c_R_giveBack 20 = .ok (.iaload, 1) := by decide +kernel
theorem d_R_giveBack_21 : decode c_R_giveBack 21 = .ok (.ifCond .le 57, 3) := by decide +kernel
theorem d_R_giveBack_24 : decode c_R_giveBack 24 = .ok (.aload_n 0, 1) := by decide +kernel
theorem d_R_giveBack_25 : decode c_R_giveBack 25 = .ok (.getfield 37, 3) := by decide +kernel
theorem d_R_giveBack_28 : decode c_R_giveBack 28 = .ok (.iload_n 1, 1) := by decide +kernel
theorem d_R_giveBack_29 : decode c_R_giveBack 29 = .ok (.baload, 1) := by decide +kernel
theorem d_R_giveBack_30 : decode c_R_giveBack 30 = .ok (.ifCond .ne 48, 3) := by decide +kernel
theorem d_R_giveBack_33 : decode c_R_giveBack 33 = .ok (.aload_n 0, 1) := by decide +kernel
theorem d_R_giveBack_34 : decode c_R_giveBack 34 = .ok (.getfield 21, 3) := by decide +kernel
theorem d_R_giveBack_37 : decode c_R_giveBack 37 = .ok (.iload_n 1, 1) := by decide +kernel
theorem d_R_giveBack_38 : decode c_R_giveBack 38 = .ok (.iconst 0, 1) := by decide +kernel
theorem d_R_giveBack_39 : decode c_R_giveBack 39 = .ok (.iastore, 1) := by decide +kernel
theorem d_R_giveBack_40 : decode c_R_giveBack 40 = .ok (.aload_n 0, 1) := by decide +kernel
theorem d_R_giveBack_41 : decode c_R_giveBack 41 = .ok (.getfield 34, 3) := by decide +kernel
theorem d_R_giveBack_44 : decode c_R_giveBack 44 = .ok (.iload_n 1, 1) := by decide +kernel
theorem d_R_giveBack_45 : decode c_R_giveBack 45 = .ok (.iaload, 1) := by decide +kernel
theorem d_R_giveBack_46 : decode c_R_giveBack 46 = .ok (.istore_n 2, 1) := by decide +kernel
theorem d_R_giveBack_47 : decode c_R_giveBack 47 = .ok (.iload_n 2, 1) := by decide +kernel
theorem d_R_giveBack_48 : decode c_R_giveBack 48 = .ok (.ifCond .lt 30, 3) := by decide +kernel
theorem d_R_giveBack_51 : decode c_R_giveBack 51 = .ok (.aload_n 0, 1) := by decide +kernel
theorem d_R_giveBack_52 : decode c_R_giveBack 52 = .ok (.getfield 46, 3) := by decide +kernel
theorem d_R_giveBack_55 : decode c_R_giveBack 55 = .ok (.iload_n 2, 1) := by decide +kernel
theorem d_R_giveBack_56 : decode c_R_giveBack 56 = .ok (.iaload, 1) := by decide +kernel
theorem d_R_giveBack_57 : decode c_R_giveBack 57 = .ok (.istore_n 3, 1) := by decide +kernel
theorem d_R_giveBack_58 : decode c_R_giveBack 58 = .ok (.aload_n 0, 1) := by decide +kernel
theorem d_R_giveBack_59 : decode c_R_giveBack 59 = .ok (.getfield 46, 3) := by decide +kernel
theorem d_R_giveBack_62 : decode c_R_giveBack 62 = .ok (.iload_n 2, 1) := by decide +kernel
theorem d_R_giveBack_63 : decode c_R_giveBack 63 = .ok (.aload_n 0, 1) := by decide +kernel
theorem d_R_giveBack_64 : decode c_R_giveBack 64 = .ok (.getfield 89, 3) := by decide +kernel
theorem d_R_giveBack_67 : decode c_R_giveBack 67 = .ok (.iastore, 1) := by decide +kernel
theorem d_R_giveBack_68 : decode c_R_giveBack 68 = .ok (.aload_n 0, 1) := by decide +kernel
theorem d_R_giveBack_69 : decode c_R_giveBack 69 = .ok (.iload_n 2, 1) := by decide +kernel
theorem d_R_giveBack_70 : decode c_R_giveBack 70 = .ok (.putfield 89, 3) := by decide +kernel
theorem d_R_giveBack_73 : decode c_R_giveBack 73 = .ok (.iload_n 3, 1) := by decide +kernel
theorem d_R_giveBack_74 : decode c_R_giveBack 74 = .ok (.istore_n 2, 1) := by decide +kernel
theorem d_R_giveBack_75 : decode c_R_giveBack 75 = .ok (.goto (-28), 3) := by decide +kernel
theorem d_R_giveBack_78 : decode c_R_giveBack 78 = .ok (.iinc 1 1, 3) := by decide +kernel
theorem d_R_giveBack_81 : decode c_R_giveBack 81 = .ok (.goto (-74), 3) := by decide +kernel
theorem d_R_giveBack_84 : decode c_R_giveBack 84 = .ok (.return_, 1) := by decide +kernel
theorem d_R_add_0 : decode c_R_add 0 = .ok (.aload_n 0, 1) := by decide +kernel
theorem d_R_add_1 : decode c_R_add 1 = .ok (.getfield 86, 3) := by decide +kernel
theorem d_R_add_4 : decode c_R_add 4 = .ok (.istore 4, 2) := by decide +kernel
theorem d_R_add_6 : decode c_R_add 6 = .ok (.aload_n 0, 1) := by decide +kernel
theorem d_R_add_7 : decode c_R_add 7 = .ok (.getfield 21, 3) := by decide +kernel
theorem d_R_add_10 : decode c_R_add 10 = .ok (.iload 4, 2) := by decide +kernel
theorem d_R_add_12 : decode c_R_add 12 = .ok (.iaload, 1) := by decide +kernel
theorem d_R_add_13 : decode c_R_add 13 = .ok (.ifCond .le 12, 3) := by decide +kernel
theorem d_R_add_16 : decode c_R_add 16 = .ok (.iload 4, 2) := by decide +kernel
theorem d_R_add_18 : decode c_R_add 18 = .ok (.iconst 1, 1) := by decide +kernel
theorem d_R_add_19 : decode c_R_add 19 = .ok (.iadd, 1) := by decide +kernel
theorem d_R_add_20 : decode c_R_add 20 = .ok (.istore 4, 2) := by decide +kernel
theorem d_R_add_22 : decode c_R_add 22 = .ok (.goto (-16), 3) := by decide +kernel
theorem d_R_add_25 : decode c_R_add 25 = .ok (.aload_n 0, 1) := by decide +kernel
theorem d_R_add_26 : decode c_R_add 26 = .ok (.iload 4, 2) := by decide +kernel
theorem d_R_add_28 : decode c_R_add 28 = .ok (.iconst 1, 1) := by decide +kernel
theorem d_R_add_29 : decode c_R_add 29 = .ok (.iadd, 1) := by decide +kernel
theorem d_R_add_30 : decode c_R_add 30 = .ok (.putfield 86, 3) := by decide +kernel
theorem d_R_add_33 : decode c_R_add 33 = .ok (.aload_n 0, 1) := by decide +kernel
theorem d_R_add_34 : decode c_R_add 34 = .ok (.aload_n 0, 1) := by decide +kernel
theorem d_R_add_35 : decode c_R_add 35 = .ok (.getfield 92, 3) := by decide +kernel
theorem d_R_add_38 : decode c_R_add 38 = .ok (.iconst 1, 1) := by decide +kernel
theorem d_R_add_39 : decode c_R_add 39 = .ok (.iadd, 1) := by decide +kernel
theorem d_R_add_40 : decode c_R_add 40 = .ok (.putfield 92, 3) := by decide +kernel
theorem d_R_add_43 : decode c_R_add 43 = .ok (.aload_n 0, 1) := by decide +kernel
theorem d_R_add_44 : decode c_R_add 44 = .ok (.getfield 21, 3) := by decide +kernel
theorem d_R_add_47 : decode c_R_add 47 = .ok (.iload 4, 2) := by decide +kernel
theorem d_R_add_49 : decode c_R_add 49 = .ok (.aload_n 0, 1) := by decide +kernel
theorem d_R_add_50 : decode c_R_add 50 = .ok (.getfield 92, 3) := by decide +kernel
theorem d_R_add_53 : decode c_R_add 53 = .ok (.iastore, 1) := by decide +kernel
theorem d_R_add_54 : decode c_R_add 54 = .ok (.aload_n 0, 1) := by decide +kernel
theorem d_R_add_55 : decode c_R_add 55 = .ok (.getfield 24, 3) := by decide +kernel
theorem d_R_add_58 : decode c_R_add 58 = .ok (.iload 4, 2) := by decide +kernel
theorem d_R_add_60 : decode c_R_add 60 = .ok (.iload_n 1, 1) := by decide +kernel
theorem d_R_add_61 : decode c_R_add 61 = .ok (.iastore, 1) := by decide +kernel
theorem d_R_add_62 : decode c_R_add 62 = .ok (.aload_n 0, 1) := by decide +kernel
theorem d_R_add_63 : decode c_R_add 63 = .ok (.getfield 27, 3) := by decide +kernel
theorem d_R_add_66 : decode c_R_add 66 = .ok (.iload 4, 2) := by decide +kernel
theorem d_R_add_68 : decode c_R_add 68 = .ok (.iload_n 3, 1) := by decide +kernel
theorem d_R_add_69 : decode c_R_add 69 = .ok (.bastore, 1) := by decide +kernel
theorem d_R_add_70 : decode c_R_add 70 = .ok (.aload_n 0, 1) := by decide +kernel
theorem d_R_add_71 : decode c_R_add 71 = .ok (.getfield 31, 3) := by decide +kernel
theorem d_R_add_74 : decode c_R_add 74 = .ok (.iload 4, 2) := by decide +kernel
theorem d_R_add_76 : decode c_R_add 76 = .ok (.iload_n 2, 1) := by decide +kernel
theorem d_R_add_77 : decode c_R_add 77 = .ok (.iastore, 1) := by decide +kernel
theorem d_R_add_78 : decode c_R_add 78 = .ok (.aload_n 0, 1) := by decide +kernel
theorem d_R_add_79 : decode c_R_add 79 = .ok (.getfield 34, 3) := by decide +kernel
theorem d_R_add_82 : decode c_R_add 82 = .ok (.iload 4, 2) := by decide +kernel
theorem d_R_add_84 : decode c_R_add 84 = .ok (.iconst (-1), 1) := by decide +kernel
theorem d_R_add_85 : decode c_R_add 85 = .ok (.iastore, 1) := by decide +kernel
theorem d_R_add_86 : decode c_R_add 86 = .ok (.iconst 0, 1) := by decide +kernel
theorem d_R_add_87 : decode c_R_add 87 = .ok (.istore 5, 2) := by decide +kernel
theorem d_R_add_89 : decode c_R_add 89 = .ok (.iload 5, 2) := by decide +kernel
theorem d_R_add_91 : decode c_R_add 91 = .ok (.iload_n 2, 1) := by decide +kernel
theorem d_R_add_92 : decode c_R_add 92 = .ok (.iload_n 3, 1) := by decide +kernel
theorem d_R_add_93 : decode c_R_add 93 = .ok (.invokestatic 76, 3) := by decide +kernel
theorem d_R_add_96 : decode c_R_add 96 = .ok (.if_icmp .ge 57, 3) := by decide +kernel
theorem d_R_add_99 : decode c_R_add 99 = .ok (.aload_n 0, 1) := by decide +kernel
theorem d_R_add_100 : decode c_R_add 100 = .ok (.getfield 89, 3) := by decide +kernel
theorem d_R_add_103 : decode c_R_add 103 = .ok (.istore 6, 2) := by decide +kernel
theorem d_R_add_105 : decode c_R_add 105 = .ok (.aload_n 0, 1) := by decide +kernel
theorem d_R_add_106 : decode c_R_add 106 = .ok (.aload_n 0, 1) := by decide +kernel
theorem d_R_add_107 : decode c_R_add 107 = .ok (.getfield 46, 3) := by decide +kernel
theorem d_R_add_110 : decode c_R_add 110 = .ok (.iload 6, 2) := by decide +kernel
theorem d_R_add_112 : decode c_R_add 112 = .ok (.iaload, 1) := by decide +kernel
theorem d_R_add_113 : decode c_R_add 113 = .ok (.putfield 89, 3) := by decide +kernel
theorem d_R_add_116 : decode c_R_add 116 = .ok (.aload_n 0, 1) := by decide +kernel
theorem d_R_add_117 : decode c_R_add 117 = .ok (.getfield 43, 3) := by decide +kernel
theorem d_R_add_120 : decode c_R_add 120 = .ok (.iload 6, 2) := by decide +kernel
theorem d_R_add_122 : decode c_R_add 122 = .ok (.iconst 0, 1) := by decide +kernel
theorem d_R_add_123 : decode c_R_add 123 = .ok (.iastore, 1) := by decide +kernel
theorem d_R_add_124 : decode c_R_add 124 = .ok (.aload_n 0, 1) := by decide +kernel
theorem d_R_add_125 : decode c_R_add 125 = .ok (.getfield 46, 3) := by decide +kernel
theorem d_R_add_128 : decode c_R_add 128 = .ok (.iload 6, 2) := by decide +kernel
theorem d_R_add_130 : decode c_R_add 130 = .ok (.aload_n 0, 1) := by decide +kernel
theorem d_R_add_131 : decode c_R_add 131 = .ok (.getfield 34, 3) := by decide +kernel
theorem d_R_add_134 : decode c_R_add 134 = .ok (.iload 4, 2) := by decide +kernel
theorem d_R_add_136 : decode c_R_add 136 = .ok (.iaload, 1) := by decide +kernel
theorem d_R_add_137 : decode c_R_add 137 = .ok (.iastore, 1) := by decide +kernel
theorem d_R_add_138 : decode c_R_add 138 = .ok (.aload_n 0, 1) := by decide +kernel
theorem d_R_add_139 : decode c_R_add 139 = .ok (.getfield 34, 3) := by decide +kernel
theorem d_R_add_142 : decode c_R_add 142 = .ok (.iload 4, 2) := by decide +kernel
theorem d_R_add_144 : decode c_R_add 144 = .ok (.iload 6, 2) := by decide +kernel
theorem d_R_add_146 : decode c_R_add 146 = .ok (.iastore, 1) := by decide +kernel
theorem d_R_add_147 : decode c_R_add 147 = .ok (.iinc 5 1, 3) := by decide +kernel
theorem d_R_add_150 : decode c_R_add 150 = .ok (.goto (-61), 3) := by decide +kernel
theorem d_R_add_153 : decode c_R_add 153 = .ok (.iload 4, 2) := by decide +kernel
theorem d_R_add_155 : decode c_R_add 155 = .ok (.ireturn, 1) := by decide +kernel
theorem d_R_canMake_0 : decode c_R_canMake 0 = .ok (.aload_n 0, 1) := by decide +kernel
theorem d_R_canMake_1 : decode c_R_canMake 1 = .ok (.invokevirtual 95, 3) := by decide +kernel
theorem d_R_canMake_4 : decode c_R_canMake 4 = .ok (.aload_n 0, 1) := by decide +kernel
theorem d_R_canMake_5 : decode c_R_canMake 5 = .ok (.getfield 73, 3) := by decide +kernel
theorem d_R_canMake_8 : decode c_R_canMake 8 = .ok (.iconst 4, 1) := by decide +kernel
theorem d_R_canMake_9 : decode c_R_canMake 9 = .ok (.iadd, 1) := by decide +kernel
theorem d_R_canMake_10 : decode c_R_canMake 10 = .ok (.iload_n 1, 1) := by decide +kernel
theorem d_R_canMake_11 : decode c_R_canMake 11 = .ok (.iload_n 2, 1) := by decide +kernel
theorem d_R_canMake_12 : decode c_R_canMake 12 = .ok (.invokestatic 76, 3) := by decide +kernel
theorem d_R_canMake_15 : decode c_R_canMake 15 = .ok (.iadd, 1) := by decide +kernel
theorem d_R_canMake_16 : decode c_R_canMake 16 = .ok (.aload_n 0, 1) := by decide +kernel
theorem d_R_canMake_17 : decode c_R_canMake 17 = .ok (.getfield 14, 3) := by decide +kernel
theorem d_R_canMake_20 : decode c_R_canMake 20 = .ok (.if_icmp .gt 18, 3) := by decide +kernel
theorem d_R_canMake_23 : decode c_R_canMake 23 = .ok (.aload_n 0, 1) := by decide +kernel
theorem d_R_canMake_24 : decode c_R_canMake 24 = .ok (.getfield 66, 3) := by decide +kernel
theorem d_R_canMake_27 : decode c_R_canMake 27 = .ok (.aload_n 0, 1) := by decide +kernel
theorem d_R_canMake_28 : decode c_R_canMake 28 = .ok (.getfield 18, 3) := by decide +kernel
theorem d_R_canMake_31 : decode c_R_canMake 31 = .ok (.if_icmp .ge 7, 3) := by decide +kernel
theorem d_R_canMake_34 : decode c_R_canMake 34 = .ok (.iconst 1, 1) := by decide +kernel
theorem d_R_canMake_35 : decode c_R_canMake 35 = .ok (.goto 4, 3) := by decide +kernel
theorem d_R_canMake_38 : decode c_R_canMake 38 = .ok (.iconst 0, 1) := by decide +kernel
theorem d_R_canMake_39 : decode c_R_canMake 39 = .ok (.istore_n 3, 1) := by decide +kernel
theorem d_R_canMake_40 : decode c_R_canMake 40 = .ok (.iload_n 3, 1) := by decide +kernel
theorem d_R_canMake_41 : decode c_R_canMake 41 = .ok (.ifCond .eq 7, 3) := by decide +kernel
theorem d_R_canMake_44 : decode c_R_canMake 44 = .ok (.aload_n 0, 1) := by decide +kernel
theorem d_R_canMake_45 : decode c_R_canMake 45 = .ok (.invokevirtual 98, 3) := by decide +kernel
theorem d_R_canMake_48 : decode c_R_canMake 48 = .ok (.iload_n 3, 1) := by decide +kernel
theorem d_R_canMake_49 : decode c_R_canMake 49 = .ok (.ireturn, 1) := by decide +kernel
theorem d_R_number_0 : decode c_R_number 0 = .ok (.aload_n 0, 1) := by decide +kernel
theorem d_R_number_1 : decode c_R_number 1 = .ok (.iload_n 1, 1) := by decide +kernel
theorem d_R_number_2 : decode c_R_number 2 = .ok (.invokestatic 52, 3) := by decide +kernel
theorem d_R_number_5 : decode c_R_number 5 = .ok (.ifCond .eq 19, 3) := by decide +kernel
theorem d_R_number_8 : decode c_R_number 8 = .ok (.iload_n 2, 1) := by decide +kernel
theorem d_R_number_9 : decode c_R_number 9 = .ok (.ldc 101, 2) := by decide +kernel
theorem d_R_number_11 : decode c_R_number 11 = .ok (.if_icmp .lt 13, 3) := by decide +kernel
theorem d_R_number_14 : decode c_R_number 14 = .ok (.iload_n 2, 1) := by decide +kernel
theorem d_R_number_15 : decode c_R_number 15 = .ok (.ldc 102, 2) := by decide +kernel
theorem d_R_number_17 : decode c_R_number 17 = .ok (.if_icmp .gt 7, 3) := by decide +kernel
theorem d_R_number_20 : decode c_R_number 20 = .ok (.iconst 0, 1) := by decide +kernel
theorem d_R_number_21 : decode c_R_number 21 = .ok (.goto 4, 3) := by decide +kernel
theorem d_R_number_24 : decode c_R_number 24 = .ok (.iconst 1, 1) := by decide +kernel
theorem d_R_number_25 : decode c_R_number 25 = .ok (.putfield 49, 3) := by decide +kernel
theorem d_R_number_28 : decode c_R_number 28 = .ok (.aload_n 0, 1) := by decide +kernel
theorem d_R_number_29 : decode c_R_number 29 = .ok (.getfield 49, 3) := by decide +kernel
theorem d_R_number_32 : decode c_R_number 32 = .ok (.ifCond .ne 14, 3) := by decide +kernel
theorem d_R_number_35 : decode c_R_number 35 = .ok (.aload_n 0, 1) := by decide +kernel
theorem d_R_number_36 : decode c_R_number 36 = .ok (.getfield 7, 3) := by decide +kernel
theorem d_R_number_39 : decode c_R_number 39 = .ok (.iload_n 1, 1) := by decide +kernel
theorem d_R_number_40 : decode c_R_number 40 = .ok (.iconst 2, 1) := by decide +kernel
theorem d_R_number_41 : decode c_R_number 41 = .ok (.iload_n 2, 1) := by decide +kernel
theorem d_R_number_42 : decode c_R_number 42 = .ok (.imul, 1) := by decide +kernel
theorem d_R_number_43 : decode c_R_number 43 = .ok (.iconst 1, 1) := by decide +kernel
theorem d_R_number_44 : decode c_R_number 44 = .ok (.iadd, 1) := by decide +kernel
theorem d_R_number_45 : decode c_R_number 45 = .ok (.iastore, 1) := by decide +kernel
theorem d_R_number_46 : decode c_R_number 46 = .ok (.return_, 1) := by decide +kernel
theorem d_R_move_0 : decode c_R_move 0 = .ok (.aload_n 0, 1) := by decide +kernel
theorem d_R_move_1 : decode c_R_move 1 = .ok (.iload_n 1, 1) := by decide +kernel
theorem d_R_move_2 : decode c_R_move 2 = .ok (.invokestatic 52, 3) := by decide +kernel
theorem d_R_move_5 : decode c_R_move 5 = .ok (.ifCond .eq 14, 3) := by decide +kernel
theorem d_R_move_8 : decode c_R_move 8 = .ok (.iload_n 2, 1) := by decide +kernel
theorem d_R_move_9 : decode c_R_move 9 = .ok (.invokestatic 52, 3) := by decide +kernel
theorem d_R_move_12 : decode c_R_move 12 = .ok (.ifCond .eq 7, 3) := by decide +kernel
theorem d_R_move_15 : decode c_R_move 15 = .ok (.iconst 0, 1) := by decide +kernel
theorem d_R_move_16 : decode c_R_move 16 = .ok (.goto 4, 3) := by decide +kernel
theorem d_R_move_19 : decode c_R_move 19 = .ok (.iconst 1, 1) := by decide +kernel
theorem d_R_move_20 : decode c_R_move 20 = .ok (.putfield 49, 3) := by decide +kernel
theorem d_R_move_23 : decode c_R_move 23 = .ok (.aload_n 0, 1) := by decide +kernel
theorem d_R_move_24 : decode c_R_move 24 = .ok (.getfield 49, 3) := by decide +kernel
theorem d_R_move_27 : decode c_R_move 27 = .ok (.ifCond .ne 15, 3) := by decide +kernel
theorem d_R_move_30 : decode c_R_move 30 = .ok (.aload_n 0, 1) := by decide +kernel
theorem d_R_move_31 : decode c_R_move 31 = .ok (.getfield 7, 3) := by decide +kernel
theorem d_R_move_34 : decode c_R_move 34 = .ok (.iload_n 1, 1) := by decide +kernel
theorem d_R_move_35 : decode c_R_move 35 = .ok (.aload_n 0, 1) := by decide +kernel
theorem d_R_move_36 : decode c_R_move 36 = .ok (.getfield 7, 3) := by decide +kernel
theorem d_R_move_39 : decode c_R_move 39 = .ok (.iload_n 2, 1) := by decide +kernel
theorem d_R_move_40 : decode c_R_move 40 = .ok (.iaload, 1) := by decide +kernel
theorem d_R_move_41 : decode c_R_move 41 = .ok (.iastore, 1) := by decide +kernel
theorem d_R_move_42 : decode c_R_move 42 = .ok (.return_, 1) := by decide +kernel
theorem d_R_clear_0 : decode c_R_clear 0 = .ok (.aload_n 0, 1) := by decide +kernel
theorem d_R_clear_1 : decode c_R_clear 1 = .ok (.iload_n 1, 1) := by decide +kernel
theorem d_R_clear_2 : decode c_R_clear 2 = .ok (.invokestatic 52, 3) := by decide +kernel
theorem d_R_clear_5 : decode c_R_clear 5 = .ok (.ifCond .eq 7, 3) := by decide +kernel
theorem d_R_clear_8 : decode c_R_clear 8 = .ok (.iconst 0, 1) := by decide +kernel
theorem d_R_clear_9 : decode c_R_clear 9 = .ok (.goto 4, 3) := by decide +kernel
theorem d_R_clear_12 : decode c_R_clear 12 = .ok (.iconst 1, 1) := by decide +kernel
theorem d_R_clear_13 : decode c_R_clear 13 = .ok (.putfield 49, 3) := by decide +kernel
theorem d_R_clear_16 : decode c_R_clear 16 = .ok (.aload_n 0, 1) := by decide +kernel
theorem d_R_clear_17 : decode c_R_clear 17 = .ok (.getfield 49, 3) := by decide +kernel
theorem d_R_clear_20 : decode c_R_clear 20 = .ok (.ifCond .ne 10, 3) := by decide +kernel
theorem d_R_clear_23 : decode c_R_clear 23 = .ok (.aload_n 0, 1) := by decide +kernel
theorem d_R_clear_24 : decode c_R_clear 24 = .ok (.getfield 7, 3) := by decide +kernel
theorem d_R_clear_27 : decode c_R_clear 27 = .ok (.iload_n 1, 1) := by decide +kernel
theorem d_R_clear_28 : decode c_R_clear 28 = .ok (.iconst 0, 1) := by decide +kernel
theorem d_R_clear_29 : decode c_R_clear 29 = .ok (.iastore, 1) := by decide +kernel
theorem d_R_clear_30 : decode c_R_clear 30 = .ok (.return_, 1) := by decide +kernel
theorem d_R_make_0 : decode c_R_make 0 = .ok (.iload_n 1, 1) := by decide +kernel
theorem d_R_make_1 : decode c_R_make 1 = .ok (.invokestatic 52, 3) := by decide +kernel
theorem d_R_make_4 : decode c_R_make 4 = .ok (.ifCond .eq 36, 3) := by decide +kernel
theorem d_R_make_7 : decode c_R_make 7 = .ok (.iload_n 2, 1) := by decide +kernel
theorem d_R_make_8 : decode c_R_make 8 = .ok (.invokestatic 52, 3) := by decide +kernel
theorem d_R_make_11 : decode c_R_make 11 = .ok (.ifCond .eq 29, 3) := by decide +kernel
theorem d_R_make_14 : decode c_R_make 14 = .ok (.iload_n 3, 1) := by decide +kernel
theorem d_R_make_15 : decode c_R_make 15 = .ok (.ifCond .lt 25, 3) := by decide +kernel
theorem d_R_make_18 : decode c_R_make 18 = .ok (.iload_n 3, 1) := by decide +kernel
theorem d_R_make_19 : decode c_R_make 19 = .ok (.iload 4, 2) := by decide +kernel
theorem d_R_make_21 : decode c_R_make 21 = .ok (.ifCond .eq 9, 3) := by decide +kernel
theorem d_R_make_24 : decode c_R_make 24 = .ok (.sipush 4000, 3) := by decide +kernel
theorem d_R_make_27 : decode c_R_make 27 = .ok (.goto 6, 3) := by decide +kernel
theorem d_R_make_30 : decode c_R_make 30 = .ok (.sipush 16000, 3) := by decide +kernel
theorem d_R_make_33 : decode c_R_make 33 = .ok (.if_icmp .gt 7, 3) := by decide +kernel
theorem d_R_make_36 : decode c_R_make 36 = .ok (.iconst 1, 1) := by decide +kernel
theorem d_R_make_37 : decode c_R_make 37 = .ok (.goto 4, 3) := by decide +kernel
theorem d_R_make_40 : decode c_R_make 40 = .ok (.iconst 0, 1) := by decide +kernel
theorem d_R_make_41 : decode c_R_make 41 = .ok (.istore 5, 2) := by decide +kernel
theorem d_R_make_43 : decode c_R_make 43 = .ok (.aload_n 0, 1) := by decide +kernel
theorem d_R_make_44 : decode c_R_make 44 = .ok (.iload 5, 2) := by decide +kernel
theorem d_R_make_46 : decode c_R_make 46 = .ok (.ifCond .ne 7, 3) := by decide +kernel
theorem d_R_make_49 : decode c_R_make 49 = .ok (.iconst 1, 1) := by decide +kernel
theorem d_R_make_50 : decode c_R_make 50 = .ok (.goto 26, 3) := by decide +kernel
theorem d_R_make_53 : decode c_R_make 53 = .ok (.aload_n 0, 1) := by decide +kernel
theorem d_R_make_54 : decode c_R_make 54 = .ok (.iload_n 3, 1) := by decide +kernel
theorem d_R_make_55 : decode c_R_make 55 = .ok (.iload 4, 2) := by decide +kernel
theorem d_R_make_57 : decode c_R_make 57 = .ok (.ifCond .ne 7, 3) := by decide +kernel
theorem d_R_make_60 : decode c_R_make 60 = .ok (.iconst 1, 1) := by decide +kernel
theorem d_R_make_61 : decode c_R_make 61 = .ok (.goto 4, 3) := by decide +kernel
theorem d_R_make_64 : decode c_R_make 64 = .ok (.iconst 0, 1) := by decide +kernel
theorem d_R_make_65 : decode c_R_make 65 = .ok (.invokevirtual 103, 3) := by decide +kernel
theorem d_R_make_68 : decode c_R_make 68 = .ok (.ifCond .ne 7, 3) := by decide +kernel
theorem d_R_make_71 : decode c_R_make 71 = .ok (.iconst 2, 1) := by decide +kernel
theorem d_R_make_72 : decode c_R_make 72 = .ok (.goto 4, 3) := by decide +kernel
theorem d_R_make_75 : decode c_R_make 75 = .ok (.iconst 0, 1) := by decide +kernel
theorem d_R_make_76 : decode c_R_make 76 = .ok (.putfield 49, 3) := by decide +kernel
theorem d_R_make_79 : decode c_R_make 79 = .ok (.aload_n 0, 1) := by decide +kernel
theorem d_R_make_80 : decode c_R_make 80 = .ok (.getfield 49, 3) := by decide +kernel
theorem d_R_make_83 : decode c_R_make 83 = .ok (.ifCond .le 5, 3) := by decide +kernel
theorem d_R_make_86 : decode c_R_make 86 = .ok (.iconst 0, 1) := by decide +kernel
theorem d_R_make_87 : decode c_R_make 87 = .ok (.ireturn, 1) := by decide +kernel
theorem d_R_make_88 : decode c_R_make 88 = .ok (.aload_n 0, 1) := by decide +kernel
theorem d_R_make_89 : decode c_R_make 89 = .ok (.aload_n 0, 1) := by decide +kernel
theorem d_R_make_90 : decode c_R_make 90 = .ok (.getfield 7, 3) := by decide +kernel
theorem d_R_make_93 : decode c_R_make 93 = .ok (.iload_n 2, 1) := by decide +kernel
theorem d_R_make_94 : decode c_R_make 94 = .ok (.iaload, 1) := by decide +kernel
theorem d_R_make_95 : decode c_R_make 95 = .ok (.iload_n 3, 1) := by decide +kernel
theorem d_R_make_96 : decode c_R_make 96 = .ok (.iload 4, 2) := by decide +kernel
theorem d_R_make_98 : decode c_R_make 98 = .ok (.ifCond .ne 7, 3) := by decide +kernel
theorem d_R_make_101 : decode c_R_make 101 = .ok (.iconst 1, 1) := by decide +kernel
theorem d_R_make_102 : decode c_R_make 102 = .ok (.goto 4, 3) := by decide +kernel
theorem d_R_make_105 : decode c_R_make 105 = .ok (.iconst 0, 1) := by decide +kernel
theorem d_R_make_106 : decode c_R_make 106 = .ok (.invokevirtual 107, 3) := by decide +kernel
theorem d_R_make_109 : decode c_R_make 109 = .ok (.istore 6, 2) := by decide +kernel
theorem d_R_make_111 : decode c_R_make 111 = .ok (.aload_n 0, 1) := by decide +kernel
theorem d_R_make_112 : decode c_R_make 112 = .ok (.getfield 7, 3) := by decide +kernel
theorem d_R_make_115 : decode c_R_make 115 = .ok (.iload_n 1, 1) := by decide +kernel
theorem d_R_make_116 : decode c_R_make 116 = .ok (.iload 6, 2) := by decide +kernel
theorem d_R_make_118 : decode c_R_make 118 = .ok (.invokestatic 111, 3) := by decide +kernel
theorem d_R_make_121 : decode c_R_make 121 = .ok (.iastore, 1) := by decide +kernel
theorem d_R_make_122 : decode c_R_make 122 = .ok (.aload_n 0, 1) := by decide +kernel
theorem d_R_make_123 : decode c_R_make 123 = .ok (.getfield 92, 3) := by decide +kernel
theorem d_R_make_126 : decode c_R_make 126 = .ok (.ireturn, 1) := by decide +kernel
theorem d_R_copy_0 : decode c_R_copy 0 = .ok (.iload_n 1, 1) := by decide +kernel
theorem d_R_copy_1 : decode c_R_copy 1 = .ok (.invokestatic 52, 3) := by decide +kernel
theorem d_R_copy_4 : decode c_R_copy 4 = .ok (.ifCond .eq 15, 3) := by decide +kernel
theorem d_R_copy_7 : decode c_R_copy 7 = .ok (.aload_n 0, 1) := by decide +kernel
theorem d_R_copy_8 : decode c_R_copy 8 = .ok (.iload_n 2, 1) := by decide +kernel
theorem d_R_copy_9 : decode c_R_copy 9 = .ok (.invokevirtual 59, 3) := by decide +kernel
theorem d_R_copy_12 : decode c_R_copy 12 = .ok (.ifCond .eq 7, 3) := by decide +kernel
theorem d_R_copy_15 : decode c_R_copy 15 = .ok (.iconst 1, 1) := by decide +kernel
theorem d_R_copy_16 : decode c_R_copy 16 = .ok (.goto 4, 3) := by decide +kernel
theorem d_R_copy_19 : decode c_R_copy 19 = .ok (.iconst 0, 1) := by decide +kernel
theorem d_R_copy_20 : decode c_R_copy 20 = .ok (.istore_n 3, 1) := by decide +kernel
theorem d_R_copy_21 : decode c_R_copy 21 = .ok (.aload_n 0, 1) := by decide +kernel
theorem d_R_copy_22 : decode c_R_copy 22 = .ok (.iload_n 3, 1) := by decide +kernel
theorem d_R_copy_23 : decode c_R_copy 23 = .ok (.ifCond .ne 7, 3) := by decide +kernel
theorem d_R_copy_26 : decode c_R_copy 26 = .ok (.iconst 1, 1) := by decide +kernel
theorem d_R_copy_27 : decode c_R_copy 27 = .ok (.goto 25, 3) := by decide +kernel
theorem d_R_copy_30 : decode c_R_copy 30 = .ok (.aload_n 0, 1) := by decide +kernel
theorem d_R_copy_31 : decode c_R_copy 31 = .ok (.aload_n 0, 1) := by decide +kernel
theorem d_R_copy_32 : decode c_R_copy 32 = .ok (.iload_n 2, 1) := by decide +kernel
theorem d_R_copy_33 : decode c_R_copy 33 = .ok (.invokevirtual 114, 3) := by decide +kernel
theorem d_R_copy_36 : decode c_R_copy 36 = .ok (.aload_n 0, 1) := by decide +kernel
theorem d_R_copy_37 : decode c_R_copy 37 = .ok (.iload_n 2, 1) := by decide +kernel
theorem d_R_copy_38 : decode c_R_copy 38 = .ok (.invokevirtual 117, 3) := by decide +kernel
theorem d_R_copy_41 : decode c_R_copy 41 = .ok (.invokevirtual 103, 3) := by decide +kernel
theorem d_R_copy_44 : decode c_R_copy 44 = .ok (.ifCond .ne 7, 3) := by decide +kernel
theorem d_R_copy_47 : decode c_R_copy 47 = .ok (.iconst 2, 1) := by decide +kernel
theorem d_R_copy_48 : decode c_R_copy 48 = .ok (.goto 4, 3) := by decide +kernel
theorem d_R_copy_51 : decode c_R_copy 51 = .ok (.iconst 0, 1) := by decide +kernel
theorem d_R_copy_52 : decode c_R_copy 52 = .ok (.putfield 49, 3) := by decide +kernel
theorem d_R_copy_55 : decode c_R_copy 55 = .ok (.aload_n 0, 1) := by decide +kernel
theorem d_R_copy_56 : decode c_R_copy 56 = .ok (.getfield 49, 3) := by decide +kernel
theorem d_R_copy_59 : decode c_R_copy 59 = .ok (.ifCond .le 5, 3) := by decide +kernel
theorem d_R_copy_62 : decode c_R_copy 62 = .ok (.iconst 0, 1) := by decide +kernel
theorem d_R_copy_63 : decode c_R_copy 63 = .ok (.ireturn, 1) := by decide +kernel
theorem d_R_copy_64 : decode c_R_copy 64 = .ok (.aload_n 0, 1) := by decide +kernel
theorem d_R_copy_65 : decode c_R_copy 65 = .ok (.getfield 7, 3) := by decide +kernel
theorem d_R_copy_68 : decode c_R_copy 68 = .ok (.iload_n 2, 1) := by decide +kernel
theorem d_R_copy_69 : decode c_R_copy 69 = .ok (.iaload, 1) := by decide +kernel
theorem d_R_copy_70 : decode c_R_copy 70 = .ok (.invokestatic 62, 3) := by decide +kernel
theorem d_R_copy_73 : decode c_R_copy 73 = .ok (.istore 4, 2) := by decide +kernel
theorem d_R_copy_75 : decode c_R_copy 75 = .ok (.aload_n 0, 1) := by decide +kernel
theorem d_R_copy_76 : decode c_R_copy 76 = .ok (.aload_n 0, 1) := by decide +kernel
theorem d_R_copy_77 : decode c_R_copy 77 = .ok (.getfield 24, 3) := by decide +kernel
theorem d_R_copy_80 : decode c_R_copy 80 = .ok (.iload 4, 2) := by decide +kernel
theorem d_R_copy_82 : decode c_R_copy 82 = .ok (.iaload, 1) := by decide +kernel
theorem d_R_copy_83 : decode c_R_copy 83 = .ok (.aload_n 0, 1) := by decide +kernel
theorem d_R_copy_84 : decode c_R_copy 84 = .ok (.getfield 31, 3) := by decide +kernel
theorem d_R_copy_87 : decode c_R_copy 87 = .ok (.iload 4, 2) := by decide +kernel
theorem d_R_copy_89 : decode c_R_copy 89 = .ok (.iaload, 1) := by decide +kernel
theorem d_R_copy_90 : decode c_R_copy 90 = .ok (.aload_n 0, 1) := by decide +kernel
theorem d_R_copy_91 : decode c_R_copy 91 = .ok (.getfield 27, 3) := by decide +kernel
theorem d_R_copy_94 : decode c_R_copy 94 = .ok (.iload 4, 2) := by decide +kernel
theorem d_R_copy_96 : decode c_R_copy 96 = .ok (.baload, 1) := by decide +kernel
theorem d_R_copy_97 : decode c_R_copy 97 = .ok (.invokevirtual 107, 3) := by decide +kernel
theorem d_R_copy_100 : decode c_R_copy 100 = .ok (.istore 5, 2) := by decide +kernel
theorem d_R_copy_102 : decode c_R_copy 102 = .ok (.aload_n 0, 1) := by decide +kernel
theorem d_R_copy_103 : decode c_R_copy 103 = .ok (.getfield 34, 3) := by decide +kernel
theorem d_R_copy_106 : decode c_R_copy 106 = .ok (.iload 5, 2) := by decide +kernel
theorem d_R_copy_108 : decode c_R_copy 108 = .ok (.iaload, 1) := by decide +kernel
theorem d_R_copy_109 : decode c_R_copy 109 = .ok (.istore 6, 2) := by decide +kernel
theorem d_R_copy_111 : decode c_R_copy 111 = .ok (.aload_n 0, 1) := by decide +kernel
theorem d_R_copy_112 : decode c_R_copy 112 = .ok (.getfield 34, 3) := by decide +kernel
theorem d_R_copy_115 : decode c_R_copy 115 = .ok (.iload 4, 2) := by decide +kernel
theorem d_R_copy_117 : decode c_R_copy 117 = .ok (.iaload, 1) := by decide +kernel
theorem d_R_copy_118 : decode c_R_copy 118 = .ok (.istore 7, 2) := by decide +kernel
theorem d_R_copy_120 : decode c_R_copy 120 = .ok (.iload 7, 2) := by decide +kernel
theorem d_R_copy_122 : decode c_R_copy 122 = .ok (.ifCond .lt 38, 3) := by decide +kernel
theorem d_R_copy_125 : decode c_R_copy 125 = .ok (.aload_n 0, 1) := by decide +kernel
theorem d_R_copy_126 : decode c_R_copy 126 = .ok (.getfield 43, 3) := by decide +kernel
theorem d_R_copy_129 : decode c_R_copy 129 = .ok (.iload 6, 2) := by decide +kernel
theorem d_R_copy_131 : decode c_R_copy 131 = .ok (.aload_n 0, 1) := by decide +kernel
theorem d_R_copy_132 : decode c_R_copy 132 = .ok (.getfield 43, 3) := by decide +kernel
theorem d_R_copy_135 : decode c_R_copy 135 = .ok (.iload 7, 2) := by decide +kernel
theorem d_R_copy_137 : decode c_R_copy 137 = .ok (.iaload, 1) := by decide +kernel
theorem d_R_copy_138 : decode c_R_copy 138 = .ok (.iastore, 1) := by decide +kernel
theorem d_R_copy_139 : decode c_R_copy 139 = .ok (.aload_n 0, 1) := by decide +kernel
theorem d_R_copy_140 : decode c_R_copy 140 = .ok (.getfield 46, 3) := by decide +kernel
theorem d_R_copy_143 : decode c_R_copy 143 = .ok (.iload 6, 2) := by decide +kernel
theorem d_R_copy_145 : decode c_R_copy 145 = .ok (.iaload, 1) := by decide +kernel
theorem d_R_copy_146 : decode c_R_copy 146 = .ok (.istore 6, 2) := by decide +kernel
theorem d_R_copy_148 : decode c_R_copy 148 = .ok (.aload_n 0, 1) := by decide +kernel
theorem d_R_copy_149 : decode c_R_copy 149 = .ok (.getfield 46, 3) := by decide +kernel
theorem d_R_copy_152 : decode c_R_copy 152 = .ok (.iload 7, 2) := by decide +kernel
theorem d_R_copy_154 : decode c_R_copy 154 = .ok (.iaload, 1) := by decide +kernel
theorem d_R_copy_155 : decode c_R_copy 155 = .ok (.istore 7, 2) := by decide +kernel
theorem d_R_copy_157 : decode c_R_copy 157 = .ok (.goto (-37), 3) := by decide +kernel
theorem d_R_copy_160 : decode c_R_copy 160 = .ok (.aload_n 0, 1) := by decide +kernel
theorem d_R_copy_161 : decode c_R_copy 161 = .ok (.getfield 7, 3) := by decide +kernel
theorem d_R_copy_164 : decode c_R_copy 164 = .ok (.iload_n 1, 1) := by decide +kernel
theorem d_R_copy_165 : decode c_R_copy 165 = .ok (.iload 5, 2) := by decide +kernel
theorem d_R_copy_167 : decode c_R_copy 167 = .ok (.invokestatic 111, 3) := by decide +kernel
theorem d_R_copy_170 : decode c_R_copy 170 = .ok (.iastore, 1) := by decide +kernel
theorem d_R_copy_171 : decode c_R_copy 171 = .ok (.aload_n 0, 1) := by decide +kernel
theorem d_R_copy_172 : decode c_R_copy 172 = .ok (.getfield 92, 3) := by decide +kernel
theorem d_R_copy_175 : decode c_R_copy 175 = .ok (.ireturn, 1) := by decide +kernel
theorem d_R_chain_0 : decode c_R_chain 0 = .ok (.aload_n 0, 1) := by decide +kernel
theorem d_R_chain_1 : decode c_R_chain 1 = .ok (.iload_n 1, 1) := by decide +kernel
theorem d_R_chain_2 : decode c_R_chain 2 = .ok (.invokestatic 52, 3) := by decide +kernel
theorem d_R_chain_5 : decode c_R_chain 5 = .ok (.ifCond .eq 39, 3) := by decide +kernel
theorem d_R_chain_8 : decode c_R_chain 8 = .ok (.iload_n 2, 1) := by decide +kernel
theorem d_R_chain_9 : decode c_R_chain 9 = .ok (.invokestatic 52, 3) := by decide +kernel
theorem d_R_chain_12 : decode c_R_chain 12 = .ok (.ifCond .eq 32, 3) := by decide +kernel
theorem d_R_chain_15 : decode c_R_chain 15 = .ok (.iload 4, 2) := by decide +kernel
theorem d_R_chain_17 : decode c_R_chain 17 = .ok (.iconst 1, 1) := by decide +kernel
theorem d_R_chain_18 : decode c_R_chain 18 = .ok (.if_icmp .lt 26, 3) := by decide +kernel
theorem d_R_chain_21 : decode c_R_chain 21 = .ok (.iload 4, 2) := by decide +kernel
theorem d_R_chain_23 : decode c_R_chain 23 = .ok (.sipush 4000, 3) := by decide +kernel
theorem d_R_chain_26 : decode c_R_chain 26 = .ok (.if_icmp .gt 18, 3) := by decide +kernel
theorem d_R_chain_29 : decode c_R_chain 29 = .ok (.iload_n 3, 1) := by decide +kernel
theorem d_R_chain_30 : decode c_R_chain 30 = .ok (.iconst 1, 1) := by decide +kernel
theorem d_R_chain_31 : decode c_R_chain 31 = .ok (.if_icmp .lt 13, 3) := by decide +kernel
theorem d_R_chain_34 : decode c_R_chain 34 = .ok (.iload_n 3, 1) := by decide +kernel
theorem d_R_chain_35 : decode c_R_chain 35 = .ok (.bipush 100, 2) := by decide +kernel
theorem d_R_chain_37 : decode c_R_chain 37 = .ok (.if_icmp .gt 7, 3) := by decide +kernel
theorem d_R_chain_40 : decode c_R_chain 40 = .ok (.iconst 0, 1) := by decide +kernel
theorem d_R_chain_41 : decode c_R_chain 41 = .ok (.goto 4, 3) := by decide +kernel
theorem d_R_chain_44 : decode c_R_chain 44 = .ok (.iconst 1, 1) := by decide +kernel
theorem d_R_chain_45 : decode c_R_chain 45 = .ok (.putfield 49, 3) := by decide +kernel
theorem d_R_chain_48 : decode c_R_chain 48 = .ok (.aload_n 0, 1) := by decide +kernel
theorem d_R_chain_49 : decode c_R_chain 49 = .ok (.getfield 49, 3) := by decide +kernel
theorem d_R_chain_52 : decode c_R_chain 52 = .ok (.ifCond .le 5, 3) := by decide +kernel
theorem d_R_chain_55 : decode c_R_chain 55 = .ok (.iconst 0, 1) := by decide +kernel
theorem d_R_chain_56 : decode c_R_chain 56 = .ok (.ireturn, 1) := by decide +kernel
theorem d_R_chain_57 : decode c_R_chain 57 = .ok (.aload_n 0, 1) := by decide +kernel
theorem d_R_chain_58 : decode c_R_chain 58 = .ok (.invokevirtual 95, 3) := by decide +kernel
theorem d_R_chain_61 : decode c_R_chain 61 = .ok (.aload_n 0, 1) := by decide +kernel
theorem d_R_chain_62 : decode c_R_chain 62 = .ok (.invokevirtual 98, 3) := by decide +kernel
theorem d_R_chain_65 : decode c_R_chain 65 = .ok (.aload_n 0, 1) := by decide +kernel
theorem d_R_chain_66 : decode c_R_chain 66 = .ok (.getfield 14, 3) := by decide +kernel
theorem d_R_chain_69 : decode c_R_chain 69 = .ok (.aload_n 0, 1) := by decide +kernel
theorem d_R_chain_70 : decode c_R_chain 70 = .ok (.getfield 73, 3) := by decide +kernel
theorem d_R_chain_73 : decode c_R_chain 73 = .ok (.isub, 1) := by decide +kernel
theorem d_R_chain_74 : decode c_R_chain 74 = .ok (.istore 5, 2) := by decide +kernel
theorem d_R_chain_76 : decode c_R_chain 76 = .ok (.aload_n 0, 1) := by decide +kernel
theorem d_R_chain_77 : decode c_R_chain 77 = .ok (.getfield 18, 3) := by decide +kernel
theorem d_R_chain_80 : decode c_R_chain 80 = .ok (.aload_n 0, 1) := by decide +kernel
theorem d_R_chain_81 : decode c_R_chain 81 = .ok (.getfield 66, 3) := by decide +kernel
theorem d_R_chain_84 : decode c_R_chain 84 = .ok (.isub, 1) := by decide +kernel
theorem d_R_chain_85 : decode c_R_chain 85 = .ok (.istore 6, 2) := by decide +kernel
theorem d_R_chain_87 : decode c_R_chain 87 = .ok (.iconst 0, 1) := by decide +kernel
theorem d_R_chain_88 : decode c_R_chain 88 = .ok (.istore 7, 2) := by decide +kernel
theorem d_R_chain_90 : decode c_R_chain 90 = .ok (.iload 7, 2) := by decide +kernel
theorem d_R_chain_92 : decode c_R_chain 92 = .ok (.iload 4, 2) := by decide +kernel
theorem d_R_chain_94 : decode c_R_chain 94 = .ok (.if_icmp .ge 78, 3) := by decide +kernel
theorem d_R_chain_97 : decode c_R_chain 97 = .ok (.iload 7, 2) := by decide +kernel
theorem d_R_chain_99 : decode c_R_chain 99 = .ok (.iload 6, 2) := by decide +kernel
theorem d_R_chain_101 : decode c_R_chain 101 = .ok (.if_icmp .ge 71, 3) := by decide +kernel
theorem d_R_chain_104 : decode c_R_chain 104 = .ok (.iload 5, 2) := by decide +kernel
theorem d_R_chain_106 : decode c_R_chain 106 = .ok (.iconst 4, 1) := by decide +kernel
theorem d_R_chain_107 : decode c_R_chain 107 = .ok (.iload_n 3, 1) := by decide +kernel
theorem d_R_chain_108 : decode c_R_chain 108 = .ok (.iadd, 1) := by decide +kernel
theorem d_R_chain_109 : decode c_R_chain 109 = .ok (.if_icmp .lt 63, 3) := by decide +kernel
theorem d_R_chain_112 : decode c_R_chain 112 = .ok (.aload_n 0, 1) := by decide +kernel
theorem d_R_chain_113 : decode c_R_chain 113 = .ok (.aload_n 0, 1) := by decide +kernel
theorem d_R_chain_114 : decode c_R_chain 114 = .ok (.getfield 7, 3) := by decide +kernel
theorem d_R_chain_117 : decode c_R_chain 117 = .ok (.iload_n 2, 1) := by decide +kernel
theorem d_R_chain_118 : decode c_R_chain 118 = .ok (.iaload, 1) := by decide +kernel
theorem d_R_chain_119 : decode c_R_chain 119 = .ok (.iload_n 3, 1) := by decide +kernel
theorem d_R_chain_120 : decode c_R_chain 120 = .ok (.iconst 0, 1) := by decide +kernel
theorem d_R_chain_121 : decode c_R_chain 121 = .ok (.invokevirtual 107, 3) := by decide +kernel
theorem d_R_chain_124 : decode c_R_chain 124 = .ok (.istore 8, 2) := by decide +kernel
theorem d_R_chain_126 : decode c_R_chain 126 = .ok (.aload_n 0, 1) := by decide +kernel
theorem d_R_chain_127 : decode c_R_chain 127 = .ok (.getfield 43, 3) := by decide +kernel
theorem d_R_chain_130 : decode c_R_chain 130 = .ok (.aload_n 0, 1) := by decide +kernel
theorem d_R_chain_131 : decode c_R_chain 131 = .ok (.getfield 34, 3) := by decide +kernel
theorem d_R_chain_134 : decode c_R_chain 134 = .ok (.iload 8, 2) := by decide +kernel
theorem d_R_chain_136 : decode c_R_chain 136 = .ok (.iaload, 1) := by decide +kernel
theorem d_R_chain_137 : decode c_R_chain 137 = .ok (.aload_n 0, 1) := by decide +kernel
theorem d_R_chain_138 : decode c_R_chain 138 = .ok (.getfield 7, 3) := by decide +kernel
theorem d_R_chain_141 : decode c_R_chain 141 = .ok (.iload_n 1, 1) := by decide +kernel
theorem d_R_chain_142 : decode c_R_chain 142 = .ok (.iaload, 1) := by decide +kernel
theorem d_R_chain_143 : decode c_R_chain 143 = .ok (.iastore, 1) := by decide +kernel
theorem d_R_chain_144 : decode c_R_chain 144 = .ok (.aload_n 0, 1) := by decide +kernel
theorem d_R_chain_145 : decode c_R_chain 145 = .ok (.getfield 7, 3) := by decide +kernel
theorem d_R_chain_148 : decode c_R_chain 148 = .ok (.iload_n 1, 1) := by decide +kernel
theorem d_R_chain_149 : decode c_R_chain 149 = .ok (.iload 8, 2) := by decide +kernel
theorem d_R_chain_151 : decode c_R_chain 151 = .ok (.invokestatic 111, 3) := by decide +kernel
theorem d_R_chain_154 : decode c_R_chain 154 = .ok (.iastore, 1) := by decide +kernel
theorem d_R_chain_155 : decode c_R_chain 155 = .ok (.iload 5, 2) := by decide +kernel
theorem d_R_chain_157 : decode c_R_chain 157 = .ok (.iconst 4, 1) := by decide +kernel
theorem d_R_chain_158 : decode c_R_chain 158 = .ok (.isub, 1) := by decide +kernel
theorem d_R_chain_159 : decode c_R_chain 159 = .ok (.iload_n 3, 1) := by decide +kernel
theorem d_R_chain_160 : decode c_R_chain 160 = .ok (.isub, 1) := by decide +kernel
theorem d_R_chain_161 : decode c_R_chain 161 = .ok (.istore 5, 2) := by decide +kernel
theorem d_R_chain_163 : decode c_R_chain 163 = .ok (.iload 7, 2) := by decide +kernel
theorem d_R_chain_165 : decode c_R_chain 165 = .ok (.iconst 1, 1) := by decide +kernel
theorem d_R_chain_166 : decode c_R_chain 166 = .ok (.iadd, 1) := by decide +kernel
theorem d_R_chain_167 : decode c_R_chain 167 = .ok (.istore 7, 2) := by decide +kernel
theorem d_R_chain_169 : decode c_R_chain 169 = .ok (.goto (-79), 3) := by decide +kernel
theorem d_R_chain_172 : decode c_R_chain 172 = .ok (.iload 7, 2) := by decide +kernel
theorem d_R_chain_174 : decode c_R_chain 174 = .ok (.ireturn, 1) := by decide +kernel
theorem d_R_get_0 : decode c_R_get 0 = .ok (.iload_n 1, 1) := by decide +kernel
theorem d_R_get_1 : decode c_R_get 1 = .ok (.invokestatic 52, 3) := by decide +kernel
theorem d_R_get_4 : decode c_R_get 4 = .ok (.ifCond .eq 15, 3) := by decide +kernel
theorem d_R_get_7 : decode c_R_get 7 = .ok (.aload_n 0, 1) := by decide +kernel
theorem d_R_get_8 : decode c_R_get 8 = .ok (.iload_n 2, 1) := by decide +kernel
theorem d_R_get_9 : decode c_R_get 9 = .ok (.invokevirtual 120, 3) := by decide +kernel
theorem d_R_get_12 : decode c_R_get 12 = .ok (.ifCond .eq 7, 3) := by decide +kernel
theorem d_R_get_15 : decode c_R_get 15 = .ok (.iconst 1, 1) := by decide +kernel
theorem d_R_get_16 : decode c_R_get 16 = .ok (.goto 4, 3) := by decide +kernel
theorem d_R_get_19 : decode c_R_get 19 = .ok (.iconst 0, 1) := by decide +kernel
theorem d_R_get_20 : decode c_R_get 20 = .ok (.istore 4, 2) := by decide +kernel
theorem d_R_get_22 : decode c_R_get 22 = .ok (.aload_n 0, 1) := by decide +kernel
theorem d_R_get_23 : decode c_R_get 23 = .ok (.iload 4, 2) := by decide +kernel
theorem d_R_get_25 : decode c_R_get 25 = .ok (.ifCond .ne 7, 3) := by decide +kernel
theorem d_R_get_28 : decode c_R_get 28 = .ok (.iconst 1, 1) := by decide +kernel
theorem d_R_get_29 : decode c_R_get 29 = .ok (.goto 21, 3) := by decide +kernel
theorem d_R_get_32 : decode c_R_get 32 = .ok (.iload_n 3, 1) := by decide +kernel
theorem d_R_get_33 : decode c_R_get 33 = .ok (.ifCond .lt 12, 3) := by decide +kernel
theorem d_R_get_36 : decode c_R_get 36 = .ok (.iload_n 3, 1) := by decide +kernel
theorem d_R_get_37 : decode c_R_get 37 = .ok (.aload_n 0, 1) := by decide +kernel
theorem d_R_get_38 : decode c_R_get 38 = .ok (.iload_n 2, 1) := by decide +kernel
theorem d_R_get_39 : decode c_R_get 39 = .ok (.invokevirtual 114, 3) := by decide +kernel
theorem d_R_get_42 : decode c_R_get 42 = .ok (.if_icmp .lt 7, 3) := by decide +kernel
theorem d_R_get_45 : decode c_R_get 45 = .ok (.iconst 2, 1) := by decide +kernel
theorem d_R_get_46 : decode c_R_get 46 = .ok (.goto 4, 3) := by decide +kernel
theorem d_R_get_49 : decode c_R_get 49 = .ok (.iconst 0, 1) := by decide +kernel
theorem d_R_get_50 : decode c_R_get 50 = .ok (.putfield 49, 3) := by decide +kernel
theorem d_R_get_53 : decode c_R_get 53 = .ok (.aload_n 0, 1) := by decide +kernel
theorem d_R_get_54 : decode c_R_get 54 = .ok (.getfield 49, 3) := by decide +kernel
theorem d_R_get_57 : decode c_R_get 57 = .ok (.ifCond .ne 28, 3) := by decide +kernel
theorem d_R_get_60 : decode c_R_get 60 = .ok (.aload_n 0, 1) := by decide +kernel
theorem d_R_get_61 : decode c_R_get 61 = .ok (.getfield 7, 3) := by decide +kernel
theorem d_R_get_64 : decode c_R_get 64 = .ok (.iload_n 1, 1) := by decide +kernel
theorem d_R_get_65 : decode c_R_get 65 = .ok (.aload_n 0, 1) := by decide +kernel
theorem d_R_get_66 : decode c_R_get 66 = .ok (.getfield 43, 3) := by decide +kernel
theorem d_R_get_69 : decode c_R_get 69 = .ok (.aload_n 0, 1) := by decide +kernel
theorem d_R_get_70 : decode c_R_get 70 = .ok (.aload_n 0, 1) := by decide +kernel
theorem d_R_get_71 : decode c_R_get 71 = .ok (.getfield 7, 3) := by decide +kernel
theorem d_R_get_74 : decode c_R_get 74 = .ok (.iload_n 2, 1) := by decide +kernel
theorem d_R_get_75 : decode c_R_get 75 = .ok (.iaload, 1) := by decide +kernel
theorem d_R_get_76 : decode c_R_get 76 = .ok (.invokestatic 62, 3) := by decide +kernel
theorem d_R_get_79 : decode c_R_get 79 = .ok (.iload_n 3, 1) := by decide +kernel
theorem d_R_get_80 : decode c_R_get 80 = .ok (.invokevirtual 123, 3) := by decide +kernel
theorem d_R_get_83 : decode c_R_get 83 = .ok (.iaload, 1) := by decide +kernel
theorem d_R_get_84 : decode c_R_get 84 = .ok (.iastore, 1) := by decide +kernel
theorem d_R_get_85 : decode c_R_get 85 = .ok (.return_, 1) := by decide +kernel
theorem d_R_put_0 : decode c_R_put 0 = .ok (.aload_n 0, 1) := by decide +kernel
theorem d_R_put_1 : decode c_R_put 1 = .ok (.iload_n 1, 1) := by decide +kernel
theorem d_R_put_2 : decode c_R_put 2 = .ok (.invokevirtual 120, 3) := by decide +kernel
theorem d_R_put_5 : decode c_R_put 5 = .ok (.ifCond .eq 14, 3) := by decide +kernel
theorem d_R_put_8 : decode c_R_put 8 = .ok (.iload_n 3, 1) := by decide +kernel
theorem d_R_put_9 : decode c_R_put 9 = .ok (.invokestatic 52, 3) := by decide +kernel
theorem d_R_put_12 : decode c_R_put 12 = .ok (.ifCond .eq 7, 3) := by decide +kernel
theorem d_R_put_15 : decode c_R_put 15 = .ok (.iconst 1, 1) := by decide +kernel
theorem d_R_put_16 : decode c_R_put 16 = .ok (.goto 4, 3) := by decide +kernel
theorem d_R_put_19 : decode c_R_put 19 = .ok (.iconst 0, 1) := by decide +kernel
theorem d_R_put_20 : decode c_R_put 20 = .ok (.istore 4, 2) := by decide +kernel
theorem d_R_put_22 : decode c_R_put 22 = .ok (.aload_n 0, 1) := by decide +kernel
theorem d_R_put_23 : decode c_R_put 23 = .ok (.iload 4, 2) := by decide +kernel
theorem d_R_put_25 : decode c_R_put 25 = .ok (.ifCond .ne 7, 3) := by decide +kernel
theorem d_R_put_28 : decode c_R_put 28 = .ok (.iconst 1, 1) := by decide +kernel
theorem d_R_put_29 : decode c_R_put 29 = .ok (.goto 21, 3) := by decide +kernel
theorem d_R_put_32 : decode c_R_put 32 = .ok (.iload_n 2, 1) := by decide +kernel
theorem d_R_put_33 : decode c_R_put 33 = .ok (.ifCond .lt 12, 3) := by decide +kernel
theorem d_R_put_36 : decode c_R_put 36 = .ok (.iload_n 2, 1) := by decide +kernel
theorem d_R_put_37 : decode c_R_put 37 = .ok (.aload_n 0, 1) := by decide +kernel
theorem d_R_put_38 : decode c_R_put 38 = .ok (.iload_n 1, 1) := by decide +kernel
theorem d_R_put_39 : decode c_R_put 39 = .ok (.invokevirtual 114, 3) := by decide +kernel
theorem d_R_put_42 : decode c_R_put 42 = .ok (.if_icmp .lt 7, 3) := by decide +kernel
theorem d_R_put_45 : decode c_R_put 45 = .ok (.iconst 2, 1) := by decide +kernel
theorem d_R_put_46 : decode c_R_put 46 = .ok (.goto 4, 3) := by decide +kernel
theorem d_R_put_49 : decode c_R_put 49 = .ok (.iconst 0, 1) := by decide +kernel
theorem d_R_put_50 : decode c_R_put 50 = .ok (.putfield 49, 3) := by decide +kernel
theorem d_R_put_53 : decode c_R_put 53 = .ok (.aload_n 0, 1) := by decide +kernel
theorem d_R_put_54 : decode c_R_put 54 = .ok (.getfield 49, 3) := by decide +kernel
theorem d_R_put_57 : decode c_R_put 57 = .ok (.ifCond .ne 28, 3) := by decide +kernel
theorem d_R_put_60 : decode c_R_put 60 = .ok (.aload_n 0, 1) := by decide +kernel
theorem d_R_put_61 : decode c_R_put 61 = .ok (.getfield 43, 3) := by decide +kernel
theorem d_R_put_64 : decode c_R_put 64 = .ok (.aload_n 0, 1) := by decide +kernel
theorem d_R_put_65 : decode c_R_put 65 = .ok (.aload_n 0, 1) := by decide +kernel
theorem d_R_put_66 : decode c_R_put 66 = .ok (.getfield 7, 3) := by decide +kernel
theorem d_R_put_69 : decode c_R_put 69 = .ok (.iload_n 1, 1) := by decide +kernel
theorem d_R_put_70 : decode c_R_put 70 = .ok (.iaload, 1) := by decide +kernel
theorem d_R_put_71 : decode c_R_put 71 = .ok (.invokestatic 62, 3) := by decide +kernel
theorem d_R_put_74 : decode c_R_put 74 = .ok (.iload_n 2, 1) := by decide +kernel
theorem d_R_put_75 : decode c_R_put 75 = .ok (.invokevirtual 123, 3) := by decide +kernel
theorem d_R_put_78 : decode c_R_put 78 = .ok (.aload_n 0, 1) := by decide +kernel
theorem d_R_put_79 : decode c_R_put 79 = .ok (.getfield 7, 3) := by decide +kernel
theorem d_R_put_82 : decode c_R_put 82 = .ok (.iload_n 3, 1) := by decide +kernel
theorem d_R_put_83 : decode c_R_put 83 = .ok (.iaload, 1) := by decide +kernel
theorem d_R_put_84 : decode c_R_put 84 = .ok (.iastore, 1) := by decide +kernel
theorem d_R_put_85 : decode c_R_put 85 = .ok (.return_, 1) := by decide +kernel
theorem d_R_walk_0 : decode c_R_walk 0 = .ok (.aload_n 0, 1) := by decide +kernel
theorem d_R_walk_1 : decode c_R_walk 1 = .ok (.iload_n 1, 1) := by decide +kernel
theorem d_R_walk_2 : decode c_R_walk 2 = .ok (.invokestatic 52, 3) := by decide +kernel
theorem d_R_walk_5 : decode c_R_walk 5 = .ok (.ifCond .eq 18, 3) := by decide +kernel
theorem d_R_walk_8 : decode c_R_walk 8 = .ok (.iload_n 3, 1) := by decide +kernel
theorem d_R_walk_9 : decode c_R_walk 9 = .ok (.ifCond .lt 14, 3) := by decide +kernel
theorem d_R_walk_12 : decode c_R_walk 12 = .ok (.iload_n 3, 1) := by decide +kernel
theorem d_R_walk_13 : decode c_R_walk 13 = .ok (.sipush 10000, 3) := by decide +kernel
theorem d_R_walk_16 : decode c_R_walk 16 = .ok (.if_icmp .gt 7, 3) := by decide +kernel
theorem d_R_walk_19 : decode c_R_walk 19 = .ok (.iconst 0, 1) := by decide +kernel
theorem d_R_walk_20 : decode c_R_walk 20 = .ok (.goto 4, 3) := by decide +kernel
theorem d_R_walk_23 : decode c_R_walk 23 = .ok (.iconst 1, 1) := by decide +kernel
theorem d_R_walk_24 : decode c_R_walk 24 = .ok (.putfield 49, 3) := by decide +kernel
theorem d_R_walk_27 : decode c_R_walk 27 = .ok (.aload_n 0, 1) := by decide +kernel
theorem d_R_walk_28 : decode c_R_walk 28 = .ok (.getfield 49, 3) := by decide +kernel
theorem d_R_walk_31 : decode c_R_walk 31 = .ok (.ifCond .le 5, 3) := by decide +kernel
theorem d_R_walk_34 : decode c_R_walk 34 = .ok (.iconst 0, 1) := by decide +kernel
theorem d_R_walk_35 : decode c_R_walk 35 = .ok (.ireturn, 1) := by decide +kernel
theorem d_R_walk_36 : decode c_R_walk 36 = .ok (.iconst 0, 1) := by decide +kernel
theorem d_R_walk_37 : decode c_R_walk 37 = .ok (.istore 4, 2) := by decide +kernel
theorem d_R_walk_39 : decode c_R_walk 39 = .ok (.iload 4, 2) := by decide +kernel
theorem d_R_walk_41 : decode c_R_walk 41 = .ok (.iload_n 3, 1) := by decide +kernel
theorem d_R_walk_42 : decode c_R_walk 42 = .ok (.if_icmp .ge 58, 3) := by decide +kernel
theorem d_R_walk_45 : decode c_R_walk 45 = .ok (.aload_n 0, 1) := by decide +kernel
theorem d_R_walk_46 : decode c_R_walk 46 = .ok (.iload_n 1, 1) := by decide +kernel
theorem d_R_walk_47 : decode c_R_walk 47 = .ok (.invokevirtual 120, 3) := by decide +kernel
theorem d_R_walk_50 : decode c_R_walk 50 = .ok (.ifCond .eq 50, 3) := by decide +kernel
theorem d_R_walk_53 : decode c_R_walk 53 = .ok (.iload_n 2, 1) := by decide +kernel
theorem d_R_walk_54 : decode c_R_walk 54 = .ok (.ifCond .lt 46, 3) := by decide +kernel
theorem d_R_walk_57 : decode c_R_walk 57 = .ok (.iload_n 2, 1) := by decide +kernel
theorem d_R_walk_58 : decode c_R_walk 58 = .ok (.aload_n 0, 1) := by decide +kernel
theorem d_R_walk_59 : decode c_R_walk 59 = .ok (.iload_n 1, 1) := by decide +kernel
theorem d_R_walk_60 : decode c_R_walk 60 = .ok (.invokevirtual 114, 3) := by decide +kernel
theorem d_R_walk_63 : decode c_R_walk 63 = .ok (.if_icmp .ge 37, 3) := by decide +kernel
theorem d_R_walk_66 : decode c_R_walk 66 = .ok (.aload_n 0, 1) := by decide +kernel
theorem d_R_walk_67 : decode c_R_walk 67 = .ok (.getfield 7, 3) := by decide +kernel
theorem d_R_walk_70 : decode c_R_walk 70 = .ok (.iload_n 1, 1) := by decide +kernel
theorem d_R_walk_71 : decode c_R_walk 71 = .ok (.aload_n 0, 1) := by decide +kernel
theorem d_R_walk_72 : decode c_R_walk 72 = .ok (.getfield 43, 3) := by decide +kernel
theorem d_R_walk_75 : decode c_R_walk 75 = .ok (.aload_n 0, 1) := by decide +kernel
theorem d_R_walk_76 : decode c_R_walk 76 = .ok (.aload_n 0, 1) := by decide +kernel
theorem d_R_walk_77 : decode c_R_walk 77 = .ok (.getfield 7, 3) := by decide +kernel
theorem d_R_walk_80 : decode c_R_walk 80 = .ok (.iload_n 1, 1) := by decide +kernel
theorem d_R_walk_81 : decode c_R_walk 81 = .ok (.iaload, 1) := by decide +kernel
theorem d_R_walk_82 : decode c_R_walk 82 = .ok (.invokestatic 62, 3) := by decide +kernel
theorem d_R_walk_85 : decode c_R_walk 85 = .ok (.iload_n 2, 1) := by decide +kernel
theorem d_R_walk_86 : decode c_R_walk 86 = .ok (.invokevirtual 123, 3) := by decide +kernel
theorem d_R_walk_89 : decode c_R_walk 89 = .ok (.iaload, 1) := by decide +kernel
theorem d_R_walk_90 : decode c_R_walk 90 = .ok (.iastore, 1) := by decide +kernel
theorem d_R_walk_91 : decode c_R_walk 91 = .ok (.iload 4, 2) := by decide +kernel
theorem d_R_walk_93 : decode c_R_walk 93 = .ok (.iconst 1, 1) := by decide +kernel
theorem d_R_walk_94 : decode c_R_walk 94 = .ok (.iadd, 1) := by decide +kernel
theorem d_R_walk_95 : decode c_R_walk 95 = .ok (.istore 4, 2) := by decide +kernel
theorem d_R_walk_97 : decode c_R_walk 97 = .ok (.goto (-58), 3) := by decide +kernel
theorem d_R_walk_100 : decode c_R_walk 100 = .ok (.iload 4, 2) := by decide +kernel
theorem d_R_walk_102 : decode c_R_walk 102 = .ok (.ireturn, 1) := by decide +kernel
theorem d_R_classOf_0 : decode c_R_classOf 0 = .ok (.aload_n 0, 1) := by decide +kernel
theorem d_R_classOf_1 : decode c_R_classOf 1 = .ok (.iload_n 1, 1) := by decide +kernel
theorem d_R_classOf_2 : decode c_R_classOf 2 = .ok (.invokestatic 52, 3) := by decide +kernel
theorem d_R_classOf_5 : decode c_R_classOf 5 = .ok (.ifCond .eq 15, 3) := by decide +kernel
theorem d_R_classOf_8 : decode c_R_classOf 8 = .ok (.aload_n 0, 1) := by decide +kernel
theorem d_R_classOf_9 : decode c_R_classOf 9 = .ok (.iload_n 2, 1) := by decide +kernel
theorem d_R_classOf_10 : decode c_R_classOf 10 = .ok (.invokevirtual 59, 3) := by decide +kernel
theorem d_R_classOf_13 : decode c_R_classOf 13 = .ok (.ifCond .eq 7, 3) := by decide +kernel
theorem d_R_classOf_16 : decode c_R_classOf 16 = .ok (.iconst 0, 1) := by decide +kernel
theorem d_R_classOf_17 : decode c_R_classOf 17 = .ok (.goto 4, 3) := by decide +kernel
theorem d_R_classOf_20 : decode c_R_classOf 20 = .ok (.iconst 1, 1) := by decide +kernel
theorem d_R_classOf_21 : decode c_R_classOf 21 = .ok (.putfield 49, 3) := by decide +kernel
theorem d_R_classOf_24 : decode c_R_classOf 24 = .ok (.aload_n 0, 1) := by decide +kernel
theorem d_R_classOf_25 : decode c_R_classOf 25 = .ok (.getfield 49, 3) := by decide +kernel
theorem d_R_classOf_28 : decode c_R_classOf 28 = .ok (.ifCond .ne 23, 3) := by decide +kernel
theorem d_R_classOf_31 : decode c_R_classOf 31 = .ok (.aload_n 0, 1) := by decide +kernel
theorem d_R_classOf_32 : decode c_R_classOf 32 = .ok (.getfield 7, 3) := by decide +kernel
theorem d_R_classOf_35 : decode c_R_classOf 35 = .ok (.iload_n 1, 1) := by decide +kernel
theorem d_R_classOf_36 : decode c_R_classOf 36 = .ok (.aload_n 0, 1) := by decide +kernel
theorem d_R_classOf_37 : decode c_R_classOf 37 = .ok (.getfield 24, 3) := by decide +kernel
theorem d_R_classOf_40 : decode c_R_classOf 40 = .ok (.aload_n 0, 1) := by decide +kernel
theorem d_R_classOf_41 : decode c_R_classOf 41 = .ok (.getfield 7, 3) := by decide +kernel
theorem d_R_classOf_44 : decode c_R_classOf 44 = .ok (.iload_n 2, 1) := by decide +kernel
theorem d_R_classOf_45 : decode c_R_classOf 45 = .ok (.iaload, 1) := by decide +kernel
theorem d_R_classOf_46 : decode c_R_classOf 46 = .ok (.invokestatic 62, 3) := by decide +kernel
theorem d_R_classOf_49 : decode c_R_classOf 49 = .ok (.iaload, 1) := by decide +kernel
theorem d_R_classOf_50 : decode c_R_classOf 50 = .ok (.iastore, 1) := by decide +kernel
theorem d_R_classOf_51 : decode c_R_classOf 51 = .ok (.return_, 1) := by decide +kernel
theorem d_R_setClass_0 : decode c_R_setClass 0 = .ok (.aload_n 0, 1) := by decide +kernel
theorem d_R_setClass_1 : decode c_R_setClass 1 = .ok (.aload_n 0, 1) := by decide +kernel
theorem d_R_setClass_2 : decode c_R_setClass 2 = .ok (.iload_n 1, 1) := by decide +kernel
theorem d_R_setClass_3 : decode c_R_setClass 3 = .ok (.invokevirtual 59, 3) := by decide +kernel
theorem d_R_setClass_6 : decode c_R_setClass 6 = .ok (.ifCond .eq 14, 3) := by decide +kernel
theorem d_R_setClass_9 : decode c_R_setClass 9 = .ok (.iload_n 2, 1) := by decide +kernel
theorem d_R_setClass_10 : decode c_R_setClass 10 = .ok (.invokestatic 52, 3) := by decide +kernel
theorem d_R_setClass_13 : decode c_R_setClass 13 = .ok (.ifCond .eq 7, 3) := by decide +kernel
theorem d_R_setClass_16 : decode c_R_setClass 16 = .ok (.iconst 0, 1) := by decide +kernel
theorem d_R_setClass_17 : decode c_R_setClass 17 = .ok (.goto 4, 3) := by decide +kernel
theorem d_R_setClass_20 : decode c_R_setClass 20 = .ok (.iconst 1, 1) := by decide +kernel
theorem d_R_setClass_21 : decode c_R_setClass 21 = .ok (.putfield 49, 3) := by decide +kernel
theorem d_R_setClass_24 : decode c_R_setClass 24 = .ok (.aload_n 0, 1) := by decide +kernel
theorem d_R_setClass_25 : decode c_R_setClass 25 = .ok (.getfield 49, 3) := by decide +kernel
theorem d_R_setClass_28 : decode c_R_setClass 28 = .ok (.ifCond .ne 23, 3) := by decide +kernel
theorem d_R_setClass_31 : decode c_R_setClass 31 = .ok (.aload_n 0, 1) := by decide +kernel
theorem d_R_setClass_32 : decode c_R_setClass 32 = .ok (.getfield 24, 3) := by decide +kernel
theorem d_R_setClass_35 : decode c_R_setClass 35 = .ok (.aload_n 0, 1) := by decide +kernel
theorem d_R_setClass_36 : decode c_R_setClass 36 = .ok (.getfield 7, 3) := by decide +kernel
theorem d_R_setClass_39 : decode c_R_setClass 39 = .ok (.iload_n 1, 1) := by decide +kernel
theorem d_R_setClass_40 : decode c_R_setClass 40 = .ok (.iaload, 1) := by decide +kernel
theorem d_R_setClass_41 : decode c_R_setClass 41 = .ok (.invokestatic 62, 3) := by decide +kernel
theorem d_R_setClass_44 : decode c_R_setClass 44 = .ok (.aload_n 0, 1) := by decide +kernel
theorem d_R_setClass_45 : decode c_R_setClass 45 = .ok (.getfield 7, 3) := by decide +kernel
theorem d_R_setClass_48 : decode c_R_setClass 48 = .ok (.iload_n 2, 1) := by decide +kernel
theorem d_R_setClass_49 : decode c_R_setClass 49 = .ok (.iaload, 1) := by decide +kernel
theorem d_R_setClass_50 : decode c_R_setClass 50 = .ok (.iastore, 1) := by decide +kernel
theorem d_R_setClass_51 : decode c_R_setClass 51 = .ok (.return_, 1) := by decide +kernel
theorem d_R_byteOf_0 : decode c_R_byteOf 0 = .ok (.aload_n 0, 1) := by decide +kernel
theorem d_R_byteOf_1 : decode c_R_byteOf 1 = .ok (.getfield 43, 3) := by decide +kernel
theorem d_R_byteOf_4 : decode c_R_byteOf 4 = .ok (.aload_n 0, 1) := by decide +kernel
theorem d_R_byteOf_5 : decode c_R_byteOf 5 = .ok (.iload_n 1, 1) := by decide +kernel
theorem d_R_byteOf_6 : decode c_R_byteOf 6 = .ok (.iload_n 2, 1) := by decide +kernel
theorem d_R_byteOf_7 : decode c_R_byteOf 7 = .ok (.iconst 4, 1) := by decide +kernel
theorem d_R_byteOf_8 : decode c_R_byteOf 8 = .ok (.idiv, 1) := by decide +kernel
theorem d_R_byteOf_9 : decode c_R_byteOf 9 = .ok (.invokevirtual 123, 3) := by decide +kernel
theorem d_R_byteOf_12 : decode c_R_byteOf 12 = .ok (.iaload, 1) := by decide +kernel
theorem d_R_byteOf_13 : decode c_R_byteOf 13 = .ok (.bipush 24, 2) := by decide +kernel
theorem d_R_byteOf_15 : decode c_R_byteOf 15 = .ok (.bipush 8, 2) := by decide +kernel
theorem d_R_byteOf_17 : decode c_R_byteOf 17 = .ok (.iload_n 2, 1) := by decide +kernel
theorem d_R_byteOf_18 : decode c_R_byteOf 18 = .ok (.iconst 4, 1) := by decide +kernel
theorem d_R_byteOf_19 : decode c_R_byteOf 19 = .ok (.irem, 1) := by decide +kernel
theorem d_R_byteOf_20 : decode c_R_byteOf 20 = .ok (.imul, 1) := by decide +kernel
theorem d_R_byteOf_21 : decode c_R_byteOf 21 = .ok (.isub, 1) := by decide +kernel
theorem d_R_byteOf_22 : decode c_R_byteOf 22 = .ok (.iushr, 1) := by decide +kernel
theorem d_R_byteOf_23 : decode c_R_byteOf 23 = .ok (.sipush 255, 3) := by decide +kernel
theorem d_R_byteOf_26 : decode c_R_byteOf 26 = .ok (.iand, 1) := by decide +kernel
theorem d_R_byteOf_27 : decode c_R_byteOf 27 = .ok (.ireturn, 1) := by decide +kernel
theorem d_R_setByte_0 : decode c_R_setByte 0 = .ok (.aload_n 0, 1) := by decide +kernel
theorem d_R_setByte_1 : decode c_R_setByte 1 = .ok (.iload_n 1, 1) := by decide +kernel
theorem d_R_setByte_2 : decode c_R_setByte 2 = .ok (.iload_n 2, 1) := by decide +kernel
theorem d_R_setByte_3 : decode c_R_setByte 3 = .ok (.iconst 4, 1) := by decide +kernel
theorem d_R_setByte_4 : decode c_R_setByte 4 = .ok (.idiv, 1) := by decide +kernel
theorem d_R_setByte_5 : decode c_R_setByte 5 = .ok (.invokevirtual 123, 3) := by decide +kernel
theorem d_R_setByte_8 : decode c_R_setByte 8 = .ok (.istore 4, 2) := by decide +kernel
theorem d_R_setByte_10 : decode c_R_setByte 10 = .ok (.bipush 24, 2) := by decide +kernel
theorem d_R_setByte_12 : decode c_R_setByte 12 = .ok (.bipush 8, 2) := by decide +kernel
theorem d_R_setByte_14 : decode c_R_setByte 14 = .ok (.iload_n 2, 1) := by decide +kernel
theorem d_R_setByte_15 : decode c_R_setByte 15 = .ok (.iconst 4, 1) := by decide +kernel
theorem d_R_setByte_16 : decode c_R_setByte 16 = .ok (.irem, 1) := by decide +kernel
theorem d_R_setByte_17 : decode c_R_setByte 17 = .ok (.imul, 1) := by decide +kernel
theorem d_R_setByte_18 : decode c_R_setByte 18 = .ok (.isub, 1) := by decide +kernel
theorem d_R_setByte_19 : decode c_R_setByte 19 = .ok (.istore 5, 2) := by decide +kernel
theorem d_R_setByte_21 : decode c_R_setByte 21 = .ok (.aload_n 0, 1) := by decide +kernel
theorem d_R_setByte_22 : decode c_R_setByte 22 = .ok (.getfield 43, 3) := by decide +kernel
theorem d_R_setByte_25 : decode c_R_setByte 25 = .ok (.iload 4, 2) := by decide +kernel
theorem d_R_setByte_27 : decode c_R_setByte 27 = .ok (.aload_n 0, 1) := by decide +kernel
theorem d_R_setByte_28 : decode c_R_setByte 28 = .ok (.getfield 43, 3) := by decide +kernel
theorem d_R_setByte_31 : decode c_R_setByte 31 = .ok (.iload 4, 2) := by decide +kernel
theorem d_R_setByte_33 : decode c_R_setByte 33 = .ok (.iaload, 1) := by decide +kernel
theorem d_R_setByte_34 : decode c_R_setByte 34 = .ok (.sipush 255, 3) := by decide +kernel
theorem d_R_setByte_37 : decode c_R_setByte 37 = .ok (.iload 5, 2) := by decide +kernel
theorem d_R_setByte_39 : decode c_R_setByte 39 = .ok (.ishl, 1) := by decide +kernel
theorem d_R_setByte_40 : decode c_R_setByte 40 = .ok (.iconst (-1), 1) := by decide +kernel
theorem d_R_setByte_41 : decode c_R_setByte 41 = .ok (.ixor, 1) := by decide +kernel
theorem d_R_setByte_42 : decode c_R_setByte 42 = .ok (.iand, 1) := by decide +kernel
theorem d_R_setByte_43 : decode c_R_setByte 43 = .ok (.iload_n 3, 1) := by decide +kernel
theorem d_R_setByte_44 : decode c_R_setByte 44 = .ok (.iload 5, 2) := by decide +kernel
theorem d_R_setByte_46 : decode c_R_setByte 46 = .ok (.ishl, 1) := by decide +kernel
theorem d_R_setByte_47 : decode c_R_setByte 47 = .ok (.ior, 1) := by decide +kernel
theorem d_R_setByte_48 : decode c_R_setByte 48 = .ok (.iastore, 1) := by decide +kernel
theorem d_R_setByte_49 : decode c_R_setByte 49 = .ok (.return_, 1) := by decide +kernel
theorem d_R_byteAt_0 : decode c_R_byteAt 0 = .ok (.aload_n 0, 1) := by decide +kernel
theorem d_R_byteAt_1 : decode c_R_byteAt 1 = .ok (.aload_n 0, 1) := by decide +kernel
theorem d_R_byteAt_2 : decode c_R_byteAt 2 = .ok (.iload_n 1, 1) := by decide +kernel
theorem d_R_byteAt_3 : decode c_R_byteAt 3 = .ok (.invokevirtual 117, 3) := by decide +kernel
theorem d_R_byteAt_6 : decode c_R_byteAt 6 = .ok (.ifCond .ne 7, 3) := by decide +kernel
theorem d_R_byteAt_9 : decode c_R_byteAt 9 = .ok (.iconst 1, 1) := by decide +kernel
theorem d_R_byteAt_10 : decode c_R_byteAt 10 = .ok (.goto 21, 3) := by decide +kernel
theorem d_R_byteAt_13 : decode c_R_byteAt 13 = .ok (.iload_n 2, 1) := by decide +kernel
theorem d_R_byteAt_14 : decode c_R_byteAt 14 = .ok (.ifCond .lt 12, 3) := by decide +kernel
theorem d_R_byteAt_17 : decode c_R_byteAt 17 = .ok (.iload_n 2, 1) := by decide +kernel
theorem d_R_byteAt_18 : decode c_R_byteAt 18 = .ok (.aload_n 0, 1) := by decide +kernel
theorem d_R_byteAt_19 : decode c_R_byteAt 19 = .ok (.iload_n 1, 1) := by decide +kernel
theorem d_R_byteAt_20 : decode c_R_byteAt 20 = .ok (.invokevirtual 114, 3) := by decide +kernel
theorem d_R_byteAt_23 : decode c_R_byteAt 23 = .ok (.if_icmp .lt 7, 3) := by decide +kernel
theorem d_R_byteAt_26 : decode c_R_byteAt 26 = .ok (.iconst 2, 1) := by decide +kernel
theorem d_R_byteAt_27 : decode c_R_byteAt 27 = .ok (.goto 4, 3) := by decide +kernel
theorem d_R_byteAt_30 : decode c_R_byteAt 30 = .ok (.iconst 0, 1) := by decide +kernel
theorem d_R_byteAt_31 : decode c_R_byteAt 31 = .ok (.putfield 49, 3) := by decide +kernel
theorem d_R_byteAt_34 : decode c_R_byteAt 34 = .ok (.aload_n 0, 1) := by decide +kernel
theorem d_R_byteAt_35 : decode c_R_byteAt 35 = .ok (.getfield 49, 3) := by decide +kernel
theorem d_R_byteAt_38 : decode c_R_byteAt 38 = .ok (.ifCond .le 7, 3) := by decide +kernel
theorem d_R_byteAt_41 : decode c_R_byteAt 41 = .ok (.iconst 0, 1) := by decide +kernel
theorem d_R_byteAt_42 : decode c_R_byteAt 42 = .ok (.goto 17, 3) := by decide +kernel
theorem d_R_byteAt_45 : decode c_R_byteAt 45 = .ok (.aload_n 0, 1) := by decide +kernel
theorem d_R_byteAt_46 : decode c_R_byteAt 46 = .ok (.aload_n 0, 1) := by decide +kernel
theorem d_R_byteAt_47 : decode c_R_byteAt 47 = .ok (.getfield 7, 3) := by decide +kernel
theorem d_R_byteAt_50 : decode c_R_byteAt 50 = .ok (.iload_n 1, 1) := by decide +kernel
theorem d_R_byteAt_51 : decode c_R_byteAt 51 = .ok (.iaload, 1) := by decide +kernel
theorem d_R_byteAt_52 : decode c_R_byteAt 52 = .ok (.invokestatic 62, 3) := by decide +kernel
theorem d_R_byteAt_55 : decode c_R_byteAt 55 = .ok (.iload_n 2, 1) := by decide +kernel
theorem d_R_byteAt_56 : decode c_R_byteAt 56 = .ok (.invokevirtual 127, 3) := by decide +kernel
theorem d_R_byteAt_59 : decode c_R_byteAt 59 = .ok (.ireturn, 1) := by decide +kernel
theorem d_R_bytePut_0 : decode c_R_bytePut 0 = .ok (.aload_n 0, 1) := by decide +kernel
theorem d_R_bytePut_1 : decode c_R_bytePut 1 = .ok (.aload_n 0, 1) := by decide +kernel
theorem d_R_bytePut_2 : decode c_R_bytePut 2 = .ok (.iload_n 1, 1) := by decide +kernel
theorem d_R_bytePut_3 : decode c_R_bytePut 3 = .ok (.invokevirtual 117, 3) := by decide +kernel
theorem d_R_bytePut_6 : decode c_R_bytePut 6 = .ok (.ifCond .ne 7, 3) := by decide +kernel
theorem d_R_bytePut_9 : decode c_R_bytePut 9 = .ok (.iconst 1, 1) := by decide +kernel
theorem d_R_bytePut_10 : decode c_R_bytePut 10 = .ok (.goto 21, 3) := by decide +kernel
theorem d_R_bytePut_13 : decode c_R_bytePut 13 = .ok (.iload_n 2, 1) := by decide +kernel
theorem d_R_bytePut_14 : decode c_R_bytePut 14 = .ok (.ifCond .lt 12, 3) := by decide +kernel
theorem d_R_bytePut_17 : decode c_R_bytePut 17 = .ok (.iload_n 2, 1) := by decide +kernel
theorem d_R_bytePut_18 : decode c_R_bytePut 18 = .ok (.aload_n 0, 1) := by decide +kernel
theorem d_R_bytePut_19 : decode c_R_bytePut 19 = .ok (.iload_n 1, 1) := by decide +kernel
theorem d_R_bytePut_20 : decode c_R_bytePut 20 = .ok (.invokevirtual 114, 3) := by decide +kernel
theorem d_R_bytePut_23 : decode c_R_bytePut 23 = .ok (.if_icmp .lt 7, 3) := by decide +kernel
theorem d_R_bytePut_26 : decode c_R_bytePut 26 = .ok (.iconst 2, 1) := by decide +kernel
theorem d_R_bytePut_27 : decode c_R_bytePut 27 = .ok (.goto 4, 3) := by decide +kernel
theorem d_R_bytePut_30 : decode c_R_bytePut 30 = .ok (.iconst 0, 1) := by decide +kernel
theorem d_R_bytePut_31 : decode c_R_bytePut 31 = .ok (.putfield 49, 3) := by decide +kernel
theorem d_R_bytePut_34 : decode c_R_bytePut 34 = .ok (.iconst 0, 1) := by decide +kernel
theorem d_R_bytePut_35 : decode c_R_bytePut 35 = .ok (.istore 5, 2) := by decide +kernel
theorem d_R_bytePut_37 : decode c_R_bytePut 37 = .ok (.iload 5, 2) := by decide +kernel
theorem d_R_bytePut_39 : decode c_R_bytePut 39 = .ok (.bipush 8, 2) := by decide +kernel
theorem d_R_bytePut_41 : decode c_R_bytePut 41 = .ok (.if_icmp .ge 60, 3) := by decide +kernel
theorem d_R_bytePut_44 : decode c_R_bytePut 44 = .ok (.aload_n 0, 1) := by decide +kernel
theorem d_R_bytePut_45 : decode c_R_bytePut 45 = .ok (.getfield 49, 3) := by decide +kernel
theorem d_R_bytePut_48 : decode c_R_bytePut 48 = .ok (.ifCond .ne 53, 3) := by decide +kernel
theorem d_R_bytePut_51 : decode c_R_bytePut 51 = .ok (.iload_n 2, 1) := by decide +kernel
theorem d_R_bytePut_52 : decode c_R_bytePut 52 = .ok (.iload 5, 2) := by decide +kernel
theorem d_R_bytePut_54 : decode c_R_bytePut 54 = .ok (.iadd, 1) := by decide +kernel
theorem d_R_bytePut_55 : decode c_R_bytePut 55 = .ok (.aload_n 0, 1) := by decide +kernel
theorem d_R_bytePut_56 : decode c_R_bytePut 56 = .ok (.iload_n 1, 1) := by decide +kernel
theorem d_R_bytePut_57 : decode c_R_bytePut 57 = .ok (.invokevirtual 114, 3) := by decide +kernel
theorem d_R_bytePut_60 : decode c_R_bytePut 60 = .ok (.if_icmp .ge 41, 3) := by decide +kernel
theorem d_R_bytePut_63 : decode c_R_bytePut 63 = .ok (.aload_n 0, 1) := by decide +kernel
theorem d_R_bytePut_64 : decode c_R_bytePut 64 = .ok (.aload_n 0, 1) := by decide +kernel
theorem d_R_bytePut_65 : decode c_R_bytePut 65 = .ok (.getfield 7, 3) := by decide +kernel
theorem d_R_bytePut_68 : decode c_R_bytePut 68 = .ok (.iload_n 1, 1) := by decide +kernel
theorem d_R_bytePut_69 : decode c_R_bytePut 69 = .ok (.iaload, 1) := by decide +kernel
theorem d_R_bytePut_70 : decode c_R_bytePut 70 = .ok (.invokestatic 62, 3) := by decide +kernel
theorem d_R_bytePut_73 : decode c_R_bytePut 73 = .ok (.iload_n 2, 1) := by decide +kernel
theorem d_R_bytePut_74 : decode c_R_bytePut 74 = .ok (.iload 5, 2) := by decide +kernel
theorem d_R_bytePut_76 : decode c_R_bytePut 76 = .ok (.iadd, 1) := by decide +kernel
theorem d_R_bytePut_77 : decode c_R_bytePut 77 = .ok (.lload_n 3, 1) := by decide +kernel
theorem d_R_bytePut_78 : decode c_R_bytePut 78 = .ok (.bipush 56, 2) := by decide +kernel
theorem d_R_bytePut_80 : decode c_R_bytePut 80 = .ok (.bipush 8, 2) := by decide +kernel
theorem d_R_bytePut_82 : decode c_R_bytePut 82 = .ok (.iload 5, 2) := by decide +kernel
theorem d_R_bytePut_84 : decode c_R_bytePut 84 = .ok (.imul, 1) := by decide +kernel
theorem d_R_bytePut_85 : decode c_R_bytePut 85 = .ok (.isub, 1) := by decide +kernel
theorem d_R_bytePut_86 : decode c_R_bytePut 86 = .ok (.lushr, 1) := by decide +kernel
theorem d_R_bytePut_87 : decode c_R_bytePut 87 = .ok (.ldc2_w 130, 3) := by decide +kernel
theorem d_R_bytePut_90 : decode c_R_bytePut 90 = .ok (.land, 1) := by decide +kernel
theorem d_R_bytePut_91 : decode c_R_bytePut 91 = .ok (.l2i, 1) := by decide +kernel
theorem d_R_bytePut_92 : decode c_R_bytePut 92 = .ok (.invokevirtual 132, 3) := by decide +kernel
theorem d_R_bytePut_95 : decode c_R_bytePut 95 = .ok (.iinc 5 1, 3) := by decide +kernel
theorem d_R_bytePut_98 : decode c_R_bytePut 98 = .ok (.goto (-61), 3) := by decide +kernel
theorem d_R_bytePut_101 : decode c_R_bytePut 101 = .ok (.return_, 1) := by decide +kernel
theorem d_R_sum_0 : decode c_R_sum 0 = .ok (.aload_n 0, 1) := by decide +kernel
theorem d_R_sum_1 : decode c_R_sum 1 = .ok (.iload_n 1, 1) := by decide +kernel
theorem d_R_sum_2 : decode c_R_sum 2 = .ok (.invokestatic 52, 3) := by decide +kernel
theorem d_R_sum_5 : decode c_R_sum 5 = .ok (.ifCond .eq 7, 3) := by decide +kernel
theorem d_R_sum_8 : decode c_R_sum 8 = .ok (.iconst 0, 1) := by decide +kernel
theorem d_R_sum_9 : decode c_R_sum 9 = .ok (.goto 4, 3) := by decide +kernel
theorem d_R_sum_12 : decode c_R_sum 12 = .ok (.iconst 1, 1) := by decide +kernel
theorem d_R_sum_13 : decode c_R_sum 13 = .ok (.putfield 49, 3) := by decide +kernel
theorem d_R_sum_16 : decode c_R_sum 16 = .ok (.aload_n 0, 1) := by decide +kernel
theorem d_R_sum_17 : decode c_R_sum 17 = .ok (.getfield 49, 3) := by decide +kernel
theorem d_R_sum_20 : decode c_R_sum 20 = .ok (.ifCond .gt 11, 3) := by decide +kernel
theorem d_R_sum_23 : decode c_R_sum 23 = .ok (.aload_n 0, 1) := by decide +kernel
theorem d_R_sum_24 : decode c_R_sum 24 = .ok (.iload_n 1, 1) := by decide +kernel
theorem d_R_sum_25 : decode c_R_sum 25 = .ok (.invokevirtual 117, 3) := by decide +kernel
theorem d_R_sum_28 : decode c_R_sum 28 = .ok (.ifCond .ne 5, 3) := by decide +kernel
theorem d_R_sum_31 : decode c_R_sum 31 = .ok (.iconst 0, 1) := by decide +kernel
theorem d_R_sum_32 : decode c_R_sum 32 = .ok (.ireturn, 1) := by decide +kernel
theorem d_R_sum_33 : decode c_R_sum 33 = .ok (.bipush 7, 2) := by decide +kernel
theorem d_R_sum_35 : decode c_R_sum 35 = .ok (.istore_n 2, 1) := by decide +kernel
theorem d_R_sum_36 : decode c_R_sum 36 = .ok (.aload_n 0, 1) := by decide +kernel
theorem d_R_sum_37 : decode c_R_sum 37 = .ok (.iload_n 1, 1) := by decide +kernel
theorem d_R_sum_38 : decode c_R_sum 38 = .ok (.invokevirtual 114, 3) := by decide +kernel
theorem d_R_sum_41 : decode c_R_sum 41 = .ok (.istore_n 3, 1) := by decide +kernel
theorem d_R_sum_42 : decode c_R_sum 42 = .ok (.aload_n 0, 1) := by decide +kernel
theorem d_R_sum_43 : decode c_R_sum 43 = .ok (.getfield 34, 3) := by decide +kernel
theorem d_R_sum_46 : decode c_R_sum 46 = .ok (.aload_n 0, 1) := by decide +kernel
theorem d_R_sum_47 : decode c_R_sum 47 = .ok (.getfield 7, 3) := by decide +kernel
theorem d_R_sum_50 : decode c_R_sum 50 = .ok (.iload_n 1, 1) := by decide +kernel
theorem d_R_sum_51 : decode c_R_sum 51 = .ok (.iaload, 1) := by decide +kernel
theorem d_R_sum_52 : decode c_R_sum 52 = .ok (.invokestatic 62, 3) := by decide +kernel
theorem d_R_sum_55 : decode c_R_sum 55 = .ok (.iaload, 1) := by decide +kernel
theorem d_R_sum_56 : decode c_R_sum 56 = .ok (.istore 4, 2) := by decide +kernel
theorem d_R_sum_58 : decode c_R_sum 58 = .ok (.iload 4, 2) := by decide +kernel
theorem d_R_sum_60 : decode c_R_sum 60 = .ok (.ifCond .lt 64, 3) := by decide +kernel
theorem d_R_sum_63 : decode c_R_sum 63 = .ok (.iconst 0, 1) := by decide +kernel
theorem d_R_sum_64 : decode c_R_sum 64 = .ok (.istore 5, 2) := by decide +kernel
theorem d_R_sum_66 : decode c_R_sum 66 = .ok (.iload 5, 2) := by decide +kernel
theorem d_R_sum_68 : decode c_R_sum 68 = .ok (.iconst 4, 1) := by decide +kernel
theorem d_R_sum_69 : decode c_R_sum 69 = .ok (.if_icmp .ge 43, 3) := by decide +kernel
theorem d_R_sum_72 : decode c_R_sum 72 = .ok (.iload_n 3, 1) := by decide +kernel
theorem d_R_sum_73 : decode c_R_sum 73 = .ok (.ifCond .le 39, 3) := by decide +kernel
theorem d_R_sum_76 : decode c_R_sum 76 = .ok (.bipush 31, 2) := by decide +kernel
theorem d_R_sum_78 : decode c_R_sum 78 = .ok (.iload_n 2, 1) := by decide +kernel
theorem d_R_sum_79 : decode c_R_sum 79 = .ok (.imul, 1) := by decide +kernel
theorem d_R_sum_80 : decode c_R_sum 80 = .ok (.aload_n 0, 1) := by decide +kernel
theorem d_R_sum_81 : decode c_R_sum 81 = .ok (.getfield 43, 3) := by decide +kernel
theorem d_R_sum_84 : decode c_R_sum 84 = .ok (.iload 4, 2) := by decide +kernel
theorem d_R_sum_86 : decode c_R_sum 86 = .ok (.iaload, 1) := by decide +kernel
theorem d_R_sum_87 : decode c_R_sum 87 = .ok (.bipush 24, 2) := by decide +kernel
theorem d_R_sum_89 : decode c_R_sum 89 = .ok (.bipush 8, 2) := by decide +kernel
theorem d_R_sum_91 : decode c_R_sum 91 = .ok (.iload 5, 2) := by decide +kernel
theorem d_R_sum_93 : decode c_R_sum 93 = .ok (.imul, 1) := by decide +kernel
theorem d_R_sum_94 : decode c_R_sum 94 = .ok (.isub, 1) := by decide +kernel
theorem d_R_sum_95 : decode c_R_sum 95 = .ok (.iushr, 1) := by decide +kernel
theorem d_R_sum_96 : decode c_R_sum 96 = .ok (.sipush 255, 3) := by decide +kernel
theorem d_R_sum_99 : decode c_R_sum 99 = .ok (.iand, 1) := by decide +kernel
theorem d_R_sum_100 : decode c_R_sum 100 = .ok (.iadd, 1) := by decide +kernel
theorem d_R_sum_101 : decode c_R_sum 101 = .ok (.istore_n 2, 1) := by decide +kernel
theorem d_R_sum_102 : decode c_R_sum 102 = .ok (.iload_n 3, 1) := by decide +kernel
theorem d_R_sum_103 : decode c_R_sum 103 = .ok (.iconst 1, 1) := by decide +kernel
theorem d_R_sum_104 : decode c_R_sum 104 = .ok (.isub, 1) := by decide +kernel
theorem d_R_sum_105 : decode c_R_sum 105 = .ok (.istore_n 3, 1) := by decide +kernel
theorem d_R_sum_106 : decode c_R_sum 106 = .ok (.iinc 5 1, 3) := by decide +kernel
theorem d_R_sum_109 : decode c_R_sum 109 = .ok (.goto (-43), 3) := by decide +kernel
theorem d_R_sum_112 : decode c_R_sum 112 = .ok (.aload_n 0, 1) := by decide +kernel
theorem d_R_sum_113 : decode c_R_sum 113 = .ok (.getfield 46, 3) := by decide +kernel
theorem d_R_sum_116 : decode c_R_sum 116 = .ok (.iload 4, 2) := by decide +kernel
theorem d_R_sum_118 : decode c_R_sum 118 = .ok (.iaload, 1) := by decide +kernel
theorem d_R_sum_119 : decode c_R_sum 119 = .ok (.istore 4, 2) := by decide +kernel
theorem d_R_sum_121 : decode c_R_sum 121 = .ok (.goto (-63), 3) := by decide +kernel
theorem d_R_sum_124 : decode c_R_sum 124 = .ok (.iload_n 2, 1) := by decide +kernel
theorem d_R_sum_125 : decode c_R_sum 125 = .ok (.ireturn, 1) := by decide +kernel
theorem d_R_kind_0 : decode c_R_kind 0 = .ok (.aload_n 0, 1) := by decide +kernel
theorem d_R_kind_1 : decode c_R_kind 1 = .ok (.iload_n 1, 1) := by decide +kernel
theorem d_R_kind_2 : decode c_R_kind 2 = .ok (.invokestatic 52, 3) := by decide +kernel
theorem d_R_kind_5 : decode c_R_kind 5 = .ok (.ifCond .eq 7, 3) := by decide +kernel
theorem d_R_kind_8 : decode c_R_kind 8 = .ok (.iconst 0, 1) := by decide +kernel
theorem d_R_kind_9 : decode c_R_kind 9 = .ok (.goto 4, 3) := by decide +kernel
theorem d_R_kind_12 : decode c_R_kind 12 = .ok (.iconst 1, 1) := by decide +kernel
theorem d_R_kind_13 : decode c_R_kind 13 = .ok (.putfield 49, 3) := by decide +kernel
theorem d_R_kind_16 : decode c_R_kind 16 = .ok (.aload_n 0, 1) := by decide +kernel
theorem d_R_kind_17 : decode c_R_kind 17 = .ok (.getfield 49, 3) := by decide +kernel
theorem d_R_kind_20 : decode c_R_kind 20 = .ok (.ifCond .gt 12, 3) := by decide +kernel
theorem d_R_kind_23 : decode c_R_kind 23 = .ok (.aload_n 0, 1) := by decide +kernel
theorem d_R_kind_24 : decode c_R_kind 24 = .ok (.getfield 7, 3) := by decide +kernel
theorem d_R_kind_27 : decode c_R_kind 27 = .ok (.iload_n 1, 1) := by decide +kernel
theorem d_R_kind_28 : decode c_R_kind 28 = .ok (.iaload, 1) := by decide +kernel
theorem d_R_kind_29 : decode c_R_kind 29 = .ok (.ifCond .ne 7, 3) := by decide +kernel
theorem d_R_kind_32 : decode c_R_kind 32 = .ok (.iconst 0, 1) := by decide +kernel
theorem d_R_kind_33 : decode c_R_kind 33 = .ok (.goto 32, 3) := by decide +kernel
theorem d_R_kind_36 : decode c_R_kind 36 = .ok (.aload_n 0, 1) := by decide +kernel
theorem d_R_kind_37 : decode c_R_kind 37 = .ok (.getfield 7, 3) := by decide +kernel
theorem d_R_kind_40 : decode c_R_kind 40 = .ok (.iload_n 1, 1) := by decide +kernel
theorem d_R_kind_41 : decode c_R_kind 41 = .ok (.iaload, 1) := by decide +kernel
theorem d_R_kind_42 : decode c_R_kind 42 = .ok (.invokestatic 56, 3) := by decide +kernel
theorem d_R_kind_45 : decode c_R_kind 45 = .ok (.ifCond .ne 7, 3) := by decide +kernel
theorem d_R_kind_48 : decode c_R_kind 48 = .ok (.iconst 1, 1) := by decide +kernel
theorem d_R_kind_49 : decode c_R_kind 49 = .ok (.goto 16, 3) := by decide +kernel
theorem d_R_kind_52 : decode c_R_kind 52 = .ok (.aload_n 0, 1) := by decide +kernel
theorem d_R_kind_53 : decode c_R_kind 53 = .ok (.iload_n 1, 1) := by decide +kernel
theorem d_R_kind_54 : decode c_R_kind 54 = .ok (.invokevirtual 117, 3) := by decide +kernel
theorem d_R_kind_57 : decode c_R_kind 57 = .ok (.ifCond .eq 7, 3) := by decide +kernel
theorem d_R_kind_60 : decode c_R_kind 60 = .ok (.iconst 3, 1) := by decide +kernel
theorem d_R_kind_61 : decode c_R_kind 61 = .ok (.goto 4, 3) := by decide +kernel
theorem d_R_kind_64 : decode c_R_kind 64 = .ok (.iconst 2, 1) := by decide +kernel
theorem d_R_kind_65 : decode c_R_kind 65 = .ok (.ireturn, 1) := by decide +kernel
theorem d_R_value_0 : decode c_R_value 0 = .ok (.aload_n 0, 1) := by decide +kernel
theorem d_R_value_1 : decode c_R_value 1 = .ok (.iload_n 1, 1) := by decide +kernel
theorem d_R_value_2 : decode c_R_value 2 = .ok (.invokestatic 52, 3) := by decide +kernel
theorem d_R_value_5 : decode c_R_value 5 = .ok (.ifCond .eq 7, 3) := by decide +kernel
theorem d_R_value_8 : decode c_R_value 8 = .ok (.iconst 0, 1) := by decide +kernel
theorem d_R_value_9 : decode c_R_value 9 = .ok (.goto 4, 3) := by decide +kernel
theorem d_R_value_12 : decode c_R_value 12 = .ok (.iconst 1, 1) := by decide +kernel
theorem d_R_value_13 : decode c_R_value 13 = .ok (.putfield 49, 3) := by decide +kernel
theorem d_R_value_16 : decode c_R_value 16 = .ok (.aload_n 0, 1) := by decide +kernel
theorem d_R_value_17 : decode c_R_value 17 = .ok (.getfield 49, 3) := by decide +kernel
theorem d_R_value_20 : decode c_R_value 20 = .ok (.ifCond .gt 12, 3) := by decide +kernel
theorem d_R_value_23 : decode c_R_value 23 = .ok (.aload_n 0, 1) := by decide +kernel
theorem d_R_value_24 : decode c_R_value 24 = .ok (.getfield 7, 3) := by decide +kernel
theorem d_R_value_27 : decode c_R_value 27 = .ok (.iload_n 1, 1) := by decide +kernel
theorem d_R_value_28 : decode c_R_value 28 = .ok (.iaload, 1) := by decide +kernel
theorem d_R_value_29 : decode c_R_value 29 = .ok (.ifCond .ne 5, 3) := by decide +kernel
theorem d_R_value_32 : decode c_R_value 32 = .ok (.iconst 0, 1) := by decide +kernel
theorem d_R_value_33 : decode c_R_value 33 = .ok (.ireturn, 1) := by decide +kernel
theorem d_R_value_34 : decode c_R_value 34 = .ok (.aload_n 0, 1) := by decide +kernel
theorem d_R_value_35 : decode c_R_value 35 = .ok (.getfield 7, 3) := by decide +kernel
theorem d_R_value_38 : decode c_R_value 38 = .ok (.iload_n 1, 1) := by decide +kernel
theorem d_R_value_39 : decode c_R_value 39 = .ok (.iaload, 1) := by decide +kernel
theorem d_R_value_40 : decode c_R_value 40 = .ok (.invokestatic 56, 3) := by decide +kernel
theorem d_R_value_43 : decode c_R_value 43 = .ok (.ifCond .eq 20, 3) := by decide +kernel
theorem d_R_value_46 : decode c_R_value 46 = .ok (.aload_n 0, 1) := by decide +kernel
theorem d_R_value_47 : decode c_R_value 47 = .ok (.getfield 21, 3) := by decide +kernel
theorem d_R_value_50 : decode c_R_value 50 = .ok (.aload_n 0, 1) := by decide +kernel
theorem d_R_value_51 : decode c_R_value 51 = .ok (.getfield 7, 3) := by decide +kernel
theorem d_R_value_54 : decode c_R_value 54 = .ok (.iload_n 1, 1) := by decide +kernel
theorem d_R_value_55 : decode c_R_value 55 = .ok (.iaload, 1) := by decide +kernel
theorem d_R_value_56 : decode c_R_value 56 = .ok (.invokestatic 62, 3) := by decide +kernel
theorem d_R_value_59 : decode c_R_value 59 = .ok (.iaload, 1) := by decide +kernel
theorem d_R_value_60 : decode c_R_value 60 = .ok (.goto 11, 3) := by decide +kernel
theorem d_R_value_63 : decode c_R_value 63 = .ok (.aload_n 0, 1) := by decide +kernel
theorem d_R_value_64 : decode c_R_value 64 = .ok (.getfield 7, 3) := by decide +kernel
theorem d_R_value_67 : decode c_R_value 67 = .ok (.iload_n 1, 1) := by decide +kernel
theorem d_R_value_68 : decode c_R_value 68 = .ok (.iaload, 1) := by decide +kernel
theorem d_R_value_69 : decode c_R_value 69 = .ok (.iconst 1, 1) := by decide +kernel
theorem d_R_value_70 : decode c_R_value 70 = .ok (.ishr, 1) := by decide +kernel
theorem d_R_value_71 : decode c_R_value 71 = .ok (.ireturn, 1) := by decide +kernel
theorem d_R_size_0 : decode c_R_size 0 = .ok (.aload_n 0, 1) := by decide +kernel
theorem d_R_size_1 : decode c_R_size 1 = .ok (.iload_n 1, 1) := by decide +kernel
theorem d_R_size_2 : decode c_R_size 2 = .ok (.invokestatic 52, 3) := by decide +kernel
theorem d_R_size_5 : decode c_R_size 5 = .ok (.ifCond .eq 7, 3) := by decide +kernel
theorem d_R_size_8 : decode c_R_size 8 = .ok (.iconst 0, 1) := by decide +kernel
theorem d_R_size_9 : decode c_R_size 9 = .ok (.goto 4, 3) := by decide +kernel
theorem d_R_size_12 : decode c_R_size 12 = .ok (.iconst 1, 1) := by decide +kernel
theorem d_R_size_13 : decode c_R_size 13 = .ok (.putfield 49, 3) := by decide +kernel
theorem d_R_size_16 : decode c_R_size 16 = .ok (.aload_n 0, 1) := by decide +kernel
theorem d_R_size_17 : decode c_R_size 17 = .ok (.iload_n 1, 1) := by decide +kernel
theorem d_R_size_18 : decode c_R_size 18 = .ok (.invokevirtual 59, 3) := by decide +kernel
theorem d_R_size_21 : decode c_R_size 21 = .ok (.ifCond .eq 11, 3) := by decide +kernel
theorem d_R_size_24 : decode c_R_size 24 = .ok (.aload_n 0, 1) := by decide +kernel
theorem d_R_size_25 : decode c_R_size 25 = .ok (.iload_n 1, 1) := by decide +kernel
theorem d_R_size_26 : decode c_R_size 26 = .ok (.invokevirtual 114, 3) := by decide +kernel
theorem d_R_size_29 : decode c_R_size 29 = .ok (.goto 4, 3) := by decide +kernel
theorem d_R_size_32 : decode c_R_size 32 = .ok (.iconst 0, 1) := by decide +kernel
theorem d_R_size_33 : decode c_R_size 33 = .ok (.ireturn, 1) := by decide +kernel
theorem d_R_become_0 : decode c_R_become 0 = .ok (.aload_n 0, 1) := by decide +kernel
theorem d_R_become_1 : decode c_R_become 1 = .ok (.aload_n 0, 1) := by decide +kernel
theorem d_R_become_2 : decode c_R_become 2 = .ok (.iload_n 1, 1) := by decide +kernel
theorem d_R_become_3 : decode c_R_become 3 = .ok (.invokevirtual 59, 3) := by decide +kernel
theorem d_R_become_6 : decode c_R_become 6 = .ok (.ifCond .eq 15, 3) := by decide +kernel
theorem d_R_become_9 : decode c_R_become 9 = .ok (.aload_n 0, 1) := by decide +kernel
theorem d_R_become_10 : decode c_R_become 10 = .ok (.iload_n 2, 1) := by decide +kernel
theorem d_R_become_11 : decode c_R_become 11 = .ok (.invokevirtual 59, 3) := by decide +kernel
theorem d_R_become_14 : decode c_R_become 14 = .ok (.ifCond .eq 7, 3) := by decide +kernel
theorem d_R_become_17 : decode c_R_become 17 = .ok (.iconst 0, 1) := by decide +kernel
theorem d_R_become_18 : decode c_R_become 18 = .ok (.goto 4, 3) := by decide +kernel
theorem d_R_become_21 : decode c_R_become 21 = .ok (.iconst 1, 1) := by decide +kernel
theorem d_R_become_22 : decode c_R_become 22 = .ok (.putfield 49, 3) := by decide +kernel
theorem d_R_become_25 : decode c_R_become 25 = .ok (.aload_n 0, 1) := by decide +kernel
theorem d_R_become_26 : decode c_R_become 26 = .ok (.getfield 49, 3) := by decide +kernel
theorem d_R_become_29 : decode c_R_become 29 = .ok (.ifCond .le 4, 3) := by decide +kernel
theorem d_R_become_32 : decode c_R_become 32 = .ok (.return_, 1) := by decide +kernel
theorem d_R_become_33 : decode c_R_become 33 = .ok (.aload_n 0, 1) := by decide +kernel
theorem d_R_become_34 : decode c_R_become 34 = .ok (.getfield 7, 3) := by decide +kernel
theorem d_R_become_37 : decode c_R_become 37 = .ok (.iload_n 1, 1) := by decide +kernel
theorem d_R_become_38 : decode c_R_become 38 = .ok (.iaload, 1) := by decide +kernel
theorem d_R_become_39 : decode c_R_become 39 = .ok (.invokestatic 62, 3) := by decide +kernel
theorem d_R_become_42 : decode c_R_become 42 = .ok (.istore_n 3, 1) := by decide +kernel
theorem d_R_become_43 : decode c_R_become 43 = .ok (.aload_n 0, 1) := by decide +kernel
theorem d_R_become_44 : decode c_R_become 44 = .ok (.getfield 7, 3) := by decide +kernel
theorem d_R_become_47 : decode c_R_become 47 = .ok (.iload_n 2, 1) := by decide +kernel
theorem d_R_become_48 : decode c_R_become 48 = .ok (.iaload, 1) := by decide +kernel
theorem d_R_become_49 : decode c_R_become 49 = .ok (.invokestatic 62, 3) := by decide +kernel
theorem d_R_become_52 : decode c_R_become 52 = .ok (.istore 4, 2) := by decide +kernel
theorem d_R_become_54 : decode c_R_become 54 = .ok (.aload_n 0, 1) := by decide +kernel
theorem d_R_become_55 : decode c_R_become 55 = .ok (.getfield 21, 3) := by decide +kernel
theorem d_R_become_58 : decode c_R_become 58 = .ok (.iload_n 3, 1) := by decide +kernel
theorem d_R_become_59 : decode c_R_become 59 = .ok (.iaload, 1) := by decide +kernel
theorem d_R_become_60 : decode c_R_become 60 = .ok (.istore 5, 2) := by decide +kernel
theorem d_R_become_62 : decode c_R_become 62 = .ok (.aload_n 0, 1) := by decide +kernel
theorem d_R_become_63 : decode c_R_become 63 = .ok (.getfield 24, 3) := by decide +kernel
theorem d_R_become_66 : decode c_R_become 66 = .ok (.iload_n 3, 1) := by decide +kernel
theorem d_R_become_67 : decode c_R_become 67 = .ok (.iaload, 1) := by decide +kernel
theorem d_R_become_68 : decode c_R_become 68 = .ok (.istore 6, 2) := by decide +kernel
theorem d_R_become_70 : decode c_R_become 70 = .ok (.aload_n 0, 1) := by decide +kernel
theorem d_R_become_71 : decode c_R_become 71 = .ok (.getfield 27, 3) := by decide +kernel
theorem d_R_become_74 : decode c_R_become 74 = .ok (.iload_n 3, 1) := by decide +kernel
theorem d_R_become_75 : decode c_R_become 75 = .ok (.baload, 1) := by decide +kernel
theorem d_R_become_76 : decode c_R_become 76 = .ok (.istore 7, 2) := by decide +kernel
theorem d_R_become_78 : decode c_R_become 78 = .ok (.aload_n 0, 1) := by decide +kernel
theorem d_R_become_79 : decode c_R_become 79 = .ok (.getfield 31, 3) := by decide +kernel
theorem d_R_become_82 : decode c_R_become 82 = .ok (.iload_n 3, 1) := by decide +kernel
theorem d_R_become_83 : decode c_R_become 83 = .ok (.iaload, 1) := by decide +kernel
theorem d_R_become_84 : decode c_R_become 84 = .ok (.istore 8, 2) := by decide +kernel
theorem d_R_become_86 : decode c_R_become 86 = .ok (.aload_n 0, 1) := by decide +kernel
theorem d_R_become_87 : decode c_R_become 87 = .ok (.getfield 34, 3) := by decide +kernel
theorem d_R_become_90 : decode c_R_become 90 = .ok (.iload_n 3, 1) := by decide +kernel
theorem d_R_become_91 : decode c_R_become 91 = .ok (.iaload, 1) := by decide +kernel
theorem d_R_become_92 : decode c_R_become 92 = .ok (.istore 9, 2) := by decide +kernel
theorem d_R_become_94 : decode c_R_become 94 = .ok (.aload_n 0, 1) := by decide +kernel
theorem d_R_become_95 : decode c_R_become 95 = .ok (.getfield 21, 3) := by decide +kernel
theorem d_R_become_98 : decode c_R_become 98 = .ok (.iload_n 3, 1) := by decide +kernel
theorem d_R_become_99 : decode c_R_become 99 = .ok (.aload_n 0, 1) := by decide +kernel
theorem d_R_become_100 : decode c_R_become 100 = .ok (.getfield 21, 3) := by decide +kernel
theorem d_R_become_103 : decode c_R_become 103 = .ok (.iload 4, 2) := by decide +kernel
theorem d_R_become_105 : decode c_R_become 105 = .ok (.iaload, 1) := by decide +kernel
theorem d_R_become_106 : decode c_R_become 106 = .ok (.iastore, 1) := by decide +kernel
theorem d_R_become_107 : decode c_R_become 107 = .ok (.aload_n 0, 1) := by decide +kernel
theorem d_R_become_108 : decode c_R_become 108 = .ok (.getfield 24, 3) := by decide +kernel
theorem d_R_become_111 : decode c_R_become 111 = .ok (.iload_n 3, 1) := by decide +kernel
theorem d_R_become_112 : decode c_R_become 112 = .ok (.aload_n 0, 1) := by decide +kernel
theorem d_R_become_113 : decode c_R_become 113 = .ok (.getfield 24, 3) := by decide +kernel
theorem d_R_become_116 : decode c_R_become 116 = .ok (.iload 4, 2) := by decide +kernel
theorem d_R_become_118 : decode c_R_become 118 = .ok (.iaload, 1) := by decide +kernel
theorem d_R_become_119 : decode c_R_become 119 = .ok (.iastore, 1) := by decide +kernel
theorem d_R_become_120 : decode c_R_become 120 = .ok (.aload_n 0, 1) := by decide +kernel
theorem d_R_become_121 : decode c_R_become 121 = .ok (.getfield 27, 3) := by decide +kernel
theorem d_R_become_124 : decode c_R_become 124 = .ok (.iload_n 3, 1) := by decide +kernel
theorem d_R_become_125 : decode c_R_become 125 = .ok (.aload_n 0, 1) := by decide +kernel
theorem d_R_become_126 : decode c_R_become 126 = .ok (.getfield 27, 3) := by decide +kernel
theorem d_R_become_129 : decode c_R_become 129 = .ok (.iload 4, 2) := by decide +kernel
theorem d_R_become_131 : decode c_R_become 131 = .ok (.baload, 1) := by decide +kernel
theorem d_R_become_132 : decode c_R_become 132 = .ok (.bastore, 1) := by decide +kernel
theorem d_R_become_133 : decode c_R_become 133 = .ok (.aload_n 0, 1) := by decide +kernel
theorem d_R_become_134 : decode c_R_become 134 = .ok (.getfield 31, 3) := by decide +kernel
theorem d_R_become_137 : decode c_R_become 137 = .ok (.iload_n 3, 1) := by decide +kernel
theorem d_R_become_138 : decode c_R_become 138 = .ok (.aload_n 0, 1) := by decide +kernel
theorem d_R_become_139 : decode c_R_become 139 = .ok (.getfield 31, 3) := by decide +kernel
theorem d_R_become_142 : decode c_R_become 142 = .ok (.iload 4, 2) := by decide +kernel
theorem d_R_become_144 : decode c_R_become 144 = .ok (.iaload, 1) := by decide +kernel
theorem d_R_become_145 : decode c_R_become 145 = .ok (.iastore, 1) := by decide +kernel
theorem d_R_become_146 : decode c_R_become 146 = .ok (.aload_n 0, 1) := by decide +kernel
theorem d_R_become_147 : decode c_R_become 147 = .ok (.getfield 34, 3) := by decide +kernel
theorem d_R_become_150 : decode c_R_become 150 = .ok (.iload_n 3, 1) := by decide +kernel
theorem d_R_become_151 : decode c_R_become 151 = .ok (.aload_n 0, 1) := by decide +kernel
theorem d_R_become_152 : decode c_R_become 152 = .ok (.getfield 34, 3) := by decide +kernel
theorem d_R_become_155 : decode c_R_become 155 = .ok (.iload 4, 2) := by decide +kernel
theorem d_R_become_157 : decode c_R_become 157 = .ok (.iaload, 1) := by decide +kernel
theorem d_R_become_158 : decode c_R_become 158 = .ok (.iastore, 1) := by decide +kernel
theorem d_R_become_159 : decode c_R_become 159 = .ok (.aload_n 0, 1) := by decide +kernel
theorem d_R_become_160 : decode c_R_become 160 = .ok (.getfield 21, 3) := by decide +kernel
theorem d_R_become_163 : decode c_R_become 163 = .ok (.iload 4, 2) := by decide +kernel
theorem d_R_become_165 : decode c_R_become 165 = .ok (.iload 5, 2) := by decide +kernel
theorem d_R_become_167 : decode c_R_become 167 = .ok (.iastore, 1) := by decide +kernel
theorem d_R_become_168 : decode c_R_become 168 = .ok (.aload_n 0, 1) := by decide +kernel
theorem d_R_become_169 : decode c_R_become 169 = .ok (.getfield 24, 3) := by decide +kernel
theorem d_R_become_172 : decode c_R_become 172 = .ok (.iload 4, 2) := by decide +kernel
theorem d_R_become_174 : decode c_R_become 174 = .ok (.iload 6, 2) := by decide +kernel
theorem d_R_become_176 : decode c_R_become 176 = .ok (.iastore, 1) := by decide +kernel
theorem d_R_become_177 : decode c_R_become 177 = .ok (.aload_n 0, 1) := by decide +kernel
theorem d_R_become_178 : decode c_R_become 178 = .ok (.getfield 27, 3) := by decide +kernel
theorem d_R_become_181 : decode c_R_become 181 = .ok (.iload 4, 2) := by decide +kernel
theorem d_R_become_183 : decode c_R_become 183 = .ok (.iload 7, 2) := by decide +kernel
theorem d_R_become_185 : decode c_R_become 185 = .ok (.bastore, 1) := by decide +kernel
theorem d_R_become_186 : decode c_R_become 186 = .ok (.aload_n 0, 1) := by decide +kernel
theorem d_R_become_187 : decode c_R_become 187 = .ok (.getfield 31, 3) := by decide +kernel
theorem d_R_become_190 : decode c_R_become 190 = .ok (.iload 4, 2) := by decide +kernel
theorem d_R_become_192 : decode c_R_become 192 = .ok (.iload 8, 2) := by decide +kernel
theorem d_R_become_194 : decode c_R_become 194 = .ok (.iastore, 1) := by decide +kernel
theorem d_R_become_195 : decode c_R_become 195 = .ok (.aload_n 0, 1) := by decide +kernel
theorem d_R_become_196 : decode c_R_become 196 = .ok (.getfield 34, 3) := by decide +kernel
theorem d_R_become_199 : decode c_R_become 199 = .ok (.iload 4, 2) := by decide +kernel
theorem d_R_become_201 : decode c_R_become 201 = .ok (.iload 9, 2) := by decide +kernel
theorem d_R_become_203 : decode c_R_become 203 = .ok (.iastore, 1) := by decide +kernel
theorem d_R_become_204 : decode c_R_become 204 = .ok (.return_, 1) := by decide +kernel
theorem d_R_words_0 : decode c_R_words 0 = .ok (.aload_n 0, 1) := by decide +kernel
theorem d_R_words_1 : decode c_R_words 1 = .ok (.iconst 0, 1) := by decide +kernel
theorem d_R_words_2 : decode c_R_words 2 = .ok (.putfield 49, 3) := by decide +kernel
theorem d_R_words_5 : decode c_R_words 5 = .ok (.aload_n 0, 1) := by decide +kernel
theorem d_R_words_6 : decode c_R_words 6 = .ok (.invokevirtual 95, 3) := by decide +kernel
theorem d_R_words_9 : decode c_R_words 9 = .ok (.aload_n 0, 1) := by decide +kernel
theorem d_R_words_10 : decode c_R_words 10 = .ok (.getfield 14, 3) := by decide +kernel
theorem d_R_words_13 : decode c_R_words 13 = .ok (.aload_n 0, 1) := by decide +kernel
theorem d_R_words_14 : decode c_R_words 14 = .ok (.getfield 73, 3) := by decide +kernel
theorem d_R_words_17 : decode c_R_words 17 = .ok (.isub, 1) := by decide +kernel
theorem d_R_words_18 : decode c_R_words 18 = .ok (.ireturn, 1) := by decide +kernel
theorem d_R_entries_0 : decode c_R_entries 0 = .ok (.aload_n 0, 1) := by decide +kernel
theorem d_R_entries_1 : decode c_R_entries 1 = .ok (.iconst 0, 1) := by decide +kernel
theorem d_R_entries_2 : decode c_R_entries 2 = .ok (.putfield 49, 3) := by decide +kernel
theorem d_R_entries_5 : decode c_R_entries 5 = .ok (.aload_n 0, 1) := by decide +kernel
theorem d_R_entries_6 : decode c_R_entries 6 = .ok (.invokevirtual 95, 3) := by decide +kernel
theorem d_R_entries_9 : decode c_R_entries 9 = .ok (.aload_n 0, 1) := by decide +kernel
theorem d_R_entries_10 : decode c_R_entries 10 = .ok (.getfield 18, 3) := by decide +kernel
theorem d_R_entries_13 : decode c_R_entries 13 = .ok (.aload_n 0, 1) := by decide +kernel
theorem d_R_entries_14 : decode c_R_entries 14 = .ok (.getfield 66, 3) := by decide +kernel
theorem d_R_entries_17 : decode c_R_entries 17 = .ok (.isub, 1) := by decide +kernel
theorem d_R_entries_18 : decode c_R_entries 18 = .ok (.ireturn, 1) := by decide +kernel
theorem d_R_nextOf_0 : decode c_R_nextOf 0 = .ok (.iconst (-1), 1) := by decide +kernel
theorem d_R_nextOf_1 : decode c_R_nextOf 1 = .ok (.istore_n 3, 1) := by decide +kernel
theorem d_R_nextOf_2 : decode c_R_nextOf 2 = .ok (.iconst 0, 1) := by decide +kernel
theorem d_R_nextOf_3 : decode c_R_nextOf 3 = .ok (.istore 4, 2) := by decide +kernel
theorem d_R_nextOf_5 : decode c_R_nextOf 5 = .ok (.iload 4, 2) := by decide +kernel
theorem d_R_nextOf_7 : decode c_R_nextOf 7 = .ok (.aload_n 0, 1) := by decide +kernel
theorem d_R_nextOf_8 : decode c_R_nextOf 8 = .ok (.getfield 66, 3) := by decide +kernel
theorem d_R_nextOf_11 : decode c_R_nextOf 11 = .ok (.if_icmp .ge 79, 3) := by decide +kernel
theorem d_R_nextOf_14 : decode c_R_nextOf 14 = .ok (.aload_n 0, 1) := by decide +kernel
theorem d_R_nextOf_15 : decode c_R_nextOf 15 = .ok (.getfield 40, 3) := by decide +kernel
theorem d_R_nextOf_18 : decode c_R_nextOf 18 = .ok (.iload 4, 2) := by decide +kernel
theorem d_R_nextOf_20 : decode c_R_nextOf 20 = .ok (.iaload, 1) := by decide +kernel
theorem d_R_nextOf_21 : decode c_R_nextOf 21 = .ok (.istore 5, 2) := by decide +kernel
theorem d_R_nextOf_23 : decode c_R_nextOf 23 = .ok (.aload_n 0, 1) := by decide +kernel
theorem d_R_nextOf_24 : decode c_R_nextOf 24 = .ok (.getfield 24, 3) := by decide +kernel
theorem d_R_nextOf_27 : decode c_R_nextOf 27 = .ok (.iload 5, 2) := by decide +kernel
theorem d_R_nextOf_29 : decode c_R_nextOf 29 = .ok (.iaload, 1) := by decide +kernel
theorem d_R_nextOf_30 : decode c_R_nextOf 30 = .ok (.iload_n 1, 1) := by decide +kernel
theorem d_R_nextOf_31 : decode c_R_nextOf 31 = .ok (.if_icmp .ne 18, 3) := by decide +kernel
theorem d_R_nextOf_34 : decode c_R_nextOf 34 = .ok (.aload_n 0, 1) := by decide +kernel
theorem d_R_nextOf_35 : decode c_R_nextOf 35 = .ok (.getfield 21, 3) := by decide +kernel
theorem d_R_nextOf_38 : decode c_R_nextOf 38 = .ok (.iload 5, 2) := by decide +kernel
theorem d_R_nextOf_40 : decode c_R_nextOf 40 = .ok (.iaload, 1) := by decide +kernel
theorem d_R_nextOf_41 : decode c_R_nextOf 41 = .ok (.iload_n 2, 1) := by decide +kernel
theorem d_R_nextOf_42 : decode c_R_nextOf 42 = .ok (.if_icmp .le 7, 3) := by decide +kernel
theorem d_R_nextOf_45 : decode c_R_nextOf 45 = .ok (.iconst 1, 1) := by decide +kernel
theorem d_R_nextOf_46 : decode c_R_nextOf 46 = .ok (.goto 4, 3) := by decide +kernel
theorem d_R_nextOf_49 : decode c_R_nextOf 49 = .ok (.iconst 0, 1) := by decide +kernel
theorem d_R_nextOf_50 : decode c_R_nextOf 50 = .ok (.istore 6, 2) := by decide +kernel
theorem d_R_nextOf_52 : decode c_R_nextOf 52 = .ok (.iload 6, 2) := by decide +kernel
theorem d_R_nextOf_54 : decode c_R_nextOf 54 = .ok (.ifCond .eq 28, 3) := by decide +kernel
theorem d_R_nextOf_57 : decode c_R_nextOf 57 = .ok (.iload_n 3, 1) := by decide +kernel
theorem d_R_nextOf_58 : decode c_R_nextOf 58 = .ok (.ifCond .lt 19, 3) := by decide +kernel
theorem d_R_nextOf_61 : decode c_R_nextOf 61 = .ok (.aload_n 0, 1) := by decide +kernel
theorem d_R_nextOf_62 : decode c_R_nextOf 62 = .ok (.getfield 21, 3) := by decide +kernel
theorem d_R_nextOf_65 : decode c_R_nextOf 65 = .ok (.iload 5, 2) := by decide +kernel
theorem d_R_nextOf_67 : decode c_R_nextOf 67 = .ok (.iaload, 1) := by decide +kernel
theorem d_R_nextOf_68 : decode c_R_nextOf 68 = .ok (.aload_n 0, 1) := by decide +kernel
theorem d_R_nextOf_69 : decode c_R_nextOf 69 = .ok (.getfield 21, 3) := by decide +kernel
theorem d_R_nextOf_72 : decode c_R_nextOf 72 = .ok (.iload_n 3, 1) := by decide +kernel
theorem d_R_nextOf_73 : decode c_R_nextOf 73 = .ok (.iaload, 1) := by decide +kernel
theorem d_R_nextOf_74 : decode c_R_nextOf 74 = .ok (.if_icmp .ge 8, 3) := by decide +kernel
theorem d_R_nextOf_77 : decode c_R_nextOf 77 = .ok (.iload 5, 2) := by decide +kernel
theorem d_R_nextOf_79 : decode c_R_nextOf 79 = .ok (.goto 4, 3) := by decide +kernel
theorem d_R_nextOf_82 : decode c_R_nextOf 82 = .ok (.iload_n 3, 1) := by decide +kernel
theorem d_R_nextOf_83 : decode c_R_nextOf 83 = .ok (.istore_n 3, 1) := by decide +kernel
theorem d_R_nextOf_84 : decode c_R_nextOf 84 = .ok (.iinc 4 1, 3) := by decide +kernel
theorem d_R_nextOf_87 : decode c_R_nextOf 87 = .ok (.goto (-82), 3) := by decide +kernel
theorem d_R_nextOf_90 : decode c_R_nextOf 90 = .ok (.iload_n 3, 1) := by decide +kernel
theorem d_R_nextOf_91 : decode c_R_nextOf 91 = .ok (.ireturn, 1) := by decide +kernel
theorem d_R_instance_0 : decode c_R_instance 0 = .ok (.aload_n 0, 1) := by decide +kernel
theorem d_R_instance_1 : decode c_R_instance 1 = .ok (.iload_n 1, 1) := by decide +kernel
theorem d_R_instance_2 : decode c_R_instance 2 = .ok (.invokestatic 52, 3) := by decide +kernel
theorem d_R_instance_5 : decode c_R_instance 5 = .ok (.ifCond .eq 18, 3) := by decide +kernel
theorem d_R_instance_8 : decode c_R_instance 8 = .ok (.iload_n 2, 1) := by decide +kernel
theorem d_R_instance_9 : decode c_R_instance 9 = .ok (.invokestatic 52, 3) := by decide +kernel
theorem d_R_instance_12 : decode c_R_instance 12 = .ok (.ifCond .eq 11, 3) := by decide +kernel
theorem d_R_instance_15 : decode c_R_instance 15 = .ok (.iload_n 3, 1) := by decide +kernel
theorem d_R_instance_16 : decode c_R_instance 16 = .ok (.ifCond .lt 7, 3) := by decide +kernel
theorem d_R_instance_19 : decode c_R_instance 19 = .ok (.iconst 0, 1) := by decide +kernel
theorem d_R_instance_20 : decode c_R_instance 20 = .ok (.goto 4, 3) := by decide +kernel
theorem d_R_instance_23 : decode c_R_instance 23 = .ok (.iconst 1, 1) := by decide +kernel
theorem d_R_instance_24 : decode c_R_instance 24 = .ok (.putfield 49, 3) := by decide +kernel
theorem d_R_instance_27 : decode c_R_instance 27 = .ok (.aload_n 0, 1) := by decide +kernel
theorem d_R_instance_28 : decode c_R_instance 28 = .ok (.getfield 49, 3) := by decide +kernel
theorem d_R_instance_31 : decode c_R_instance 31 = .ok (.ifCond .le 5, 3) := by decide +kernel
theorem d_R_instance_34 : decode c_R_instance 34 = .ok (.iconst 0, 1) := by decide +kernel
theorem d_R_instance_35 : decode c_R_instance 35 = .ok (.ireturn, 1) := by decide +kernel
theorem d_R_instance_36 : decode c_R_instance 36 = .ok (.aload_n 0, 1) := by decide +kernel
theorem d_R_instance_37 : decode c_R_instance 37 = .ok (.invokevirtual 95, 3) := by decide +kernel
theorem d_R_instance_40 : decode c_R_instance 40 = .ok (.iconst (-1), 1) := by decide +kernel
theorem d_R_instance_41 : decode c_R_instance 41 = .ok (.istore 4, 2) := by decide +kernel
theorem d_R_instance_43 : decode c_R_instance 43 = .ok (.iconst 0, 1) := by decide +kernel
theorem d_R_instance_44 : decode c_R_instance 44 = .ok (.istore 5, 2) := by decide +kernel
theorem d_R_instance_46 : decode c_R_instance 46 = .ok (.iconst 0, 1) := by decide +kernel
theorem d_R_instance_47 : decode c_R_instance 47 = .ok (.istore 6, 2) := by decide +kernel
theorem d_R_instance_49 : decode c_R_instance 49 = .ok (.iload 6, 2) := by decide +kernel
theorem d_R_instance_51 : decode c_R_instance 51 = .ok (.iload_n 3, 1) := by decide +kernel
theorem d_R_instance_52 : decode c_R_instance 52 = .ok (.if_icmp .gt 54, 3) := by decide +kernel
theorem d_R_instance_55 : decode c_R_instance 55 = .ok (.iload 5, 2) := by decide +kernel
theorem d_R_instance_57 : decode c_R_instance 57 = .ok (.ifCond .lt 49, 3) := by decide +kernel
theorem d_R_instance_60 : decode c_R_instance 60 = .ok (.iload_n 3, 1) := by decide +kernel
theorem d_R_instance_61 : decode c_R_instance 61 = .ok (.aload_n 0, 1) := by decide +kernel
theorem d_R_instance_62 : decode c_R_instance 62 = .ok (.getfield 66, 3) := by decide +kernel
theorem d_R_instance_65 : decode c_R_instance 65 = .ok (.if_icmp .ge 41, 3) := by decide +kernel
theorem d_R_instance_68 : decode c_R_instance 68 = .ok (.aload_n 0, 1) := by decide +kernel
theorem d_R_instance_69 : decode c_R_instance 69 = .ok (.aload_n 0, 1) := by decide +kernel
theorem d_R_instance_70 : decode c_R_instance 70 = .ok (.getfield 7, 3) := by decide +kernel
theorem d_R_instance_73 : decode c_R_instance 73 = .ok (.iload_n 2, 1) := by decide +kernel
theorem d_R_instance_74 : decode c_R_instance 74 = .ok (.iaload, 1) := by decide +kernel
theorem d_R_instance_75 : decode c_R_instance 75 = .ok (.iload 5, 2) := by decide +kernel
theorem d_R_instance_77 : decode c_R_instance 77 = .ok (.invokevirtual 136, 3) := by decide +kernel
theorem d_R_instance_80 : decode c_R_instance 80 = .ok (.istore 4, 2) := by decide +kernel
theorem d_R_instance_82 : decode c_R_instance 82 = .ok (.iload 4, 2) := by decide +kernel
theorem d_R_instance_84 : decode c_R_instance 84 = .ok (.ifCond .ge 7, 3) := by decide +kernel
theorem d_R_instance_87 : decode c_R_instance 87 = .ok (.iconst (-1), 1) := by decide +kernel
theorem d_R_instance_88 : decode c_R_instance 88 = .ok (.goto 10, 3) := by decide +kernel
theorem d_R_instance_91 : decode c_R_instance 91 = .ok (.aload_n 0, 1) := by decide +kernel
theorem d_R_instance_92 : decode c_R_instance 92 = .ok (.getfield 21, 3) := by decide +kernel
theorem d_R_instance_95 : decode c_R_instance 95 = .ok (.iload 4, 2) := by decide +kernel
theorem d_R_instance_97 : decode c_R_instance 97 = .ok (.iaload, 1) := by decide +kernel
theorem d_R_instance_98 : decode c_R_instance 98 = .ok (.istore 5, 2) := by decide +kernel
theorem d_R_instance_100 : decode c_R_instance 100 = .ok (.iinc 6 1, 3) := by decide +kernel
theorem d_R_instance_103 : decode c_R_instance 103 = .ok (.goto (-54), 3) := by decide +kernel
theorem d_R_instance_106 : decode c_R_instance 106 = .ok (.iload 4, 2) := by decide +kernel
theorem d_R_instance_108 : decode c_R_instance 108 = .ok (.ifCond .ge 5, 3) := by decide +kernel
theorem d_R_instance_111 : decode c_R_instance 111 = .ok (.iconst 0, 1) := by decide +kernel
theorem d_R_instance_112 : decode c_R_instance 112 = .ok (.ireturn, 1) := by decide +kernel
theorem d_R_instance_113 : decode c_R_instance 113 = .ok (.aload_n 0, 1) := by decide +kernel
theorem d_R_instance_114 : decode c_R_instance 114 = .ok (.getfield 7, 3) := by decide +kernel
theorem d_R_instance_117 : decode c_R_instance 117 = .ok (.iload_n 1, 1) := by decide +kernel
theorem d_R_instance_118 : decode c_R_instance 118 = .ok (.iload 4, 2) := by decide +kernel
theorem d_R_instance_120 : decode c_R_instance 120 = .ok (.invokestatic 111, 3) := by decide +kernel
theorem d_R_instance_123 : decode c_R_instance 123 = .ok (.iastore, 1) := by decide +kernel
theorem d_R_instance_124 : decode c_R_instance 124 = .ok (.iload 5, 2) := by decide +kernel
theorem d_R_instance_126 : decode c_R_instance 126 = .ok (.ireturn, 1) := by decide +kernel
theorem d_R_owners_0 : decode c_R_owners 0 = .ok (.aload_n 0, 1) := by decide +kernel
theorem d_R_owners_1 : decode c_R_owners 1 = .ok (.iload_n 1, 1) := by decide +kernel
theorem d_R_owners_2 : decode c_R_owners 2 = .ok (.invokestatic 52, 3) := by decide +kernel
theorem d_R_owners_5 : decode c_R_owners 5 = .ok (.ifCond .eq 7, 3) := by decide +kernel
theorem d_R_owners_8 : decode c_R_owners 8 = .ok (.iconst 0, 1) := by decide +kernel
theorem d_R_owners_9 : decode c_R_owners 9 = .ok (.goto 4, 3) := by decide +kernel
theorem d_R_owners_12 : decode c_R_owners 12 = .ok (.iconst 1, 1) := by decide +kernel
theorem d_R_owners_13 : decode c_R_owners 13 = .ok (.putfield 49, 3) := by decide +kernel
theorem d_R_owners_16 : decode c_R_owners 16 = .ok (.aload_n 0, 1) := by decide +kernel
theorem d_R_owners_17 : decode c_R_owners 17 = .ok (.getfield 49, 3) := by decide +kernel
theorem d_R_owners_20 : decode c_R_owners 20 = .ok (.ifCond .le 5, 3) := by decide +kernel
theorem d_R_owners_23 : decode c_R_owners 23 = .ok (.iconst 0, 1) := by decide +kernel
theorem d_R_owners_24 : decode c_R_owners 24 = .ok (.ireturn, 1) := by decide +kernel
theorem d_R_owners_25 : decode c_R_owners 25 = .ok (.aload_n 0, 1) := by decide +kernel
theorem d_R_owners_26 : decode c_R_owners 26 = .ok (.invokevirtual 95, 3) := by decide +kernel
theorem d_R_owners_29 : decode c_R_owners 29 = .ok (.aload_n 0, 1) := by decide +kernel
theorem d_R_owners_30 : decode c_R_owners 30 = .ok (.getfield 7, 3) := by decide +kernel
theorem d_R_owners_33 : decode c_R_owners 33 = .ok (.iload_n 1, 1) := by decide +kernel
theorem d_R_owners_34 : decode c_R_owners 34 = .ok (.iaload, 1) := by decide +kernel
theorem d_R_owners_35 : decode c_R_owners 35 = .ok (.istore_n 2, 1) := by decide +kernel
theorem d_R_owners_36 : decode c_R_owners 36 = .ok (.iconst 0, 1) := by decide +kernel
theorem d_R_owners_37 : decode c_R_owners 37 = .ok (.istore_n 3, 1) := by decide +kernel
theorem d_R_owners_38 : decode c_R_owners 38 = .ok (.iconst 0, 1) := by decide +kernel
theorem d_R_owners_39 : decode c_R_owners 39 = .ok (.istore 4, 2) := by decide +kernel
theorem d_R_owners_41 : decode c_R_owners 41 = .ok (.iload 4, 2) := by decide +kernel
theorem d_R_owners_43 : decode c_R_owners 43 = .ok (.bipush 32, 2) := by decide +kernel
theorem d_R_owners_45 : decode c_R_owners 45 = .ok (.if_icmp .ge 28, 3) := by decide +kernel
theorem d_R_owners_48 : decode c_R_owners 48 = .ok (.aload_n 0, 1) := by decide +kernel
theorem d_R_owners_49 : decode c_R_owners 49 = .ok (.getfield 7, 3) := by decide +kernel
theorem d_R_owners_52 : decode c_R_owners 52 = .ok (.iload 4, 2) := by decide +kernel
theorem d_R_owners_54 : decode c_R_owners 54 = .ok (.iaload, 1) := by decide +kernel
theorem d_R_owners_55 : decode c_R_owners 55 = .ok (.iload_n 2, 1) := by decide +kernel
theorem d_R_owners_56 : decode c_R_owners 56 = .ok (.if_icmp .ne 9, 3) := by decide +kernel
theorem d_R_owners_59 : decode c_R_owners 59 = .ok (.iload_n 3, 1) := by decide +kernel
theorem d_R_owners_60 : decode c_R_owners 60 = .ok (.iconst 1, 1) := by decide +kernel
theorem d_R_owners_61 : decode c_R_owners 61 = .ok (.iadd, 1) := by decide +kernel
theorem d_R_owners_62 : decode c_R_owners 62 = .ok (.goto 4, 3) := by decide +kernel
theorem d_R_owners_65 : decode c_R_owners 65 = .ok (.iload_n 3, 1) := by decide +kernel
theorem d_R_owners_66 : decode c_R_owners 66 = .ok (.istore_n 3, 1) := by decide +kernel
theorem d_R_owners_67 : decode c_R_owners 67 = .ok (.iinc 4 1, 3) := by decide +kernel
theorem d_R_owners_70 : decode c_R_owners 70 = .ok (.goto (-29), 3) := by decide +kernel
theorem d_R_owners_73 : decode c_R_owners 73 = .ok (.iconst 0, 1) := by decide +kernel
theorem d_R_owners_74 : decode c_R_owners 74 = .ok (.istore 4, 2) := by decide +kernel
theorem d_R_owners_76 : decode c_R_owners 76 = .ok (.iload 4, 2) := by decide +kernel
theorem d_R_owners_78 : decode c_R_owners 78 = .ok (.aload_n 0, 1) := by decide +kernel
theorem d_R_owners_79 : decode c_R_owners 79 = .ok (.getfield 66, 3) := by decide +kernel
theorem d_R_owners_82 : decode c_R_owners 82 = .ok (.if_icmp .ge 92, 3) := by decide +kernel
theorem d_R_owners_85 : decode c_R_owners 85 = .ok (.aload_n 0, 1) := by decide +kernel
theorem d_R_owners_86 : decode c_R_owners 86 = .ok (.getfield 40, 3) := by decide +kernel
theorem d_R_owners_89 : decode c_R_owners 89 = .ok (.iload 4, 2) := by decide +kernel
theorem d_R_owners_91 : decode c_R_owners 91 = .ok (.iaload, 1) := by decide +kernel
theorem d_R_owners_92 : decode c_R_owners 92 = .ok (.istore 5, 2) := by decide +kernel
theorem d_R_owners_94 : decode c_R_owners 94 = .ok (.aload_n 0, 1) := by decide +kernel
theorem d_R_owners_95 : decode c_R_owners 95 = .ok (.getfield 24, 3) := by decide +kernel
theorem d_R_owners_98 : decode c_R_owners 98 = .ok (.iload 5, 2) := by decide +kernel
theorem d_R_owners_100 : decode c_R_owners 100 = .ok (.iaload, 1) := by decide +kernel
theorem d_R_owners_101 : decode c_R_owners 101 = .ok (.iload_n 2, 1) := by decide +kernel
theorem d_R_owners_102 : decode c_R_owners 102 = .ok (.if_icmp .ne 9, 3) := by decide +kernel
theorem d_R_owners_105 : decode c_R_owners 105 = .ok (.iload_n 3, 1) := by decide +kernel
theorem d_R_owners_106 : decode c_R_owners 106 = .ok (.iconst 1, 1) := by decide +kernel
theorem d_R_owners_107 : decode c_R_owners 107 = .ok (.iadd, 1) := by decide +kernel
theorem d_R_owners_108 : decode c_R_owners 108 = .ok (.goto 4, 3) := by decide +kernel
theorem d_R_owners_111 : decode c_R_owners 111 = .ok (.iload_n 3, 1) := by decide +kernel
theorem d_R_owners_112 : decode c_R_owners 112 = .ok (.istore_n 3, 1) := by decide +kernel
theorem d_R_owners_113 : decode c_R_owners 113 = .ok (.aload_n 0, 1) := by decide +kernel
theorem d_R_owners_114 : decode c_R_owners 114 = .ok (.getfield 34, 3) := by decide +kernel
theorem d_R_owners_117 : decode c_R_owners 117 = .ok (.iload 5, 2) := by decide +kernel
theorem d_R_owners_119 : decode c_R_owners 119 = .ok (.iaload, 1) := by decide +kernel
theorem d_R_owners_120 : decode c_R_owners 120 = .ok (.istore 6, 2) := by decide +kernel
theorem d_R_owners_122 : decode c_R_owners 122 = .ok (.iload 6, 2) := by decide +kernel
theorem d_R_owners_124 : decode c_R_owners 124 = .ok (.ifCond .lt 44, 3) := by decide +kernel
theorem d_R_owners_127 : decode c_R_owners 127 = .ok (.aload_n 0, 1) := by decide +kernel
theorem d_R_owners_128 : decode c_R_owners 128 = .ok (.getfield 27, 3) := by decide +kernel
theorem d_R_owners_131 : decode c_R_owners 131 = .ok (.iload 5, 2) := by decide +kernel
theorem d_R_owners_133 : decode c_R_owners 133 = .ok (.baload, 1) := by decide +kernel
theorem d_R_owners_134 : decode c_R_owners 134 = .ok (.ifCond .ne 34, 3) := by decide +kernel
theorem d_R_owners_137 : decode c_R_owners 137 = .ok (.aload_n 0, 1) := by decide +kernel
theorem d_R_owners_138 : decode c_R_owners 138 = .ok (.getfield 43, 3) := by decide +kernel
theorem d_R_owners_141 : decode c_R_owners 141 = .ok (.iload 6, 2) := by decide +kernel
theorem d_R_owners_143 : decode c_R_owners 143 = .ok (.iaload, 1) := by decide +kernel
theorem d_R_owners_144 : decode c_R_owners 144 = .ok (.iload_n 2, 1) := by decide +kernel
theorem d_R_owners_145 : decode c_R_owners 145 = .ok (.if_icmp .ne 9, 3) := by decide +kernel
theorem d_R_owners_148 : decode c_R_owners 148 = .ok (.iload_n 3, 1) := by decide +kernel
theorem d_R_owners_149 : decode c_R_owners 149 = .ok (.iconst 1, 1) := by decide +kernel
theorem d_R_owners_150 : decode c_R_owners 150 = .ok (.iadd, 1) := by decide +kernel
theorem d_R_owners_151 : decode c_R_owners 151 = .ok (.goto 4, 3) := by decide +kernel
theorem d_R_owners_154 : decode c_R_owners 154 = .ok (.iload_n 3, 1) := by decide +kernel
theorem d_R_owners_155 : decode c_R_owners 155 = .ok (.istore_n 3, 1) := by decide +kernel
theorem d_R_owners_156 : decode c_R_owners 156 = .ok (.aload_n 0, 1) := by decide +kernel
theorem d_R_owners_157 : decode c_R_owners 157 = .ok (.getfield 46, 3) := by decide +kernel
theorem d_R_owners_160 : decode c_R_owners 160 = .ok (.iload 6, 2) := by decide +kernel
theorem d_R_owners_162 : decode c_R_owners 162 = .ok (.iaload, 1) := by decide +kernel
theorem d_R_owners_163 : decode c_R_owners 163 = .ok (.istore 6, 2) := by decide +kernel
theorem d_R_owners_165 : decode c_R_owners 165 = .ok (.goto (-43), 3) := by decide +kernel
theorem d_R_owners_168 : decode c_R_owners 168 = .ok (.iinc 4 1, 3) := by decide +kernel
theorem d_R_owners_171 : decode c_R_owners 171 = .ok (.goto (-95), 3) := by decide +kernel
theorem d_R_owners_174 : decode c_R_owners 174 = .ok (.iload_n 3, 1) := by decide +kernel
theorem d_R_owners_175 : decode c_R_owners 175 = .ok (.ireturn, 1) := by decide +kernel
theorem d_R_reaches_0 : decode c_R_reaches 0 = .ok (.aload_n 0, 1) := by decide +kernel
theorem d_R_reaches_1 : decode c_R_reaches 1 = .ok (.aload_n 0, 1) := by decide +kernel
theorem d_R_reaches_2 : decode c_R_reaches 2 = .ok (.iload_n 1, 1) := by decide +kernel
theorem d_R_reaches_3 : decode c_R_reaches 3 = .ok (.invokevirtual 59, 3) := by decide +kernel
theorem d_R_reaches_6 : decode c_R_reaches 6 = .ok (.ifCond .eq 15, 3) := by decide +kernel
theorem d_R_reaches_9 : decode c_R_reaches 9 = .ok (.aload_n 0, 1) := by decide +kernel
theorem d_R_reaches_10 : decode c_R_reaches 10 = .ok (.iload_n 2, 1) := by decide +kernel
theorem d_R_reaches_11 : decode c_R_reaches 11 = .ok (.invokevirtual 59, 3) := by decide +kernel
theorem d_R_reaches_14 : decode c_R_reaches 14 = .ok (.ifCond .eq 7, 3) := by decide +kernel
theorem d_R_reaches_17 : decode c_R_reaches 17 = .ok (.iconst 0, 1) := by decide +kernel
theorem d_R_reaches_18 : decode c_R_reaches 18 = .ok (.goto 4, 3) := by decide +kernel
theorem d_R_reaches_21 : decode c_R_reaches 21 = .ok (.iconst 1, 1) := by decide +kernel
theorem d_R_reaches_22 : decode c_R_reaches 22 = .ok (.putfield 49, 3) := by decide +kernel
theorem d_R_reaches_25 : decode c_R_reaches 25 = .ok (.aload_n 0, 1) := by decide +kernel
theorem d_R_reaches_26 : decode c_R_reaches 26 = .ok (.getfield 49, 3) := by decide +kernel
theorem d_R_reaches_29 : decode c_R_reaches 29 = .ok (.ifCond .le 5, 3) := by decide +kernel
theorem d_R_reaches_32 : decode c_R_reaches 32 = .ok (.iconst 0, 1) := by decide +kernel
theorem d_R_reaches_33 : decode c_R_reaches 33 = .ok (.ireturn, 1) := by decide +kernel
theorem d_R_reaches_34 : decode c_R_reaches 34 = .ok (.aload_n 0, 1) := by decide +kernel
theorem d_R_reaches_35 : decode c_R_reaches 35 = .ok (.invokevirtual 80, 3) := by decide +kernel
theorem d_R_reaches_38 : decode c_R_reaches 38 = .ok (.aload_n 0, 1) := by decide +kernel
theorem d_R_reaches_39 : decode c_R_reaches 39 = .ok (.aload_n 0, 1) := by decide +kernel
theorem d_R_reaches_40 : decode c_R_reaches 40 = .ok (.getfield 7, 3) := by decide +kernel
theorem d_R_reaches_43 : decode c_R_reaches 43 = .ok (.iload_n 1, 1) := by decide +kernel
theorem d_R_reaches_44 : decode c_R_reaches 44 = .ok (.iaload, 1) := by decide +kernel
theorem d_R_reaches_45 : decode c_R_reaches 45 = .ok (.invokevirtual 69, 3) := by decide +kernel
theorem d_R_reaches_48 : decode c_R_reaches 48 = .ok (.aload_n 0, 1) := by decide +kernel
theorem d_R_reaches_49 : decode c_R_reaches 49 = .ok (.invokevirtual 83, 3) := by decide +kernel
theorem d_R_reaches_52 : decode c_R_reaches 52 = .ok (.aload_n 0, 1) := by decide +kernel
theorem d_R_reaches_53 : decode c_R_reaches 53 = .ok (.getfield 37, 3) := by decide +kernel
theorem d_R_reaches_56 : decode c_R_reaches 56 = .ok (.aload_n 0, 1) := by decide +kernel
theorem d_R_reaches_57 : decode c_R_reaches 57 = .ok (.getfield 7, 3) := by decide +kernel
theorem d_R_reaches_60 : decode c_R_reaches 60 = .ok (.iload_n 2, 1) := by decide +kernel
theorem d_R_reaches_61 : decode c_R_reaches 61 = .ok (.iaload, 1) := by decide +kernel
theorem d_R_reaches_62 : decode c_R_reaches 62 = .ok (.invokestatic 62, 3) := by decide +kernel
theorem d_R_reaches_65 : decode c_R_reaches 65 = .ok (.baload, 1) := by decide +kernel
theorem d_R_reaches_66 : decode c_R_reaches 66 = .ok (.ireturn, 1) := by decide +kernel
