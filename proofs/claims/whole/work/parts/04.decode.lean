theorem d_V_ofNumber_0 : decode c_V_ofNumber 0 = .ok (.iconst 2, 1) := by decide +kernel
theorem d_V_ofNumber_1 : decode c_V_ofNumber 1 = .ok (.iload_n 0, 1) := by decide +kernel
theorem d_V_ofNumber_2 : decode c_V_ofNumber 2 = .ok (.imul, 1) := by decide +kernel
theorem d_V_ofNumber_3 : decode c_V_ofNumber 3 = .ok (.iconst 1, 1) := by decide +kernel
theorem d_V_ofNumber_4 : decode c_V_ofNumber 4 = .ok (.iadd, 1) := by decide +kernel
theorem d_V_ofNumber_5 : decode c_V_ofNumber 5 = .ok (.ireturn, 1) := by decide +kernel
theorem d_V_ofEntry_0 : decode c_V_ofEntry 0 = .ok (.iconst 2, 1) := by decide +kernel
theorem d_V_ofEntry_1 : decode c_V_ofEntry 1 = .ok (.iload_n 0, 1) := by decide +kernel
theorem d_V_ofEntry_2 : decode c_V_ofEntry 2 = .ok (.imul, 1) := by decide +kernel
theorem d_V_ofEntry_3 : decode c_V_ofEntry 3 = .ok (.iconst 2, 1) := by decide +kernel
theorem d_V_ofEntry_4 : decode c_V_ofEntry 4 = .ok (.iadd, 1) := by decide +kernel
theorem d_V_ofEntry_5 : decode c_V_ofEntry 5 = .ok (.ireturn, 1) := by decide +kernel
theorem d_V_isNumber_0 : decode c_V_isNumber 0 = .ok (.iload_n 0, 1) := by decide +kernel
theorem d_V_isNumber_1 : decode c_V_isNumber 1 = .ok (.iconst 1, 1) := by decide +kernel
theorem d_V_isNumber_2 : decode c_V_isNumber 2 = .ok (.iand, 1) := by decide +kernel
theorem d_V_isNumber_3 : decode c_V_isNumber 3 = .ok (.ifCond .eq 7, 3) := by decide +kernel
theorem d_V_isNumber_6 : decode c_V_isNumber 6 = .ok (.iconst 1, 1) := by decide +kernel
theorem d_V_isNumber_7 : decode c_V_isNumber 7 = .ok (.goto 4, 3) := by decide +kernel
theorem d_V_isNumber_10 : decode c_V_isNumber 10 = .ok (.iconst 0, 1) := by decide +kernel
theorem d_V_isNumber_11 : decode c_V_isNumber 11 = .ok (.ireturn, 1) := by decide +kernel
theorem d_V_isObject_0 : decode c_V_isObject 0 = .ok (.iload_n 0, 1) := by decide +kernel
theorem d_V_isObject_1 : decode c_V_isObject 1 = .ok (.ifCond .eq 13, 3) := by decide +kernel
theorem d_V_isObject_4 : decode c_V_isObject 4 = .ok (.iload_n 0, 1) := by decide +kernel
theorem d_V_isObject_5 : decode c_V_isObject 5 = .ok (.iconst 1, 1) := by decide +kernel
theorem d_V_isObject_6 : decode c_V_isObject 6 = .ok (.iand, 1) := by decide +kernel
theorem d_V_isObject_7 : decode c_V_isObject 7 = .ok (.ifCond .ne 7, 3) := by decide +kernel
theorem d_V_isObject_10 : decode c_V_isObject 10 = .ok (.iconst 1, 1) := by decide +kernel
theorem d_V_isObject_11 : decode c_V_isObject 11 = .ok (.goto 4, 3) := by decide +kernel
theorem d_V_isObject_14 : decode c_V_isObject 14 = .ok (.iconst 0, 1) := by decide +kernel
theorem d_V_isObject_15 : decode c_V_isObject 15 = .ok (.ireturn, 1) := by decide +kernel
theorem d_V_toNumber_0 : decode c_V_toNumber 0 = .ok (.iload_n 0, 1) := by decide +kernel
theorem d_V_toNumber_1 : decode c_V_toNumber 1 = .ok (.iconst 1, 1) := by decide +kernel
theorem d_V_toNumber_2 : decode c_V_toNumber 2 = .ok (.ishr, 1) := by decide +kernel
theorem d_V_toNumber_3 : decode c_V_toNumber 3 = .ok (.ireturn, 1) := by decide +kernel
theorem d_V_toEntry_0 : decode c_V_toEntry 0 = .ok (.iload_n 0, 1) := by decide +kernel
theorem d_V_toEntry_1 : decode c_V_toEntry 1 = .ok (.iconst 1, 1) := by decide +kernel
theorem d_V_toEntry_2 : decode c_V_toEntry 2 = .ok (.ishr, 1) := by decide +kernel
theorem d_V_toEntry_3 : decode c_V_toEntry 3 = .ok (.iconst 1, 1) := by decide +kernel
theorem d_V_toEntry_4 : decode c_V_toEntry 4 = .ok (.isub, 1) := by decide +kernel
theorem d_V_toEntry_5 : decode c_V_toEntry 5 = .ok (.ireturn, 1) := by decide +kernel
theorem d_M_init_0 : decode c_M_init 0 = .ok (.aload_n 0, 1) := by decide +kernel
theorem d_M_init_1 : decode c_M_init 1 = .ok (.invokespecial 1, 3) := by decide +kernel
theorem d_M_init_4 : decode c_M_init 4 = .ok (.aload_n 0, 1) := by decide +kernel
theorem d_M_init_5 : decode c_M_init 5 = .ok (.iload_n 1, 1) := by decide +kernel
theorem d_M_init_6 : decode c_M_init 6 = .ok (.newarray .int, 2) := by decide +kernel
theorem d_M_init_8 : decode c_M_init 8 = .ok (.putfield 7, 3) := by decide +kernel
theorem d_M_init_11 : decode c_M_init 11 = .ok (.aload_n 0, 1) := by decide +kernel
theorem d_M_init_12 : decode c_M_init 12 = .ok (.iload_n 2, 1) := by decide +kernel
theorem d_M_init_13 : decode c_M_init 13 = .ok (.newarray .int, 2) := by decide +kernel
theorem d_M_init_15 : decode c_M_init 15 = .ok (.putfield 13, 3) := by decide +kernel
theorem d_M_init_18 : decode c_M_init 18 = .ok (.aload_n 0, 1) := by decide +kernel
theorem d_M_init_19 : decode c_M_init 19 = .ok (.iload_n 2, 1) := by decide +kernel
theorem d_M_init_20 : decode c_M_init 20 = .ok (.newarray .int, 2) := by decide +kernel
theorem d_M_init_22 : decode c_M_init 22 = .ok (.putfield 16, 3) := by decide +kernel
theorem d_M_init_25 : decode c_M_init 25 = .ok (.aload_n 0, 1) := by decide +kernel
theorem d_M_init_26 : decode c_M_init 26 = .ok (.iload_n 2, 1) := by decide +kernel
theorem d_M_init_27 : decode c_M_init 27 = .ok (.newarray .int, 2) := by decide +kernel
theorem d_M_init_29 : decode c_M_init 29 = .ok (.putfield 19, 3) := by decide +kernel
theorem d_M_init_32 : decode c_M_init 32 = .ok (.aload_n 0, 1) := by decide +kernel
theorem d_M_init_33 : decode c_M_init 33 = .ok (.iload_n 2, 1) := by decide +kernel
theorem d_M_init_34 : decode c_M_init 34 = .ok (.newarray .int, 2) := by decide +kernel
theorem d_M_init_36 : decode c_M_init 36 = .ok (.putfield 22, 3) := by decide +kernel
theorem d_M_init_39 : decode c_M_init 39 = .ok (.iconst 0, 1) := by decide +kernel
theorem d_M_init_40 : decode c_M_init 40 = .ok (.istore_n 3, 1) := by decide +kernel
theorem d_M_init_41 : decode c_M_init 41 = .ok (.iload_n 3, 1) := by decide +kernel
theorem d_M_init_42 : decode c_M_init 42 = .ok (.iload_n 2, 1) := by decide +kernel
theorem d_M_init_43 : decode c_M_init 43 = .ok (.if_icmp .ge 16, 3) := by decide +kernel
theorem d_M_init_46 : decode c_M_init 46 = .ok (.aload_n 0, 1) := by decide +kernel
theorem d_M_init_47 : decode c_M_init 47 = .ok (.getfield 16, 3) := by decide +kernel
theorem d_M_init_50 : decode c_M_init 50 = .ok (.iload_n 3, 1) := by decide +kernel
theorem d_M_init_51 : decode c_M_init 51 = .ok (.iload_n 3, 1) := by decide +kernel
theorem d_M_init_52 : decode c_M_init 52 = .ok (.iastore, 1) := by decide +kernel
theorem d_M_init_53 : decode c_M_init 53 = .ok (.iinc 3 1, 3) := by decide +kernel
theorem d_M_init_56 : decode c_M_init 56 = .ok (.goto (-15), 3) := by decide +kernel
theorem d_M_init_59 : decode c_M_init 59 = .ok (.aload_n 0, 1) := by decide +kernel
theorem d_M_init_60 : decode c_M_init 60 = .ok (.iload_n 2, 1) := by decide +kernel
theorem d_M_init_61 : decode c_M_init 61 = .ok (.putfield 25, 3) := by decide +kernel
theorem d_M_init_64 : decode c_M_init 64 = .ok (.aload_n 0, 1) := by decide +kernel
theorem d_M_init_65 : decode c_M_init 65 = .ok (.iconst 1, 1) := by decide +kernel
theorem d_M_init_66 : decode c_M_init 66 = .ok (.putfield 29, 3) := by decide +kernel
theorem d_M_init_69 : decode c_M_init 69 = .ok (.return_, 1) := by decide +kernel
theorem d_M_shape_0 : decode c_M_shape 0 = .ok (.iload_n 1, 1) := by decide +kernel
theorem d_M_shape_1 : decode c_M_shape 1 = .ok (.ifCond .eq 9, 3) := by decide +kernel
theorem d_M_shape_4 : decode c_M_shape 4 = .ok (.iconst 2, 1) := by decide +kernel
theorem d_M_shape_5 : decode c_M_shape 5 = .ok (.iload_n 0, 1) := by decide +kernel
theorem d_M_shape_6 : decode c_M_shape 6 = .ok (.imul, 1) := by decide +kernel
theorem d_M_shape_7 : decode c_M_shape 7 = .ok (.goto 8, 3) := by decide +kernel
theorem d_M_shape_10 : decode c_M_shape 10 = .ok (.iconst 2, 1) := by decide +kernel
theorem d_M_shape_11 : decode c_M_shape 11 = .ok (.iload_n 0, 1) := by decide +kernel
theorem d_M_shape_12 : decode c_M_shape 12 = .ok (.imul, 1) := by decide +kernel
theorem d_M_shape_13 : decode c_M_shape 13 = .ok (.iconst 1, 1) := by decide +kernel
theorem d_M_shape_14 : decode c_M_shape 14 = .ok (.iadd, 1) := by decide +kernel
theorem d_M_shape_15 : decode c_M_shape 15 = .ok (.ireturn, 1) := by decide +kernel
theorem d_M_isOfBytes_0 : decode c_M_isOfBytes 0 = .ok (.iload_n 0, 1) := by decide +kernel
theorem d_M_isOfBytes_1 : decode c_M_isOfBytes 1 = .ok (.iconst 1, 1) := by decide +kernel
theorem d_M_isOfBytes_2 : decode c_M_isOfBytes 2 = .ok (.iand, 1) := by decide +kernel
theorem d_M_isOfBytes_3 : decode c_M_isOfBytes 3 = .ok (.ifCond .eq 7, 3) := by decide +kernel
theorem d_M_isOfBytes_6 : decode c_M_isOfBytes 6 = .ok (.iconst 1, 1) := by decide +kernel
theorem d_M_isOfBytes_7 : decode c_M_isOfBytes 7 = .ok (.goto 4, 3) := by decide +kernel
theorem d_M_isOfBytes_10 : decode c_M_isOfBytes 10 = .ok (.iconst 0, 1) := by decide +kernel
theorem d_M_isOfBytes_11 : decode c_M_isOfBytes 11 = .ok (.ireturn, 1) := by decide +kernel
theorem d_M_bodyWords_0 : decode c_M_bodyWords 0 = .ok (.iload_n 0, 1) := by decide +kernel
theorem d_M_bodyWords_1 : decode c_M_bodyWords 1 = .ok (.iconst 1, 1) := by decide +kernel
theorem d_M_bodyWords_2 : decode c_M_bodyWords 2 = .ok (.ishr, 1) := by decide +kernel
theorem d_M_bodyWords_3 : decode c_M_bodyWords 3 = .ok (.istore_n 1, 1) := by decide +kernel
theorem d_M_bodyWords_4 : decode c_M_bodyWords 4 = .ok (.iload_n 0, 1) := by decide +kernel
theorem d_M_bodyWords_5 : decode c_M_bodyWords 5 = .ok (.invokestatic 33, 3) := by decide +kernel
theorem d_M_bodyWords_8 : decode c_M_bodyWords 8 = .ok (.ifCond .eq 11, 3) := by decide +kernel
theorem d_M_bodyWords_11 : decode c_M_bodyWords 11 = .ok (.iload_n 1, 1) := by decide +kernel
theorem d_M_bodyWords_12 : decode c_M_bodyWords 12 = .ok (.iconst 3, 1) := by decide +kernel
theorem d_M_bodyWords_13 : decode c_M_bodyWords 13 = .ok (.iadd, 1) := by decide +kernel
theorem d_M_bodyWords_14 : decode c_M_bodyWords 14 = .ok (.iconst 2, 1) := by decide +kernel
theorem d_M_bodyWords_15 : decode c_M_bodyWords 15 = .ok (.ishr, 1) := by decide +kernel
theorem d_M_bodyWords_16 : decode c_M_bodyWords 16 = .ok (.goto 4, 3) := by decide +kernel
theorem d_M_bodyWords_19 : decode c_M_bodyWords 19 = .ok (.iload_n 1, 1) := by decide +kernel
theorem d_M_bodyWords_20 : decode c_M_bodyWords 20 = .ok (.ireturn, 1) := by decide +kernel
theorem d_M_word_0 : decode c_M_word 0 = .ok (.iload_n 1, 1) := by decide +kernel
theorem d_M_word_1 : decode c_M_word 1 = .ok (.ifCond .lt 21, 3) := by decide +kernel
theorem d_M_word_4 : decode c_M_word 4 = .ok (.iload_n 1, 1) := by decide +kernel
theorem d_M_word_5 : decode c_M_word 5 = .ok (.aload_n 0, 1) := by decide +kernel
theorem d_M_word_6 : decode c_M_word 6 = .ok (.getfield 7, 3) := by decide +kernel
theorem d_M_word_9 : decode c_M_word 9 = .ok (.arraylength, 1) := by decide +kernel
theorem d_M_word_10 : decode c_M_word 10 = .ok (.if_icmp .ge 12, 3) := by decide +kernel
theorem d_M_word_13 : decode c_M_word 13 = .ok (.aload_n 0, 1) := by decide +kernel
theorem d_M_word_14 : decode c_M_word 14 = .ok (.getfield 7, 3) := by decide +kernel
theorem d_M_word_17 : decode c_M_word 17 = .ok (.iload_n 1, 1) := by decide +kernel
theorem d_M_word_18 : decode c_M_word 18 = .ok (.iaload, 1) := by decide +kernel
theorem d_M_word_19 : decode c_M_word 19 = .ok (.goto 4, 3) := by decide +kernel
theorem d_M_word_22 : decode c_M_word 22 = .ok (.iconst 0, 1) := by decide +kernel
theorem d_M_word_23 : decode c_M_word 23 = .ok (.ireturn, 1) := by decide +kernel
theorem d_M_setWord_0 : decode c_M_setWord 0 = .ok (.iload_n 1, 1) := by decide +kernel
theorem d_M_setWord_1 : decode c_M_setWord 1 = .ok (.ifCond .lt 19, 3) := by decide +kernel
theorem d_M_setWord_4 : decode c_M_setWord 4 = .ok (.iload_n 1, 1) := by decide +kernel
theorem d_M_setWord_5 : decode c_M_setWord 5 = .ok (.aload_n 0, 1) := by decide +kernel
theorem d_M_setWord_6 : decode c_M_setWord 6 = .ok (.getfield 7, 3) := by decide +kernel
theorem d_M_setWord_9 : decode c_M_setWord 9 = .ok (.arraylength, 1) := by decide +kernel
theorem d_M_setWord_10 : decode c_M_setWord 10 = .ok (.if_icmp .ge 10, 3) := by decide +kernel
theorem d_M_setWord_13 : decode c_M_setWord 13 = .ok (.aload_n 0, 1) := by decide +kernel
theorem d_M_setWord_14 : decode c_M_setWord 14 = .ok (.getfield 7, 3) := by decide +kernel
theorem d_M_setWord_17 : decode c_M_setWord 17 = .ok (.iload_n 1, 1) := by decide +kernel
theorem d_M_setWord_18 : decode c_M_setWord 18 = .ok (.iload_n 2, 1) := by decide +kernel
theorem d_M_setWord_19 : decode c_M_setWord 19 = .ok (.iastore, 1) := by decide +kernel
theorem d_M_setWord_20 : decode c_M_setWord 20 = .ok (.return_, 1) := by decide +kernel
theorem d_M_copyWords_0 : decode c_M_copyWords 0 = .ok (.iload_n 1, 1) := by decide +kernel
theorem d_M_copyWords_1 : decode c_M_copyWords 1 = .ok (.ifCond .lt 40, 3) := by decide +kernel
theorem d_M_copyWords_4 : decode c_M_copyWords 4 = .ok (.iload_n 2, 1) := by decide +kernel
theorem d_M_copyWords_5 : decode c_M_copyWords 5 = .ok (.ifCond .lt 36, 3) := by decide +kernel
theorem d_M_copyWords_8 : decode c_M_copyWords 8 = .ok (.iload_n 3, 1) := by decide +kernel
theorem d_M_copyWords_9 : decode c_M_copyWords 9 = .ok (.ifCond .lt 32, 3) := by decide +kernel
theorem d_M_copyWords_12 : decode c_M_copyWords 12 = .ok (.iload_n 3, 1) := by decide +kernel
theorem d_M_copyWords_13 : decode c_M_copyWords 13 = .ok (.aload_n 0, 1) := by decide +kernel
theorem d_M_copyWords_14 : decode c_M_copyWords 14 = .ok (.getfield 7, 3) := by decide +kernel
theorem d_M_copyWords_17 : decode c_M_copyWords 17 = .ok (.arraylength, 1) := by decide +kernel
theorem d_M_copyWords_18 : decode c_M_copyWords 18 = .ok (.iload_n 1, 1) := by decide +kernel
theorem d_M_copyWords_19 : decode c_M_copyWords 19 = .ok (.iload_n 2, 1) := by decide +kernel
theorem d_M_copyWords_20 : decode c_M_copyWords 20 = .ok (.invokestatic 37, 3) := by decide +kernel
theorem d_M_copyWords_23 : decode c_M_copyWords 23 = .ok (.isub, 1) := by decide +kernel
theorem d_M_copyWords_24 : decode c_M_copyWords 24 = .ok (.if_icmp .gt 17, 3) := by decide +kernel
theorem d_M_copyWords_27 : decode c_M_copyWords 27 = .ok (.aload_n 0, 1) := by decide +kernel
theorem d_M_copyWords_28 : decode c_M_copyWords 28 = .ok (.getfield 7, 3) := by decide +kernel
theorem d_M_copyWords_31 : decode c_M_copyWords 31 = .ok (.iload_n 1, 1) := by decide +kernel
theorem d_M_copyWords_32 : decode c_M_copyWords 32 = .ok (.aload_n 0, 1) := by decide +kernel
theorem d_M_copyWords_33 : decode c_M_copyWords 33 = .ok (.getfield 7, 3) := by decide +kernel
theorem d_M_copyWords_36 : decode c_M_copyWords 36 = .ok (.iload_n 2, 1) := by decide +kernel
theorem d_M_copyWords_37 : decode c_M_copyWords 37 = .ok (.iload_n 3, 1) := by decide +kernel
theorem d_M_copyWords_38 : decode c_M_copyWords 38 = .ok (.invokestatic 43, 3) := by decide +kernel
theorem d_M_copyWords_41 : decode c_M_copyWords 41 = .ok (.return_, 1) := by decide +kernel
theorem d_M_place_0 : decode c_M_place 0 = .ok (.iload_n 1, 1) := by decide +kernel
theorem d_M_place_1 : decode c_M_place 1 = .ok (.invokestatic 49, 3) := by decide +kernel
theorem d_M_place_4 : decode c_M_place 4 = .ok (.istore_n 2, 1) := by decide +kernel
theorem d_M_place_5 : decode c_M_place 5 = .ok (.iload_n 2, 1) := by decide +kernel
theorem d_M_place_6 : decode c_M_place 6 = .ok (.ifCond .lt 21, 3) := by decide +kernel
theorem d_M_place_9 : decode c_M_place 9 = .ok (.iload_n 2, 1) := by decide +kernel
theorem d_M_place_10 : decode c_M_place 10 = .ok (.aload_n 0, 1) := by decide +kernel
theorem d_M_place_11 : decode c_M_place 11 = .ok (.getfield 13, 3) := by decide +kernel
theorem d_M_place_14 : decode c_M_place 14 = .ok (.arraylength, 1) := by decide +kernel
theorem d_M_place_15 : decode c_M_place 15 = .ok (.if_icmp .ge 12, 3) := by decide +kernel
theorem d_M_place_18 : decode c_M_place 18 = .ok (.aload_n 0, 1) := by decide +kernel
theorem d_M_place_19 : decode c_M_place 19 = .ok (.getfield 13, 3) := by decide +kernel
theorem d_M_place_22 : decode c_M_place 22 = .ok (.iload_n 2, 1) := by decide +kernel
theorem d_M_place_23 : decode c_M_place 23 = .ok (.iaload, 1) := by decide +kernel
theorem d_M_place_24 : decode c_M_place 24 = .ok (.goto 4, 3) := by decide +kernel
theorem d_M_place_27 : decode c_M_place 27 = .ok (.iconst 0, 1) := by decide +kernel
theorem d_M_place_28 : decode c_M_place 28 = .ok (.ireturn, 1) := by decide +kernel
theorem d_M_shapeOf_0 : decode c_M_shapeOf 0 = .ok (.aload_n 0, 1) := by decide +kernel
theorem d_M_shapeOf_1 : decode c_M_shapeOf 1 = .ok (.aload_n 0, 1) := by decide +kernel
theorem d_M_shapeOf_2 : decode c_M_shapeOf 2 = .ok (.iload_n 1, 1) := by decide +kernel
theorem d_M_shapeOf_3 : decode c_M_shapeOf 3 = .ok (.invokevirtual 55, 3) := by decide +kernel
theorem d_M_shapeOf_6 : decode c_M_shapeOf 6 = .ok (.iconst 3, 1) := by decide +kernel
theorem d_M_shapeOf_7 : decode c_M_shapeOf 7 = .ok (.iadd, 1) := by decide +kernel
theorem d_M_shapeOf_8 : decode c_M_shapeOf 8 = .ok (.invokevirtual 58, 3) := by decide +kernel
theorem d_M_shapeOf_11 : decode c_M_shapeOf 11 = .ok (.ireturn, 1) := by decide +kernel
theorem d_M_holdsSlots_0 : decode c_M_holdsSlots 0 = .ok (.iload_n 1, 1) := by decide +kernel
theorem d_M_holdsSlots_1 : decode c_M_holdsSlots 1 = .ok (.invokestatic 61, 3) := by decide +kernel
theorem d_M_holdsSlots_4 : decode c_M_holdsSlots 4 = .ok (.ifCond .eq 18, 3) := by decide +kernel
theorem d_M_holdsSlots_7 : decode c_M_holdsSlots 7 = .ok (.aload_n 0, 1) := by decide +kernel
theorem d_M_holdsSlots_8 : decode c_M_holdsSlots 8 = .ok (.iload_n 1, 1) := by decide +kernel
theorem d_M_holdsSlots_9 : decode c_M_holdsSlots 9 = .ok (.invokevirtual 64, 3) := by decide +kernel
theorem d_M_holdsSlots_12 : decode c_M_holdsSlots 12 = .ok (.invokestatic 33, 3) := by decide +kernel
theorem d_M_holdsSlots_15 : decode c_M_holdsSlots 15 = .ok (.ifCond .ne 7, 3) := by decide +kernel
theorem d_M_holdsSlots_18 : decode c_M_holdsSlots 18 = .ok (.iconst 1, 1) := by decide +kernel
theorem d_M_holdsSlots_19 : decode c_M_holdsSlots 19 = .ok (.goto 4, 3) := by decide +kernel
theorem d_M_holdsSlots_22 : decode c_M_holdsSlots 22 = .ok (.iconst 0, 1) := by decide +kernel
theorem d_M_holdsSlots_23 : decode c_M_holdsSlots 23 = .ok (.ireturn, 1) := by decide +kernel
theorem d_M_holdsBytes_0 : decode c_M_holdsBytes 0 = .ok (.iload_n 1, 1) := by decide +kernel
theorem d_M_holdsBytes_1 : decode c_M_holdsBytes 1 = .ok (.invokestatic 61, 3) := by decide +kernel
theorem d_M_holdsBytes_4 : decode c_M_holdsBytes 4 = .ok (.ifCond .eq 18, 3) := by decide +kernel
theorem d_M_holdsBytes_7 : decode c_M_holdsBytes 7 = .ok (.aload_n 0, 1) := by decide +kernel
theorem d_M_holdsBytes_8 : decode c_M_holdsBytes 8 = .ok (.iload_n 1, 1) := by decide +kernel
theorem d_M_holdsBytes_9 : decode c_M_holdsBytes 9 = .ok (.invokevirtual 64, 3) := by decide +kernel
theorem d_M_holdsBytes_12 : decode c_M_holdsBytes 12 = .ok (.invokestatic 33, 3) := by decide +kernel
theorem d_M_holdsBytes_15 : decode c_M_holdsBytes 15 = .ok (.ifCond .eq 7, 3) := by decide +kernel
theorem d_M_holdsBytes_18 : decode c_M_holdsBytes 18 = .ok (.iconst 1, 1) := by decide +kernel
theorem d_M_holdsBytes_19 : decode c_M_holdsBytes 19 = .ok (.goto 4, 3) := by decide +kernel
theorem d_M_holdsBytes_22 : decode c_M_holdsBytes 22 = .ok (.iconst 0, 1) := by decide +kernel
theorem d_M_holdsBytes_23 : decode c_M_holdsBytes 23 = .ok (.ireturn, 1) := by decide +kernel
theorem d_M_count_0 : decode c_M_count 0 = .ok (.aload_n 0, 1) := by decide +kernel
theorem d_M_count_1 : decode c_M_count 1 = .ok (.iload_n 1, 1) := by decide +kernel
theorem d_M_count_2 : decode c_M_count 2 = .ok (.invokevirtual 64, 3) := by decide +kernel
theorem d_M_count_5 : decode c_M_count 5 = .ok (.iconst 1, 1) := by decide +kernel
theorem d_M_count_6 : decode c_M_count 6 = .ok (.ishr, 1) := by decide +kernel
theorem d_M_count_7 : decode c_M_count 7 = .ok (.ireturn, 1) := by decide +kernel
theorem d_M_holdsSlot_0 : decode c_M_holdsSlot 0 = .ok (.aload_n 0, 1) := by decide +kernel
theorem d_M_holdsSlot_1 : decode c_M_holdsSlot 1 = .ok (.iload_n 1, 1) := by decide +kernel
theorem d_M_holdsSlot_2 : decode c_M_holdsSlot 2 = .ok (.invokevirtual 67, 3) := by decide +kernel
theorem d_M_holdsSlot_5 : decode c_M_holdsSlot 5 = .ok (.ifCond .eq 20, 3) := by decide +kernel
theorem d_M_holdsSlot_8 : decode c_M_holdsSlot 8 = .ok (.iload_n 2, 1) := by decide +kernel
theorem d_M_holdsSlot_9 : decode c_M_holdsSlot 9 = .ok (.ifCond .lt 16, 3) := by decide +kernel
theorem d_M_holdsSlot_12 : decode c_M_holdsSlot 12 = .ok (.iload_n 2, 1) := by decide +kernel
theorem d_M_holdsSlot_13 : decode c_M_holdsSlot 13 = .ok (.aload_n 0, 1) := by decide +kernel
theorem d_M_holdsSlot_14 : decode c_M_holdsSlot 14 = .ok (.iload_n 1, 1) := by decide +kernel
theorem d_M_holdsSlot_15 : decode c_M_holdsSlot 15 = .ok (.invokevirtual 70, 3) := by decide +kernel
theorem d_M_holdsSlot_18 : decode c_M_holdsSlot 18 = .ok (.if_icmp .ge 7, 3) := by decide +kernel
theorem d_M_holdsSlot_21 : decode c_M_holdsSlot 21 = .ok (.iconst 1, 1) := by decide +kernel
theorem d_M_holdsSlot_22 : decode c_M_holdsSlot 22 = .ok (.goto 4, 3) := by decide +kernel
theorem d_M_holdsSlot_25 : decode c_M_holdsSlot 25 = .ok (.iconst 0, 1) := by decide +kernel
theorem d_M_holdsSlot_26 : decode c_M_holdsSlot 26 = .ok (.ireturn, 1) := by decide +kernel
theorem d_M_identity_0 : decode c_M_identity 0 = .ok (.aload_n 0, 1) := by decide +kernel
theorem d_M_identity_1 : decode c_M_identity 1 = .ok (.aload_n 0, 1) := by decide +kernel
theorem d_M_identity_2 : decode c_M_identity 2 = .ok (.iload_n 1, 1) := by decide +kernel
theorem d_M_identity_3 : decode c_M_identity 3 = .ok (.invokevirtual 55, 3) := by decide +kernel
theorem d_M_identity_6 : decode c_M_identity 6 = .ok (.iconst 1, 1) := by decide +kernel
theorem d_M_identity_7 : decode c_M_identity 7 = .ok (.iadd, 1) := by decide +kernel
theorem d_M_identity_8 : decode c_M_identity 8 = .ok (.invokevirtual 58, 3) := by decide +kernel
theorem d_M_identity_11 : decode c_M_identity 11 = .ok (.ireturn, 1) := by decide +kernel
theorem d_M_itsClass_0 : decode c_M_itsClass 0 = .ok (.aload_n 0, 1) := by decide +kernel
theorem d_M_itsClass_1 : decode c_M_itsClass 1 = .ok (.aload_n 0, 1) := by decide +kernel
theorem d_M_itsClass_2 : decode c_M_itsClass 2 = .ok (.iload_n 1, 1) := by decide +kernel
theorem d_M_itsClass_3 : decode c_M_itsClass 3 = .ok (.invokevirtual 55, 3) := by decide +kernel
theorem d_M_itsClass_6 : decode c_M_itsClass 6 = .ok (.iconst 2, 1) := by decide +kernel
theorem d_M_itsClass_7 : decode c_M_itsClass 7 = .ok (.iadd, 1) := by decide +kernel
theorem d_M_itsClass_8 : decode c_M_itsClass 8 = .ok (.invokevirtual 58, 3) := by decide +kernel
theorem d_M_itsClass_11 : decode c_M_itsClass 11 = .ok (.ireturn, 1) := by decide +kernel
theorem d_M_setItsClass_0 : decode c_M_setItsClass 0 = .ok (.aload_n 0, 1) := by decide +kernel
theorem d_M_setItsClass_1 : decode c_M_setItsClass 1 = .ok (.aload_n 0, 1) := by decide +kernel
theorem d_M_setItsClass_2 : decode c_M_setItsClass 2 = .ok (.iload_n 1, 1) := by decide +kernel
theorem d_M_setItsClass_3 : decode c_M_setItsClass 3 = .ok (.invokevirtual 55, 3) := by decide +kernel
theorem d_M_setItsClass_6 : decode c_M_setItsClass 6 = .ok (.iconst 2, 1) := by decide +kernel
theorem d_M_setItsClass_7 : decode c_M_setItsClass 7 = .ok (.iadd, 1) := by decide +kernel
theorem d_M_setItsClass_8 : decode c_M_setItsClass 8 = .ok (.iload_n 2, 1) := by decide +kernel
theorem d_M_setItsClass_9 : decode c_M_setItsClass 9 = .ok (.invokevirtual 73, 3) := by decide +kernel
theorem d_M_setItsClass_12 : decode c_M_setItsClass 12 = .ok (.return_, 1) := by decide +kernel
theorem d_M_slot_0 : decode c_M_slot 0 = .ok (.aload_n 0, 1) := by decide +kernel
theorem d_M_slot_1 : decode c_M_slot 1 = .ok (.aload_n 0, 1) := by decide +kernel
theorem d_M_slot_2 : decode c_M_slot 2 = .ok (.iload_n 1, 1) := by decide +kernel
theorem d_M_slot_3 : decode c_M_slot 3 = .ok (.invokevirtual 55, 3) := by decide +kernel
theorem d_M_slot_6 : decode c_M_slot 6 = .ok (.iconst 4, 1) := by decide +kernel
theorem d_M_slot_7 : decode c_M_slot 7 = .ok (.iadd, 1) := by decide +kernel
theorem d_M_slot_8 : decode c_M_slot 8 = .ok (.iload_n 2, 1) := by decide +kernel
theorem d_M_slot_9 : decode c_M_slot 9 = .ok (.iadd, 1) := by decide +kernel
theorem d_M_slot_10 : decode c_M_slot 10 = .ok (.invokevirtual 58, 3) := by decide +kernel
theorem d_M_slot_13 : decode c_M_slot 13 = .ok (.ireturn, 1) := by decide +kernel
theorem d_M_setSlot_0 : decode c_M_setSlot 0 = .ok (.aload_n 0, 1) := by decide +kernel
theorem d_M_setSlot_1 : decode c_M_setSlot 1 = .ok (.aload_n 0, 1) := by decide +kernel
theorem d_M_setSlot_2 : decode c_M_setSlot 2 = .ok (.iload_n 1, 1) := by decide +kernel
theorem d_M_setSlot_3 : decode c_M_setSlot 3 = .ok (.invokevirtual 55, 3) := by decide +kernel
theorem d_M_setSlot_6 : decode c_M_setSlot 6 = .ok (.iconst 4, 1) := by decide +kernel
theorem d_M_setSlot_7 : decode c_M_setSlot 7 = .ok (.iadd, 1) := by decide +kernel
theorem d_M_setSlot_8 : decode c_M_setSlot 8 = .ok (.iload_n 2, 1) := by decide +kernel
theorem d_M_setSlot_9 : decode c_M_setSlot 9 = .ok (.iadd, 1) := by decide +kernel
theorem d_M_setSlot_10 : decode c_M_setSlot 10 = .ok (.iload_n 3, 1) := by decide +kernel
theorem d_M_setSlot_11 : decode c_M_setSlot 11 = .ok (.invokevirtual 73, 3) := by decide +kernel
theorem d_M_setSlot_14 : decode c_M_setSlot 14 = .ok (.return_, 1) := by decide +kernel
theorem d_M_oneByte_0 : decode c_M_oneByte 0 = .ok (.aload_n 0, 1) := by decide +kernel
theorem d_M_oneByte_1 : decode c_M_oneByte 1 = .ok (.aload_n 0, 1) := by decide +kernel
theorem d_M_oneByte_2 : decode c_M_oneByte 2 = .ok (.iload_n 1, 1) := by decide +kernel
theorem d_M_oneByte_3 : decode c_M_oneByte 3 = .ok (.invokevirtual 55, 3) := by decide +kernel
theorem d_M_oneByte_6 : decode c_M_oneByte 6 = .ok (.iconst 4, 1) := by decide +kernel
theorem d_M_oneByte_7 : decode c_M_oneByte 7 = .ok (.iadd, 1) := by decide +kernel
theorem d_M_oneByte_8 : decode c_M_oneByte 8 = .ok (.iload_n 2, 1) := by decide +kernel
theorem d_M_oneByte_9 : decode c_M_oneByte 9 = .ok (.invokevirtual 77, 3) := by decide +kernel
theorem d_M_oneByte_12 : decode c_M_oneByte 12 = .ok (.ireturn, 1) := by decide +kernel
theorem d_M_byteFrom_0 : decode c_M_byteFrom 0 = .ok (.aload_n 0, 1) := by decide +kernel
theorem d_M_byteFrom_1 : decode c_M_byteFrom 1 = .ok (.iload_n 1, 1) := by decide +kernel
theorem d_M_byteFrom_2 : decode c_M_byteFrom 2 = .ok (.iload_n 2, 1) := by decide +kernel
theorem d_M_byteFrom_3 : decode c_M_byteFrom 3 = .ok (.iconst 2, 1) := by decide +kernel
theorem d_M_byteFrom_4 : decode c_M_byteFrom 4 = .ok (.ishr, 1) := by decide +kernel
theorem d_M_byteFrom_5 : decode c_M_byteFrom 5 = .ok (.iadd, 1) := by decide +kernel
theorem d_M_byteFrom_6 : decode c_M_byteFrom 6 = .ok (.invokevirtual 58, 3) := by decide +kernel
theorem d_M_byteFrom_9 : decode c_M_byteFrom 9 = .ok (.iload_n 2, 1) := by decide +kernel
theorem d_M_byteFrom_10 : decode c_M_byteFrom 10 = .ok (.invokestatic 80, 3) := by decide +kernel
theorem d_M_byteFrom_13 : decode c_M_byteFrom 13 = .ok (.iushr, 1) := by decide +kernel
theorem d_M_byteFrom_14 : decode c_M_byteFrom 14 = .ok (.sipush 255, 3) := by decide +kernel
theorem d_M_byteFrom_17 : decode c_M_byteFrom 17 = .ok (.iand, 1) := by decide +kernel
theorem d_M_byteFrom_18 : decode c_M_byteFrom 18 = .ok (.ireturn, 1) := by decide +kernel
theorem d_M_sumOfBytes_0 : decode c_M_sumOfBytes 0 = .ok (.aload_n 0, 1) := by decide +kernel
theorem d_M_sumOfBytes_1 : decode c_M_sumOfBytes 1 = .ok (.iload_n 1, 1) := by decide +kernel
theorem d_M_sumOfBytes_2 : decode c_M_sumOfBytes 2 = .ok (.invokevirtual 55, 3) := by decide +kernel
theorem d_M_sumOfBytes_5 : decode c_M_sumOfBytes 5 = .ok (.iconst 4, 1) := by decide +kernel
theorem d_M_sumOfBytes_6 : decode c_M_sumOfBytes 6 = .ok (.iadd, 1) := by decide +kernel
theorem d_M_sumOfBytes_7 : decode c_M_sumOfBytes 7 = .ok (.istore_n 2, 1) := by decide +kernel
theorem d_M_sumOfBytes_8 : decode c_M_sumOfBytes 8 = .ok (.aload_n 0, 1) := by decide +kernel
theorem d_M_sumOfBytes_9 : decode c_M_sumOfBytes 9 = .ok (.iload_n 1, 1) := by decide +kernel
theorem d_M_sumOfBytes_10 : decode c_M_sumOfBytes 10 = .ok (.invokevirtual 70, 3) := by decide +kernel
theorem d_M_sumOfBytes_13 : decode c_M_sumOfBytes 13 = .ok (.istore_n 3, 1) := by decide +kernel
theorem d_M_sumOfBytes_14 : decode c_M_sumOfBytes 14 = .ok (.bipush 7, 2) := by decide +kernel
theorem d_M_sumOfBytes_16 : decode c_M_sumOfBytes 16 = .ok (.istore 4, 2) := by decide +kernel
theorem d_M_sumOfBytes_18 : decode c_M_sumOfBytes 18 = .ok (.iconst 0, 1) := by decide +kernel
theorem d_M_sumOfBytes_19 : decode c_M_sumOfBytes 19 = .ok (.istore 5, 2) := by decide +kernel
theorem d_M_sumOfBytes_21 : decode c_M_sumOfBytes 21 = .ok (.iload 5, 2) := by decide +kernel
theorem d_M_sumOfBytes_23 : decode c_M_sumOfBytes 23 = .ok (.iload_n 3, 1) := by decide +kernel
theorem d_M_sumOfBytes_24 : decode c_M_sumOfBytes 24 = .ok (.if_icmp .ge 24, 3) := by decide +kernel
theorem d_M_sumOfBytes_27 : decode c_M_sumOfBytes 27 = .ok (.bipush 31, 2) := by decide +kernel
theorem d_M_sumOfBytes_29 : decode c_M_sumOfBytes 29 = .ok (.iload 4, 2) := by decide +kernel
theorem d_M_sumOfBytes_31 : decode c_M_sumOfBytes 31 = .ok (.imul, 1) := by decide +kernel
theorem d_M_sumOfBytes_32 : decode c_M_sumOfBytes 32 = .ok (.aload_n 0, 1) := by decide +kernel
theorem d_M_sumOfBytes_33 : decode c_M_sumOfBytes 33 = .ok (.iload_n 2, 1) := by decide +kernel
theorem d_M_sumOfBytes_34 : decode c_M_sumOfBytes 34 = .ok (.iload 5, 2) := by decide +kernel
theorem d_M_sumOfBytes_36 : decode c_M_sumOfBytes 36 = .ok (.invokevirtual 77, 3) := by decide +kernel
theorem d_M_sumOfBytes_39 : decode c_M_sumOfBytes 39 = .ok (.iadd, 1) := by decide +kernel
theorem d_M_sumOfBytes_40 : decode c_M_sumOfBytes 40 = .ok (.istore 4, 2) := by decide +kernel
theorem d_M_sumOfBytes_42 : decode c_M_sumOfBytes 42 = .ok (.iinc 5 1, 3) := by decide +kernel
theorem d_M_sumOfBytes_45 : decode c_M_sumOfBytes 45 = .ok (.goto (-24), 3) := by decide +kernel
theorem d_M_sumOfBytes_48 : decode c_M_sumOfBytes 48 = .ok (.iload 4, 2) := by decide +kernel
theorem d_M_sumOfBytes_50 : decode c_M_sumOfBytes 50 = .ok (.ireturn, 1) := by decide +kernel
theorem d_M_setOneByte_0 : decode c_M_setOneByte 0 = .ok (.aload_n 0, 1) := by decide +kernel
theorem d_M_setOneByte_1 : decode c_M_setOneByte 1 = .ok (.iload_n 1, 1) := by decide +kernel
theorem d_M_setOneByte_2 : decode c_M_setOneByte 2 = .ok (.invokevirtual 55, 3) := by decide +kernel
theorem d_M_setOneByte_5 : decode c_M_setOneByte 5 = .ok (.iconst 4, 1) := by decide +kernel
theorem d_M_setOneByte_6 : decode c_M_setOneByte 6 = .ok (.iadd, 1) := by decide +kernel
theorem d_M_setOneByte_7 : decode c_M_setOneByte 7 = .ok (.iload_n 2, 1) := by decide +kernel
theorem d_M_setOneByte_8 : decode c_M_setOneByte 8 = .ok (.iconst 2, 1) := by decide +kernel
theorem d_M_setOneByte_9 : decode c_M_setOneByte 9 = .ok (.ishr, 1) := by decide +kernel
theorem d_M_setOneByte_10 : decode c_M_setOneByte 10 = .ok (.iadd, 1) := by decide +kernel
theorem d_M_setOneByte_11 : decode c_M_setOneByte 11 = .ok (.istore 4, 2) := by decide +kernel
theorem d_M_setOneByte_13 : decode c_M_setOneByte 13 = .ok (.aload_n 0, 1) := by decide +kernel
theorem d_M_setOneByte_14 : decode c_M_setOneByte 14 = .ok (.iload 4, 2) := by decide +kernel
theorem d_M_setOneByte_16 : decode c_M_setOneByte 16 = .ok (.invokevirtual 58, 3) := by decide +kernel
theorem d_M_setOneByte_19 : decode c_M_setOneByte 19 = .ok (.sipush 255, 3) := by decide +kernel
theorem d_M_setOneByte_22 : decode c_M_setOneByte 22 = .ok (.iload_n 2, 1) := by decide +kernel
theorem d_M_setOneByte_23 : decode c_M_setOneByte 23 = .ok (.invokestatic 80, 3) := by decide +kernel
theorem d_M_setOneByte_26 : decode c_M_setOneByte 26 = .ok (.ishl, 1) := by decide +kernel
theorem d_M_setOneByte_27 : decode c_M_setOneByte 27 = .ok (.iconst (-1), 1) := by decide +kernel
theorem d_M_setOneByte_28 : decode c_M_setOneByte 28 = .ok (.ixor, 1) := by decide +kernel
theorem d_M_setOneByte_29 : decode c_M_setOneByte 29 = .ok (.iand, 1) := by decide +kernel
theorem d_M_setOneByte_30 : decode c_M_setOneByte 30 = .ok (.istore 5, 2) := by decide +kernel
theorem d_M_setOneByte_32 : decode c_M_setOneByte 32 = .ok (.aload_n 0, 1) := by decide +kernel
theorem d_M_setOneByte_33 : decode c_M_setOneByte 33 = .ok (.iload 4, 2) := by decide +kernel
theorem d_M_setOneByte_35 : decode c_M_setOneByte 35 = .ok (.iload 5, 2) := by decide +kernel
theorem d_M_setOneByte_37 : decode c_M_setOneByte 37 = .ok (.iload_n 3, 1) := by decide +kernel
theorem d_M_setOneByte_38 : decode c_M_setOneByte 38 = .ok (.iload_n 2, 1) := by decide +kernel
theorem d_M_setOneByte_39 : decode c_M_setOneByte 39 = .ok (.invokestatic 80, 3) := by decide +kernel
theorem d_M_setOneByte_42 : decode c_M_setOneByte 42 = .ok (.ishl, 1) := by decide +kernel
theorem d_M_setOneByte_43 : decode c_M_setOneByte 43 = .ok (.ior, 1) := by decide +kernel
theorem d_M_setOneByte_44 : decode c_M_setOneByte 44 = .ok (.invokevirtual 83, 3) := by decide +kernel
theorem d_M_setOneByte_47 : decode c_M_setOneByte 47 = .ok (.return_, 1) := by decide +kernel
theorem d_M_shiftOf_0 : decode c_M_shiftOf 0 = .ok (.bipush 8, 2) := by decide +kernel
theorem d_M_shiftOf_2 : decode c_M_shiftOf 2 = .ok (.iload_n 0, 1) := by decide +kernel
theorem d_M_shiftOf_3 : decode c_M_shiftOf 3 = .ok (.iconst 3, 1) := by decide +kernel
theorem d_M_shiftOf_4 : decode c_M_shiftOf 4 = .ok (.iand, 1) := by decide +kernel
theorem d_M_shiftOf_5 : decode c_M_shiftOf 5 = .ok (.imul, 1) := by decide +kernel
theorem d_M_shiftOf_6 : decode c_M_shiftOf 6 = .ok (.ireturn, 1) := by decide +kernel
theorem d_M_overwrite_0 : decode c_M_overwrite 0 = .ok (.aload_n 0, 1) := by decide +kernel
theorem d_M_overwrite_1 : decode c_M_overwrite 1 = .ok (.aload_n 0, 1) := by decide +kernel
theorem d_M_overwrite_2 : decode c_M_overwrite 2 = .ok (.iload_n 1, 1) := by decide +kernel
theorem d_M_overwrite_3 : decode c_M_overwrite 3 = .ok (.invokevirtual 58, 3) := by decide +kernel
theorem d_M_overwrite_6 : decode c_M_overwrite 6 = .ok (.invokevirtual 86, 3) := by decide +kernel
theorem d_M_overwrite_9 : decode c_M_overwrite 9 = .ok (.aload_n 0, 1) := by decide +kernel
theorem d_M_overwrite_10 : decode c_M_overwrite 10 = .ok (.iload_n 1, 1) := by decide +kernel
theorem d_M_overwrite_11 : decode c_M_overwrite 11 = .ok (.iload_n 2, 1) := by decide +kernel
theorem d_M_overwrite_12 : decode c_M_overwrite 12 = .ok (.invokevirtual 83, 3) := by decide +kernel
theorem d_M_overwrite_15 : decode c_M_overwrite 15 = .ok (.return_, 1) := by decide +kernel
theorem d_M_letGo_0 : decode c_M_letGo 0 = .ok (.iload_n 1, 1) := by decide +kernel
theorem d_M_letGo_1 : decode c_M_letGo 1 = .ok (.invokestatic 61, 3) := by decide +kernel
theorem d_M_letGo_4 : decode c_M_letGo 4 = .ok (.ifCond .eq 8, 3) := by decide +kernel
theorem d_M_letGo_7 : decode c_M_letGo 7 = .ok (.aload_n 0, 1) := by decide +kernel
theorem d_M_letGo_8 : decode c_M_letGo 8 = .ok (.iconst 0, 1) := by decide +kernel
theorem d_M_letGo_9 : decode c_M_letGo 9 = .ok (.putfield 29, 3) := by decide +kernel
theorem d_M_letGo_12 : decode c_M_letGo 12 = .ok (.return_, 1) := by decide +kernel
theorem d_M_freeWords_0 : decode c_M_freeWords 0 = .ok (.aload_n 0, 1) := by decide +kernel
theorem d_M_freeWords_1 : decode c_M_freeWords 1 = .ok (.getfield 7, 3) := by decide +kernel
theorem d_M_freeWords_4 : decode c_M_freeWords 4 = .ok (.arraylength, 1) := by decide +kernel
theorem d_M_freeWords_5 : decode c_M_freeWords 5 = .ok (.aload_n 0, 1) := by decide +kernel
theorem d_M_freeWords_6 : decode c_M_freeWords 6 = .ok (.getfield 90, 3) := by decide +kernel
theorem d_M_freeWords_9 : decode c_M_freeWords 9 = .ok (.isub, 1) := by decide +kernel
theorem d_M_freeWords_10 : decode c_M_freeWords 10 = .ok (.ireturn, 1) := by decide +kernel
theorem d_M_freeEntries_0 : decode c_M_freeEntries 0 = .ok (.aload_n 0, 1) := by decide +kernel
theorem d_M_freeEntries_1 : decode c_M_freeEntries 1 = .ok (.getfield 25, 3) := by decide +kernel
theorem d_M_freeEntries_4 : decode c_M_freeEntries 4 = .ok (.ireturn, 1) := by decide +kernel
theorem d_M_build_0 : decode c_M_build 0 = .ok (.iconst 4, 1) := by decide +kernel
theorem d_M_build_1 : decode c_M_build 1 = .ok (.iload_n 2, 1) := by decide +kernel
theorem d_M_build_2 : decode c_M_build 2 = .ok (.invokestatic 93, 3) := by decide +kernel
theorem d_M_build_5 : decode c_M_build 5 = .ok (.iadd, 1) := by decide +kernel
theorem d_M_build_6 : decode c_M_build 6 = .ok (.istore 4, 2) := by decide +kernel
theorem d_M_build_8 : decode c_M_build 8 = .ok (.aload_n 0, 1) := by decide +kernel
theorem d_M_build_9 : decode c_M_build 9 = .ok (.iload 4, 2) := by decide +kernel
theorem d_M_build_11 : decode c_M_build 11 = .ok (.invokevirtual 96, 3) := by decide +kernel
theorem d_M_build_14 : decode c_M_build 14 = .ok (.ifCond .ne 8, 3) := by decide +kernel
theorem d_M_build_17 : decode c_M_build 17 = .ok (.aload_n 0, 1) := by decide +kernel
theorem d_M_build_18 : decode c_M_build 18 = .ok (.aload_n 3, 1) := by decide +kernel
theorem d_M_build_19 : decode c_M_build 19 = .ok (.invokevirtual 99, 3) := by decide +kernel
theorem d_M_build_22 : decode c_M_build 22 = .ok (.aload_n 0, 1) := by decide +kernel
theorem d_M_build_23 : decode c_M_build 23 = .ok (.iload 4, 2) := by decide +kernel
theorem d_M_build_25 : decode c_M_build 25 = .ok (.invokevirtual 96, 3) := by decide +kernel
theorem d_M_build_28 : decode c_M_build 28 = .ok (.ifCond .ne 5, 3) := by decide +kernel
theorem d_M_build_31 : decode c_M_build 31 = .ok (.iconst 0, 1) := by decide +kernel
theorem d_M_build_32 : decode c_M_build 32 = .ok (.ireturn, 1) := by decide +kernel
theorem d_M_build_33 : decode c_M_build 33 = .ok (.aload_n 0, 1) := by decide +kernel
theorem d_M_build_34 : decode c_M_build 34 = .ok (.dup, 1) := by decide +kernel
theorem d_M_build_35 : decode c_M_build 35 = .ok (.getfield 25, 3) := by decide +kernel
theorem d_M_build_38 : decode c_M_build 38 = .ok (.iconst 1, 1) := by decide +kernel
theorem d_M_build_39 : decode c_M_build 39 = .ok (.isub, 1) := by decide +kernel
theorem d_M_build_40 : decode c_M_build 40 = .ok (.putfield 25, 3) := by decide +kernel
theorem d_M_build_43 : decode c_M_build 43 = .ok (.aload_n 0, 1) := by decide +kernel
theorem d_M_build_44 : decode c_M_build 44 = .ok (.getfield 16, 3) := by decide +kernel
theorem d_M_build_47 : decode c_M_build 47 = .ok (.aload_n 0, 1) := by decide +kernel
theorem d_M_build_48 : decode c_M_build 48 = .ok (.getfield 25, 3) := by decide +kernel
theorem d_M_build_51 : decode c_M_build 51 = .ok (.iaload, 1) := by decide +kernel
theorem d_M_build_52 : decode c_M_build 52 = .ok (.istore 5, 2) := by decide +kernel
theorem d_M_build_54 : decode c_M_build 54 = .ok (.aload_n 0, 1) := by decide +kernel
theorem d_M_build_55 : decode c_M_build 55 = .ok (.getfield 90, 3) := by decide +kernel
theorem d_M_build_58 : decode c_M_build 58 = .ok (.istore 6, 2) := by decide +kernel
theorem d_M_build_60 : decode c_M_build 60 = .ok (.iload 6, 2) := by decide +kernel
theorem d_M_build_62 : decode c_M_build 62 = .ok (.iload 4, 2) := by decide +kernel
theorem d_M_build_64 : decode c_M_build 64 = .ok (.iadd, 1) := by decide +kernel
theorem d_M_build_65 : decode c_M_build 65 = .ok (.istore 7, 2) := by decide +kernel
theorem d_M_build_67 : decode c_M_build 67 = .ok (.aload_n 0, 1) := by decide +kernel
theorem d_M_build_68 : decode c_M_build 68 = .ok (.dup, 1) := by decide +kernel
theorem d_M_build_69 : decode c_M_build 69 = .ok (.getfield 103, 3) := by decide +kernel
theorem d_M_build_72 : decode c_M_build 72 = .ok (.iconst 1, 1) := by decide +kernel
theorem d_M_build_73 : decode c_M_build 73 = .ok (.iadd, 1) := by decide +kernel
theorem d_M_build_74 : decode c_M_build 74 = .ok (.putfield 103, 3) := by decide +kernel
theorem d_M_build_77 : decode c_M_build 77 = .ok (.aload_n 0, 1) := by decide +kernel
theorem d_M_build_78 : decode c_M_build 78 = .ok (.iload 5, 2) := by decide +kernel
theorem d_M_build_80 : decode c_M_build 80 = .ok (.iload 6, 2) := by decide +kernel
theorem d_M_build_82 : decode c_M_build 82 = .ok (.invokevirtual 106, 3) := by decide +kernel
theorem d_M_build_85 : decode c_M_build 85 = .ok (.aload_n 0, 1) := by decide +kernel
theorem d_M_build_86 : decode c_M_build 86 = .ok (.getfield 7, 3) := by decide +kernel
theorem d_M_build_89 : decode c_M_build 89 = .ok (.iload 6, 2) := by decide +kernel
theorem d_M_build_91 : decode c_M_build 91 = .ok (.iconst 1, 1) := by decide +kernel
theorem d_M_build_92 : decode c_M_build 92 = .ok (.iadd, 1) := by decide +kernel
theorem d_M_build_93 : decode c_M_build 93 = .ok (.aload_n 0, 1) := by decide +kernel
theorem d_M_build_94 : decode c_M_build 94 = .ok (.getfield 103, 3) := by decide +kernel
theorem d_M_build_97 : decode c_M_build 97 = .ok (.iastore, 1) := by decide +kernel
theorem d_M_build_98 : decode c_M_build 98 = .ok (.aload_n 0, 1) := by decide +kernel
theorem d_M_build_99 : decode c_M_build 99 = .ok (.getfield 7, 3) := by decide +kernel
theorem d_M_build_102 : decode c_M_build 102 = .ok (.iload 6, 2) := by decide +kernel
theorem d_M_build_104 : decode c_M_build 104 = .ok (.iconst 2, 1) := by decide +kernel
theorem d_M_build_105 : decode c_M_build 105 = .ok (.iadd, 1) := by decide +kernel
theorem d_M_build_106 : decode c_M_build 106 = .ok (.iload_n 1, 1) := by decide +kernel
theorem d_M_build_107 : decode c_M_build 107 = .ok (.iastore, 1) := by decide +kernel
theorem d_M_build_108 : decode c_M_build 108 = .ok (.aload_n 0, 1) := by decide +kernel
theorem d_M_build_109 : decode c_M_build 109 = .ok (.getfield 7, 3) := by decide +kernel
theorem d_M_build_112 : decode c_M_build 112 = .ok (.iload 6, 2) := by decide +kernel
theorem d_M_build_114 : decode c_M_build 114 = .ok (.iconst 3, 1) := by decide +kernel
theorem d_M_build_115 : decode c_M_build 115 = .ok (.iadd, 1) := by decide +kernel
theorem d_M_build_116 : decode c_M_build 116 = .ok (.iload_n 2, 1) := by decide +kernel
theorem d_M_build_117 : decode c_M_build 117 = .ok (.iastore, 1) := by decide +kernel
theorem d_M_build_118 : decode c_M_build 118 = .ok (.iload 6, 2) := by decide +kernel
theorem d_M_build_120 : decode c_M_build 120 = .ok (.iconst 4, 1) := by decide +kernel
theorem d_M_build_121 : decode c_M_build 121 = .ok (.iadd, 1) := by decide +kernel
theorem d_M_build_122 : decode c_M_build 122 = .ok (.istore 8, 2) := by decide +kernel
theorem d_M_build_124 : decode c_M_build 124 = .ok (.iload 8, 2) := by decide +kernel
theorem d_M_build_126 : decode c_M_build 126 = .ok (.iload 7, 2) := by decide +kernel
theorem d_M_build_128 : decode c_M_build 128 = .ok (.if_icmp .ge 17, 3) := by decide +kernel
theorem d_M_build_131 : decode c_M_build 131 = .ok (.aload_n 0, 1) := by decide +kernel
theorem d_M_build_132 : decode c_M_build 132 = .ok (.getfield 7, 3) := by decide +kernel
theorem d_M_build_135 : decode c_M_build 135 = .ok (.iload 8, 2) := by decide +kernel
theorem d_M_build_137 : decode c_M_build 137 = .ok (.iconst 0, 1) := by decide +kernel
theorem d_M_build_138 : decode c_M_build 138 = .ok (.iastore, 1) := by decide +kernel
theorem d_M_build_139 : decode c_M_build 139 = .ok (.iinc 8 1, 3) := by decide +kernel
theorem d_M_build_142 : decode c_M_build 142 = .ok (.goto (-18), 3) := by decide +kernel
theorem d_M_build_145 : decode c_M_build 145 = .ok (.aload_n 0, 1) := by decide +kernel
theorem d_M_build_146 : decode c_M_build 146 = .ok (.iload 7, 2) := by decide +kernel
theorem d_M_build_148 : decode c_M_build 148 = .ok (.putfield 90, 3) := by decide +kernel
theorem d_M_build_151 : decode c_M_build 151 = .ok (.iload 5, 2) := by decide +kernel
theorem d_M_build_153 : decode c_M_build 153 = .ok (.invokestatic 109, 3) := by decide +kernel
theorem d_M_build_156 : decode c_M_build 156 = .ok (.ireturn, 1) := by decide +kernel
theorem d_M_fillLike_0 : decode c_M_fillLike 0 = .ok (.aload_n 0, 1) := by decide +kernel
theorem d_M_fillLike_1 : decode c_M_fillLike 1 = .ok (.aload_n 0, 1) := by decide +kernel
theorem d_M_fillLike_2 : decode c_M_fillLike 2 = .ok (.iload_n 2, 1) := by decide +kernel
theorem d_M_fillLike_3 : decode c_M_fillLike 3 = .ok (.invokevirtual 55, 3) := by decide +kernel
theorem d_M_fillLike_6 : decode c_M_fillLike 6 = .ok (.iconst 4, 1) := by decide +kernel
theorem d_M_fillLike_7 : decode c_M_fillLike 7 = .ok (.iadd, 1) := by decide +kernel
theorem d_M_fillLike_8 : decode c_M_fillLike 8 = .ok (.aload_n 0, 1) := by decide +kernel
theorem d_M_fillLike_9 : decode c_M_fillLike 9 = .ok (.iload_n 1, 1) := by decide +kernel
theorem d_M_fillLike_10 : decode c_M_fillLike 10 = .ok (.invokevirtual 55, 3) := by decide +kernel
theorem d_M_fillLike_13 : decode c_M_fillLike 13 = .ok (.iconst 4, 1) := by decide +kernel
theorem d_M_fillLike_14 : decode c_M_fillLike 14 = .ok (.iadd, 1) := by decide +kernel
theorem d_M_fillLike_15 : decode c_M_fillLike 15 = .ok (.aload_n 0, 1) := by decide +kernel
theorem d_M_fillLike_16 : decode c_M_fillLike 16 = .ok (.iload_n 2, 1) := by decide +kernel
theorem d_M_fillLike_17 : decode c_M_fillLike 17 = .ok (.invokevirtual 64, 3) := by decide +kernel
theorem d_M_fillLike_20 : decode c_M_fillLike 20 = .ok (.invokestatic 93, 3) := by decide +kernel
theorem d_M_fillLike_23 : decode c_M_fillLike 23 = .ok (.invokevirtual 112, 3) := by decide +kernel
theorem d_M_fillLike_26 : decode c_M_fillLike 26 = .ok (.return_, 1) := by decide +kernel
theorem d_M_fits_0 : decode c_M_fits 0 = .ok (.aload_n 0, 1) := by decide +kernel
theorem d_M_fits_1 : decode c_M_fits 1 = .ok (.getfield 25, 3) := by decide +kernel
theorem d_M_fits_4 : decode c_M_fits 4 = .ok (.ifCond .le 40, 3) := by decide +kernel
theorem d_M_fits_7 : decode c_M_fits 7 = .ok (.aload_n 0, 1) := by decide +kernel
theorem d_M_fits_8 : decode c_M_fits 8 = .ok (.getfield 25, 3) := by decide +kernel
theorem d_M_fits_11 : decode c_M_fits 11 = .ok (.aload_n 0, 1) := by decide +kernel
theorem d_M_fits_12 : decode c_M_fits 12 = .ok (.getfield 16, 3) := by decide +kernel
theorem d_M_fits_15 : decode c_M_fits 15 = .ok (.arraylength, 1) := by decide +kernel
theorem d_M_fits_16 : decode c_M_fits 16 = .ok (.if_icmp .gt 28, 3) := by decide +kernel
theorem d_M_fits_19 : decode c_M_fits 19 = .ok (.aload_n 0, 1) := by decide +kernel
theorem d_M_fits_20 : decode c_M_fits 20 = .ok (.getfield 90, 3) := by decide +kernel
theorem d_M_fits_23 : decode c_M_fits 23 = .ok (.ifCond .lt 21, 3) := by decide +kernel
theorem d_M_fits_26 : decode c_M_fits 26 = .ok (.iload_n 1, 1) := by decide +kernel
theorem d_M_fits_27 : decode c_M_fits 27 = .ok (.aload_n 0, 1) := by decide +kernel
theorem d_M_fits_28 : decode c_M_fits 28 = .ok (.getfield 7, 3) := by decide +kernel
theorem d_M_fits_31 : decode c_M_fits 31 = .ok (.arraylength, 1) := by decide +kernel
theorem d_M_fits_32 : decode c_M_fits 32 = .ok (.aload_n 0, 1) := by decide +kernel
theorem d_M_fits_33 : decode c_M_fits 33 = .ok (.getfield 90, 3) := by decide +kernel
theorem d_M_fits_36 : decode c_M_fits 36 = .ok (.isub, 1) := by decide +kernel
theorem d_M_fits_37 : decode c_M_fits 37 = .ok (.if_icmp .gt 7, 3) := by decide +kernel
theorem d_M_fits_40 : decode c_M_fits 40 = .ok (.iconst 1, 1) := by decide +kernel
theorem d_M_fits_41 : decode c_M_fits 41 = .ok (.goto 4, 3) := by decide +kernel
theorem d_M_fits_44 : decode c_M_fits 44 = .ok (.iconst 0, 1) := by decide +kernel
theorem d_M_fits_45 : decode c_M_fits 45 = .ok (.ireturn, 1) := by decide +kernel
theorem d_M_giveBackEntry_0 : decode c_M_giveBackEntry 0 = .ok (.aload_n 0, 1) := by decide +kernel
theorem d_M_giveBackEntry_1 : decode c_M_giveBackEntry 1 = .ok (.getfield 25, 3) := by decide +kernel
theorem d_M_giveBackEntry_4 : decode c_M_giveBackEntry 4 = .ok (.ifCond .lt 35, 3) := by decide +kernel
theorem d_M_giveBackEntry_7 : decode c_M_giveBackEntry 7 = .ok (.aload_n 0, 1) := by decide +kernel
theorem d_M_giveBackEntry_8 : decode c_M_giveBackEntry 8 = .ok (.getfield 25, 3) := by decide +kernel
theorem d_M_giveBackEntry_11 : decode c_M_giveBackEntry 11 = .ok (.aload_n 0, 1) := by decide +kernel
theorem d_M_giveBackEntry_12 : decode c_M_giveBackEntry 12 = .ok (.getfield 16, 3) := by decide +kernel
theorem d_M_giveBackEntry_15 : decode c_M_giveBackEntry 15 = .ok (.arraylength, 1) := by decide +kernel
theorem d_M_giveBackEntry_16 : decode c_M_giveBackEntry 16 = .ok (.if_icmp .ge 23, 3) := by decide +kernel
theorem d_M_giveBackEntry_19 : decode c_M_giveBackEntry 19 = .ok (.aload_n 0, 1) := by decide +kernel
theorem d_M_giveBackEntry_20 : decode c_M_giveBackEntry 20 = .ok (.getfield 16, 3) := by decide +kernel
theorem d_M_giveBackEntry_23 : decode c_M_giveBackEntry 23 = .ok (.aload_n 0, 1) := by decide +kernel
theorem d_M_giveBackEntry_24 : decode c_M_giveBackEntry 24 = .ok (.getfield 25, 3) := by decide +kernel
theorem d_M_giveBackEntry_27 : decode c_M_giveBackEntry 27 = .ok (.iload_n 1, 1) := by decide +kernel
theorem d_M_giveBackEntry_28 : decode c_M_giveBackEntry 28 = .ok (.iastore, 1) := by decide +kernel
theorem d_M_giveBackEntry_29 : decode c_M_giveBackEntry 29 = .ok (.aload_n 0, 1) := by decide +kernel
theorem d_M_giveBackEntry_30 : decode c_M_giveBackEntry 30 = .ok (.dup, 1) := by decide +kernel
theorem d_M_giveBackEntry_31 : decode c_M_giveBackEntry 31 = .ok (.getfield 25, 3) := by decide +kernel
theorem d_M_giveBackEntry_34 : decode c_M_giveBackEntry 34 = .ok (.iconst 1, 1) := by decide +kernel
theorem d_M_giveBackEntry_35 : decode c_M_giveBackEntry 35 = .ok (.iadd, 1) := by decide +kernel
theorem d_M_giveBackEntry_36 : decode c_M_giveBackEntry 36 = .ok (.putfield 25, 3) := by decide +kernel
theorem d_M_giveBackEntry_39 : decode c_M_giveBackEntry 39 = .ok (.return_, 1) := by decide +kernel
theorem d_M_swap_0 : decode c_M_swap 0 = .ok (.aload_n 0, 1) := by decide +kernel
theorem d_M_swap_1 : decode c_M_swap 1 = .ok (.iload_n 1, 1) := by decide +kernel
theorem d_M_swap_2 : decode c_M_swap 2 = .ok (.invokevirtual 55, 3) := by decide +kernel
theorem d_M_swap_5 : decode c_M_swap 5 = .ok (.istore_n 3, 1) := by decide +kernel
theorem d_M_swap_6 : decode c_M_swap 6 = .ok (.aload_n 0, 1) := by decide +kernel
theorem d_M_swap_7 : decode c_M_swap 7 = .ok (.iload_n 2, 1) := by decide +kernel
theorem d_M_swap_8 : decode c_M_swap 8 = .ok (.invokevirtual 55, 3) := by decide +kernel
theorem d_M_swap_11 : decode c_M_swap 11 = .ok (.istore 4, 2) := by decide +kernel
theorem d_M_swap_13 : decode c_M_swap 13 = .ok (.aload_n 0, 1) := by decide +kernel
theorem d_M_swap_14 : decode c_M_swap 14 = .ok (.iload_n 1, 1) := by decide +kernel
theorem d_M_swap_15 : decode c_M_swap 15 = .ok (.invokestatic 49, 3) := by decide +kernel
theorem d_M_swap_18 : decode c_M_swap 18 = .ok (.iload 4, 2) := by decide +kernel
theorem d_M_swap_20 : decode c_M_swap 20 = .ok (.invokevirtual 106, 3) := by decide +kernel
theorem d_M_swap_23 : decode c_M_swap 23 = .ok (.aload_n 0, 1) := by decide +kernel
theorem d_M_swap_24 : decode c_M_swap 24 = .ok (.iload_n 2, 1) := by decide +kernel
theorem d_M_swap_25 : decode c_M_swap 25 = .ok (.invokestatic 49, 3) := by decide +kernel
theorem d_M_swap_28 : decode c_M_swap 28 = .ok (.iload_n 3, 1) := by decide +kernel
theorem d_M_swap_29 : decode c_M_swap 29 = .ok (.invokevirtual 106, 3) := by decide +kernel
theorem d_M_swap_32 : decode c_M_swap 32 = .ok (.return_, 1) := by decide +kernel
theorem d_M_seat_0 : decode c_M_seat 0 = .ok (.iload_n 1, 1) := by decide +kernel
theorem d_M_seat_1 : decode c_M_seat 1 = .ok (.ifCond .lt 19, 3) := by decide +kernel
theorem d_M_seat_4 : decode c_M_seat 4 = .ok (.iload_n 1, 1) := by decide +kernel
theorem d_M_seat_5 : decode c_M_seat 5 = .ok (.aload_n 0, 1) := by decide +kernel
theorem d_M_seat_6 : decode c_M_seat 6 = .ok (.getfield 13, 3) := by decide +kernel
theorem d_M_seat_9 : decode c_M_seat 9 = .ok (.arraylength, 1) := by decide +kernel
theorem d_M_seat_10 : decode c_M_seat 10 = .ok (.if_icmp .ge 10, 3) := by decide +kernel
theorem d_M_seat_13 : decode c_M_seat 13 = .ok (.aload_n 0, 1) := by decide +kernel
theorem d_M_seat_14 : decode c_M_seat 14 = .ok (.getfield 13, 3) := by decide +kernel
theorem d_M_seat_17 : decode c_M_seat 17 = .ok (.iload_n 1, 1) := by decide +kernel
theorem d_M_seat_18 : decode c_M_seat 18 = .ok (.iload_n 2, 1) := by decide +kernel
theorem d_M_seat_19 : decode c_M_seat 19 = .ok (.iastore, 1) := by decide +kernel
theorem d_M_seat_20 : decode c_M_seat 20 = .ok (.aload_n 0, 1) := by decide +kernel
theorem d_M_seat_21 : decode c_M_seat 21 = .ok (.iload_n 2, 1) := by decide +kernel
theorem d_M_seat_22 : decode c_M_seat 22 = .ok (.iconst 0, 1) := by decide +kernel
theorem d_M_seat_23 : decode c_M_seat 23 = .ok (.iadd, 1) := by decide +kernel
theorem d_M_seat_24 : decode c_M_seat 24 = .ok (.iload_n 1, 1) := by decide +kernel
theorem d_M_seat_25 : decode c_M_seat 25 = .ok (.invokevirtual 83, 3) := by decide +kernel
theorem d_M_seat_28 : decode c_M_seat 28 = .ok (.return_, 1) := by decide +kernel
theorem d_M_settle_0 : decode c_M_settle 0 = .ok (.aload_n 0, 1) := by decide +kernel
theorem d_M_settle_1 : decode c_M_settle 1 = .ok (.getfield 29, 3) := by decide +kernel
theorem d_M_settle_4 : decode c_M_settle 4 = .ok (.ifCond .eq 4, 3) := by decide +kernel
theorem d_M_settle_7 : decode c_M_settle 7 = .ok (.return_, 1) := by decide +kernel
theorem d_M_settle_8 : decode c_M_settle 8 = .ok (.aload_n 0, 1) := by decide +kernel
theorem d_M_settle_9 : decode c_M_settle 9 = .ok (.invokevirtual 116, 3) := by decide +kernel
theorem d_M_settle_12 : decode c_M_settle 12 = .ok (.aload_n 1, 1) := by decide +kernel
theorem d_M_settle_13 : decode c_M_settle 13 = .ok (.astore_n 2, 1) := by decide +kernel
theorem d_M_settle_14 : decode c_M_settle 14 = .ok (.aload_n 2, 1) := by decide +kernel
theorem d_M_settle_15 : decode c_M_settle 15 = .ok (.arraylength, 1) := by decide +kernel
theorem d_M_settle_16 : decode c_M_settle 16 = .ok (.istore_n 3, 1) := by decide +kernel
theorem d_M_settle_17 : decode c_M_settle 17 = .ok (.iconst 0, 1) := by decide +kernel
theorem d_M_settle_18 : decode c_M_settle 18 = .ok (.istore 4, 2) := by decide +kernel
theorem d_M_settle_20 : decode c_M_settle 20 = .ok (.iload 4, 2) := by decide +kernel
theorem d_M_settle_22 : decode c_M_settle 22 = .ok (.iload_n 3, 1) := by decide +kernel
theorem d_M_settle_23 : decode c_M_settle 23 = .ok (.if_icmp .ge 21, 3) := by decide +kernel
theorem d_M_settle_26 : decode c_M_settle 26 = .ok (.aload_n 2, 1) := by decide +kernel
theorem d_M_settle_27 : decode c_M_settle 27 = .ok (.iload 4, 2) := by decide +kernel
theorem d_M_settle_29 : decode c_M_settle 29 = .ok (.iaload, 1) := by decide +kernel
theorem d_M_settle_30 : decode c_M_settle 30 = .ok (.istore 5, 2) := by decide +kernel
theorem d_M_settle_32 : decode c_M_settle 32 = .ok (.aload_n 0, 1) := by decide +kernel
theorem d_M_settle_33 : decode c_M_settle 33 = .ok (.iload 5, 2) := by decide +kernel
theorem d_M_settle_35 : decode c_M_settle 35 = .ok (.invokevirtual 119, 3) := by decide +kernel
theorem d_M_settle_38 : decode c_M_settle 38 = .ok (.iinc 4 1, 3) := by decide +kernel
theorem d_M_settle_41 : decode c_M_settle 41 = .ok (.goto (-21), 3) := by decide +kernel
theorem d_M_settle_44 : decode c_M_settle 44 = .ok (.aload_n 0, 1) := by decide +kernel
theorem d_M_settle_45 : decode c_M_settle 45 = .ok (.invokevirtual 122, 3) := by decide +kernel
theorem d_M_settle_48 : decode c_M_settle 48 = .ok (.aload_n 0, 1) := by decide +kernel
theorem d_M_settle_49 : decode c_M_settle 49 = .ok (.invokevirtual 125, 3) := by decide +kernel
theorem d_M_settle_52 : decode c_M_settle 52 = .ok (.aload_n 0, 1) := by decide +kernel
theorem d_M_settle_53 : decode c_M_settle 53 = .ok (.iconst 1, 1) := by decide +kernel
theorem d_M_settle_54 : decode c_M_settle 54 = .ok (.putfield 29, 3) := by decide +kernel
theorem d_M_settle_57 : decode c_M_settle 57 = .ok (.return_, 1) := by decide +kernel
theorem d_M_leadsTo_0 : decode c_M_leadsTo 0 = .ok (.aload_n 0, 1) := by decide +kernel
theorem d_M_leadsTo_1 : decode c_M_leadsTo 1 = .ok (.invokevirtual 116, 3) := by decide +kernel
theorem d_M_leadsTo_4 : decode c_M_leadsTo 4 = .ok (.aload_n 0, 1) := by decide +kernel
theorem d_M_leadsTo_5 : decode c_M_leadsTo 5 = .ok (.iload_n 1, 1) := by decide +kernel
theorem d_M_leadsTo_6 : decode c_M_leadsTo 6 = .ok (.invokevirtual 119, 3) := by decide +kernel
theorem d_M_leadsTo_9 : decode c_M_leadsTo 9 = .ok (.aload_n 0, 1) := by decide +kernel
theorem d_M_leadsTo_10 : decode c_M_leadsTo 10 = .ok (.invokevirtual 122, 3) := by decide +kernel
theorem d_M_leadsTo_13 : decode c_M_leadsTo 13 = .ok (.aload_n 0, 1) := by decide +kernel
theorem d_M_leadsTo_14 : decode c_M_leadsTo 14 = .ok (.iload_n 2, 1) := by decide +kernel
theorem d_M_leadsTo_15 : decode c_M_leadsTo 15 = .ok (.invokestatic 49, 3) := by decide +kernel
theorem d_M_leadsTo_18 : decode c_M_leadsTo 18 = .ok (.invokevirtual 128, 3) := by decide +kernel
theorem d_M_leadsTo_21 : decode c_M_leadsTo 21 = .ok (.ireturn, 1) := by decide +kernel
theorem d_M_startRound_0 : decode c_M_startRound 0 = .ok (.aload_n 0, 1) := by decide +kernel
theorem d_M_startRound_1 : decode c_M_startRound 1 = .ok (.dup, 1) := by decide +kernel
theorem d_M_startRound_2 : decode c_M_startRound 2 = .ok (.getfield 131, 3) := by decide +kernel
theorem d_M_startRound_5 : decode c_M_startRound 5 = .ok (.iconst 1, 1) := by decide +kernel
theorem d_M_startRound_6 : decode c_M_startRound 6 = .ok (.iadd, 1) := by decide +kernel
theorem d_M_startRound_7 : decode c_M_startRound 7 = .ok (.putfield 131, 3) := by decide +kernel
theorem d_M_startRound_10 : decode c_M_startRound 10 = .ok (.aload_n 0, 1) := by decide +kernel
theorem d_M_startRound_11 : decode c_M_startRound 11 = .ok (.iconst 0, 1) := by decide +kernel
theorem d_M_startRound_12 : decode c_M_startRound 12 = .ok (.putfield 134, 3) := by decide +kernel
theorem d_M_startRound_15 : decode c_M_startRound 15 = .ok (.return_, 1) := by decide +kernel
theorem d_M_isReached_0 : decode c_M_isReached 0 = .ok (.iload_n 1, 1) := by decide +kernel
theorem d_M_isReached_1 : decode c_M_isReached 1 = .ok (.ifCond .lt 29, 3) := by decide +kernel
theorem d_M_isReached_4 : decode c_M_isReached 4 = .ok (.iload_n 1, 1) := by decide +kernel
theorem d_M_isReached_5 : decode c_M_isReached 5 = .ok (.aload_n 0, 1) := by decide +kernel
theorem d_M_isReached_6 : decode c_M_isReached 6 = .ok (.getfield 22, 3) := by decide +kernel
theorem d_M_isReached_9 : decode c_M_isReached 9 = .ok (.arraylength, 1) := by decide +kernel
theorem d_M_isReached_10 : decode c_M_isReached 10 = .ok (.if_icmp .ge 20, 3) := by decide +kernel
theorem d_M_isReached_13 : decode c_M_isReached 13 = .ok (.aload_n 0, 1) := by decide +kernel
theorem d_M_isReached_14 : decode c_M_isReached 14 = .ok (.getfield 22, 3) := by decide +kernel
theorem d_M_isReached_17 : decode c_M_isReached 17 = .ok (.iload_n 1, 1) := by decide +kernel
theorem d_M_isReached_18 : decode c_M_isReached 18 = .ok (.iaload, 1) := by decide +kernel
theorem d_M_isReached_19 : decode c_M_isReached 19 = .ok (.aload_n 0, 1) := by decide +kernel
theorem d_M_isReached_20 : decode c_M_isReached 20 = .ok (.getfield 131, 3) := by decide +kernel
theorem d_M_isReached_23 : decode c_M_isReached 23 = .ok (.if_icmp .ne 7, 3) := by decide +kernel
theorem d_M_isReached_26 : decode c_M_isReached 26 = .ok (.iconst 1, 1) := by decide +kernel
theorem d_M_isReached_27 : decode c_M_isReached 27 = .ok (.goto 4, 3) := by decide +kernel
theorem d_M_isReached_30 : decode c_M_isReached 30 = .ok (.iconst 0, 1) := by decide +kernel
theorem d_M_isReached_31 : decode c_M_isReached 31 = .ok (.ireturn, 1) := by decide +kernel
theorem d_M_reach_0 : decode c_M_reach 0 = .ok (.iload_n 1, 1) := by decide +kernel
theorem d_M_reach_1 : decode c_M_reach 1 = .ok (.invokestatic 61, 3) := by decide +kernel
theorem d_M_reach_4 : decode c_M_reach 4 = .ok (.ifCond .ne 4, 3) := by decide +kernel
theorem d_M_reach_7 : decode c_M_reach 7 = .ok (.return_, 1) := by decide +kernel
theorem d_M_reach_8 : decode c_M_reach 8 = .ok (.iload_n 1, 1) := by decide +kernel
theorem d_M_reach_9 : decode c_M_reach 9 = .ok (.invokestatic 49, 3) := by decide +kernel
theorem d_M_reach_12 : decode c_M_reach 12 = .ok (.istore_n 2, 1) := by decide +kernel
theorem d_M_reach_13 : decode c_M_reach 13 = .ok (.iload_n 2, 1) := by decide +kernel
theorem d_M_reach_14 : decode c_M_reach 14 = .ok (.ifCond .lt 67, 3) := by decide +kernel
theorem d_M_reach_17 : decode c_M_reach 17 = .ok (.iload_n 2, 1) := by decide +kernel
theorem d_M_reach_18 : decode c_M_reach 18 = .ok (.aload_n 0, 1) := by decide +kernel
theorem d_M_reach_19 : decode c_M_reach 19 = .ok (.getfield 22, 3) := by decide +kernel
theorem d_M_reach_22 : decode c_M_reach 22 = .ok (.arraylength, 1) := by decide +kernel
theorem d_M_reach_23 : decode c_M_reach 23 = .ok (.if_icmp .ge 58, 3) := by decide +kernel
theorem d_M_reach_26 : decode c_M_reach 26 = .ok (.aload_n 0, 1) := by decide +kernel
theorem d_M_reach_27 : decode c_M_reach 27 = .ok (.getfield 22, 3) := by decide +kernel
theorem d_M_reach_30 : decode c_M_reach 30 = .ok (.iload_n 2, 1) := by decide +kernel
theorem d_M_reach_31 : decode c_M_reach 31 = .ok (.iaload, 1) := by decide +kernel
theorem d_M_reach_32 : decode c_M_reach 32 = .ok (.aload_n 0, 1) := by decide +kernel
theorem d_M_reach_33 : decode c_M_reach 33 = .ok (.getfield 131, 3) := by decide +kernel
theorem d_M_reach_36 : decode c_M_reach 36 = .ok (.if_icmp .eq 45, 3) := by decide +kernel
theorem d_M_reach_39 : decode c_M_reach 39 = .ok (.aload_n 0, 1) := by decide +kernel
theorem d_M_reach_40 : decode c_M_reach 40 = .ok (.getfield 134, 3) := by decide +kernel
theorem d_M_reach_43 : decode c_M_reach 43 = .ok (.aload_n 0, 1) := by decide +kernel
theorem d_M_reach_44 : decode c_M_reach 44 = .ok (.getfield 19, 3) := by decide +kernel
theorem d_M_reach_47 : decode c_M_reach 47 = .ok (.arraylength, 1) := by decide +kernel
theorem d_M_reach_48 : decode c_M_reach 48 = .ok (.if_icmp .ge 33, 3) := by decide +kernel
theorem d_M_reach_51 : decode c_M_reach 51 = .ok (.aload_n 0, 1) := by decide +kernel
theorem d_M_reach_52 : decode c_M_reach 52 = .ok (.getfield 22, 3) := by decide +kernel
theorem d_M_reach_55 : decode c_M_reach 55 = .ok (.iload_n 2, 1) := by decide +kernel
theorem d_M_reach_56 : decode c_M_reach 56 = .ok (.aload_n 0, 1) := by decide +kernel
theorem d_M_reach_57 : decode c_M_reach 57 = .ok (.getfield 131, 3) := by decide +kernel
theorem d_M_reach_60 : decode c_M_reach 60 = .ok (.iastore, 1) := by decide +kernel
theorem d_M_reach_61 : decode c_M_reach 61 = .ok (.aload_n 0, 1) := by decide +kernel
theorem d_M_reach_62 : decode c_M_reach 62 = .ok (.getfield 19, 3) := by decide +kernel
theorem d_M_reach_65 : decode c_M_reach 65 = .ok (.aload_n 0, 1) := by decide +kernel
theorem d_M_reach_66 : decode c_M_reach 66 = .ok (.getfield 134, 3) := by decide +kernel
theorem d_M_reach_69 : decode c_M_reach 69 = .ok (.iload_n 1, 1) := by decide +kernel
theorem d_M_reach_70 : decode c_M_reach 70 = .ok (.iastore, 1) := by decide +kernel
theorem d_M_reach_71 : decode c_M_reach 71 = .ok (.aload_n 0, 1) := by decide +kernel
theorem d_M_reach_72 : decode c_M_reach 72 = .ok (.dup, 1) := by decide +kernel
theorem d_M_reach_73 : decode c_M_reach 73 = .ok (.getfield 134, 3) := by decide +kernel
theorem d_M_reach_76 : decode c_M_reach 76 = .ok (.iconst 1, 1) := by decide +kernel
theorem d_M_reach_77 : decode c_M_reach 77 = .ok (.iadd, 1) := by decide +kernel
theorem d_M_reach_78 : decode c_M_reach 78 = .ok (.putfield 134, 3) := by decide +kernel
theorem d_M_reach_81 : decode c_M_reach 81 = .ok (.return_, 1) := by decide +kernel
theorem d_M_spread_0 : decode c_M_spread 0 = .ok (.iconst 0, 1) := by decide +kernel
theorem d_M_spread_1 : decode c_M_spread 1 = .ok (.istore_n 1, 1) := by decide +kernel
theorem d_M_spread_2 : decode c_M_spread 2 = .ok (.iload_n 1, 1) := by decide +kernel
theorem d_M_spread_3 : decode c_M_spread 3 = .ok (.aload_n 0, 1) := by decide +kernel
theorem d_M_spread_4 : decode c_M_spread 4 = .ok (.getfield 19, 3) := by decide +kernel
theorem d_M_spread_7 : decode c_M_spread 7 = .ok (.arraylength, 1) := by decide +kernel
theorem d_M_spread_8 : decode c_M_spread 8 = .ok (.if_icmp .ge 85, 3) := by decide +kernel
theorem d_M_spread_11 : decode c_M_spread 11 = .ok (.iload_n 1, 1) := by decide +kernel
theorem d_M_spread_12 : decode c_M_spread 12 = .ok (.aload_n 0, 1) := by decide +kernel
theorem d_M_spread_13 : decode c_M_spread 13 = .ok (.getfield 134, 3) := by decide +kernel
theorem d_M_spread_16 : decode c_M_spread 16 = .ok (.if_icmp .ge 77, 3) := by decide +kernel
theorem d_M_spread_19 : decode c_M_spread 19 = .ok (.aload_n 0, 1) := by decide +kernel
theorem d_M_spread_20 : decode c_M_spread 20 = .ok (.aload_n 0, 1) := by decide +kernel
theorem d_M_spread_21 : decode c_M_spread 21 = .ok (.getfield 19, 3) := by decide +kernel
theorem d_M_spread_24 : decode c_M_spread 24 = .ok (.iload_n 1, 1) := by decide +kernel
theorem d_M_spread_25 : decode c_M_spread 25 = .ok (.iaload, 1) := by decide +kernel
theorem d_M_spread_26 : decode c_M_spread 26 = .ok (.invokevirtual 55, 3) := by decide +kernel
theorem d_M_spread_29 : decode c_M_spread 29 = .ok (.istore_n 2, 1) := by decide +kernel
theorem d_M_spread_30 : decode c_M_spread 30 = .ok (.aload_n 0, 1) := by decide +kernel
theorem d_M_spread_31 : decode c_M_spread 31 = .ok (.aload_n 0, 1) := by decide +kernel
theorem d_M_spread_32 : decode c_M_spread 32 = .ok (.iload_n 2, 1) := by decide +kernel
theorem d_M_spread_33 : decode c_M_spread 33 = .ok (.iconst 2, 1) := by decide +kernel
theorem d_M_spread_34 : decode c_M_spread 34 = .ok (.iadd, 1) := by decide +kernel
theorem d_M_spread_35 : decode c_M_spread 35 = .ok (.invokevirtual 58, 3) := by decide +kernel
theorem d_M_spread_38 : decode c_M_spread 38 = .ok (.invokevirtual 119, 3) := by decide +kernel
theorem d_M_spread_41 : decode c_M_spread 41 = .ok (.aload_n 0, 1) := by decide +kernel
theorem d_M_spread_42 : decode c_M_spread 42 = .ok (.iload_n 2, 1) := by decide +kernel
theorem d_M_spread_43 : decode c_M_spread 43 = .ok (.invokevirtual 137, 3) := by decide +kernel
theorem d_M_spread_46 : decode c_M_spread 46 = .ok (.aload_n 0, 1) := by decide +kernel
theorem d_M_spread_47 : decode c_M_spread 47 = .ok (.getfield 7, 3) := by decide +kernel
theorem d_M_spread_50 : decode c_M_spread 50 = .ok (.arraylength, 1) := by decide +kernel
theorem d_M_spread_51 : decode c_M_spread 51 = .ok (.invokestatic 140, 3) := by decide +kernel
theorem d_M_spread_54 : decode c_M_spread 54 = .ok (.istore_n 3, 1) := by decide +kernel
theorem d_M_spread_55 : decode c_M_spread 55 = .ok (.iconst 0, 1) := by decide +kernel
theorem d_M_spread_56 : decode c_M_spread 56 = .ok (.iload_n 2, 1) := by decide +kernel
theorem d_M_spread_57 : decode c_M_spread 57 = .ok (.iconst 4, 1) := by decide +kernel
theorem d_M_spread_58 : decode c_M_spread 58 = .ok (.iadd, 1) := by decide +kernel
theorem d_M_spread_59 : decode c_M_spread 59 = .ok (.invokestatic 37, 3) := by decide +kernel
theorem d_M_spread_62 : decode c_M_spread 62 = .ok (.istore 4, 2) := by decide +kernel
theorem d_M_spread_64 : decode c_M_spread 64 = .ok (.iload 4, 2) := by decide +kernel
theorem d_M_spread_66 : decode c_M_spread 66 = .ok (.iload_n 3, 1) := by decide +kernel
theorem d_M_spread_67 : decode c_M_spread 67 = .ok (.if_icmp .ge 20, 3) := by decide +kernel
theorem d_M_spread_70 : decode c_M_spread 70 = .ok (.aload_n 0, 1) := by decide +kernel
theorem d_M_spread_71 : decode c_M_spread 71 = .ok (.aload_n 0, 1) := by decide +kernel
theorem d_M_spread_72 : decode c_M_spread 72 = .ok (.getfield 7, 3) := by decide +kernel
theorem d_M_spread_75 : decode c_M_spread 75 = .ok (.iload 4, 2) := by decide +kernel
theorem d_M_spread_77 : decode c_M_spread 77 = .ok (.iaload, 1) := by decide +kernel
theorem d_M_spread_78 : decode c_M_spread 78 = .ok (.invokevirtual 119, 3) := by decide +kernel
theorem d_M_spread_81 : decode c_M_spread 81 = .ok (.iinc 4 1, 3) := by decide +kernel
theorem d_M_spread_84 : decode c_M_spread 84 = .ok (.goto (-20), 3) := by decide +kernel
theorem d_M_spread_87 : decode c_M_spread 87 = .ok (.iinc 1 1, 3) := by decide +kernel
theorem d_M_spread_90 : decode c_M_spread 90 = .ok (.goto (-88), 3) := by decide +kernel
theorem d_M_spread_93 : decode c_M_spread 93 = .ok (.return_, 1) := by decide +kernel
theorem d_M_endOfSlots_0 : decode c_M_endOfSlots 0 = .ok (.aload_n 0, 1) := by decide +kernel
theorem d_M_endOfSlots_1 : decode c_M_endOfSlots 1 = .ok (.iload_n 1, 1) := by decide +kernel
theorem d_M_endOfSlots_2 : decode c_M_endOfSlots 2 = .ok (.iconst 3, 1) := by decide +kernel
theorem d_M_endOfSlots_3 : decode c_M_endOfSlots 3 = .ok (.iadd, 1) := by decide +kernel
theorem d_M_endOfSlots_4 : decode c_M_endOfSlots 4 = .ok (.invokevirtual 58, 3) := by decide +kernel
theorem d_M_endOfSlots_7 : decode c_M_endOfSlots 7 = .ok (.istore_n 2, 1) := by decide +kernel
theorem d_M_endOfSlots_8 : decode c_M_endOfSlots 8 = .ok (.iload_n 1, 1) := by decide +kernel
theorem d_M_endOfSlots_9 : decode c_M_endOfSlots 9 = .ok (.iconst 4, 1) := by decide +kernel
theorem d_M_endOfSlots_10 : decode c_M_endOfSlots 10 = .ok (.iadd, 1) := by decide +kernel
theorem d_M_endOfSlots_11 : decode c_M_endOfSlots 11 = .ok (.iload_n 2, 1) := by decide +kernel
theorem d_M_endOfSlots_12 : decode c_M_endOfSlots 12 = .ok (.invokestatic 33, 3) := by decide +kernel
theorem d_M_endOfSlots_15 : decode c_M_endOfSlots 15 = .ok (.ifCond .eq 7, 3) := by decide +kernel
theorem d_M_endOfSlots_18 : decode c_M_endOfSlots 18 = .ok (.iconst 0, 1) := by decide +kernel
theorem d_M_endOfSlots_19 : decode c_M_endOfSlots 19 = .ok (.goto 7, 3) := by decide +kernel
theorem d_M_endOfSlots_22 : decode c_M_endOfSlots 22 = .ok (.iload_n 2, 1) := by decide +kernel
theorem d_M_endOfSlots_23 : decode c_M_endOfSlots 23 = .ok (.invokestatic 93, 3) := by decide +kernel
theorem d_M_endOfSlots_26 : decode c_M_endOfSlots 26 = .ok (.iadd, 1) := by decide +kernel
theorem d_M_endOfSlots_27 : decode c_M_endOfSlots 27 = .ok (.ireturn, 1) := by decide +kernel
theorem d_M_bodyWordsAt_0 : decode c_M_bodyWordsAt 0 = .ok (.aload_n 0, 1) := by decide +kernel
theorem d_M_bodyWordsAt_1 : decode c_M_bodyWordsAt 1 = .ok (.iload_n 1, 1) := by decide +kernel
theorem d_M_bodyWordsAt_2 : decode c_M_bodyWordsAt 2 = .ok (.iconst 3, 1) := by decide +kernel
theorem d_M_bodyWordsAt_3 : decode c_M_bodyWordsAt 3 = .ok (.iadd, 1) := by decide +kernel
theorem d_M_bodyWordsAt_4 : decode c_M_bodyWordsAt 4 = .ok (.invokevirtual 58, 3) := by decide +kernel
theorem d_M_bodyWordsAt_7 : decode c_M_bodyWordsAt 7 = .ok (.invokestatic 93, 3) := by decide +kernel
theorem d_M_bodyWordsAt_10 : decode c_M_bodyWordsAt 10 = .ok (.ireturn, 1) := by decide +kernel
theorem d_M_slide_0 : decode c_M_slide 0 = .ok (.aload_n 0, 1) := by decide +kernel
theorem d_M_slide_1 : decode c_M_slide 1 = .ok (.getfield 90, 3) := by decide +kernel
theorem d_M_slide_4 : decode c_M_slide 4 = .ok (.istore_n 1, 1) := by decide +kernel
theorem d_M_slide_5 : decode c_M_slide 5 = .ok (.aload_n 0, 1) := by decide +kernel
theorem d_M_slide_6 : decode c_M_slide 6 = .ok (.iconst 0, 1) := by decide +kernel
theorem d_M_slide_7 : decode c_M_slide 7 = .ok (.putfield 90, 3) := by decide +kernel
theorem d_M_slide_10 : decode c_M_slide 10 = .ok (.iconst 0, 1) := by decide +kernel
theorem d_M_slide_11 : decode c_M_slide 11 = .ok (.istore_n 3, 1) := by decide +kernel
theorem d_M_slide_12 : decode c_M_slide 12 = .ok (.iload_n 3, 1) := by decide +kernel
theorem d_M_slide_13 : decode c_M_slide 13 = .ok (.iload_n 1, 1) := by decide +kernel
theorem d_M_slide_14 : decode c_M_slide 14 = .ok (.if_icmp .ge 79, 3) := by decide +kernel
theorem d_M_slide_17 : decode c_M_slide 17 = .ok (.aload_n 0, 1) := by decide +kernel
theorem d_M_slide_18 : decode c_M_slide 18 = .ok (.iload_n 3, 1) := by decide +kernel
theorem d_M_slide_19 : decode c_M_slide 19 = .ok (.invokevirtual 143, 3) := by decide +kernel
theorem d_M_slide_22 : decode c_M_slide 22 = .ok (.istore_n 2, 1) := by decide +kernel
theorem d_M_slide_23 : decode c_M_slide 23 = .ok (.aload_n 0, 1) := by decide +kernel
theorem d_M_slide_24 : decode c_M_slide 24 = .ok (.iload_n 3, 1) := by decide +kernel
theorem d_M_slide_25 : decode c_M_slide 25 = .ok (.iconst 0, 1) := by decide +kernel
theorem d_M_slide_26 : decode c_M_slide 26 = .ok (.iadd, 1) := by decide +kernel
theorem d_M_slide_27 : decode c_M_slide 27 = .ok (.invokevirtual 58, 3) := by decide +kernel
theorem d_M_slide_30 : decode c_M_slide 30 = .ok (.istore 4, 2) := by decide +kernel
theorem d_M_slide_32 : decode c_M_slide 32 = .ok (.aload_n 0, 1) := by decide +kernel
theorem d_M_slide_33 : decode c_M_slide 33 = .ok (.iload 4, 2) := by decide +kernel
theorem d_M_slide_35 : decode c_M_slide 35 = .ok (.invokevirtual 128, 3) := by decide +kernel
theorem d_M_slide_38 : decode c_M_slide 38 = .ok (.ifCond .eq 40, 3) := by decide +kernel
theorem d_M_slide_41 : decode c_M_slide 41 = .ok (.aload_n 0, 1) := by decide +kernel
theorem d_M_slide_42 : decode c_M_slide 42 = .ok (.iload_n 3, 1) := by decide +kernel
theorem d_M_slide_43 : decode c_M_slide 43 = .ok (.aload_n 0, 1) := by decide +kernel
theorem d_M_slide_44 : decode c_M_slide 44 = .ok (.getfield 90, 3) := by decide +kernel
theorem d_M_slide_47 : decode c_M_slide 47 = .ok (.iconst 4, 1) := by decide +kernel
theorem d_M_slide_48 : decode c_M_slide 48 = .ok (.iload_n 2, 1) := by decide +kernel
theorem d_M_slide_49 : decode c_M_slide 49 = .ok (.iadd, 1) := by decide +kernel
theorem d_M_slide_50 : decode c_M_slide 50 = .ok (.invokevirtual 112, 3) := by decide +kernel
theorem d_M_slide_53 : decode c_M_slide 53 = .ok (.aload_n 0, 1) := by decide +kernel
theorem d_M_slide_54 : decode c_M_slide 54 = .ok (.iload 4, 2) := by decide +kernel
theorem d_M_slide_56 : decode c_M_slide 56 = .ok (.aload_n 0, 1) := by decide +kernel
theorem d_M_slide_57 : decode c_M_slide 57 = .ok (.getfield 90, 3) := by decide +kernel
theorem d_M_slide_60 : decode c_M_slide 60 = .ok (.invokevirtual 106, 3) := by decide +kernel
theorem d_M_slide_63 : decode c_M_slide 63 = .ok (.aload_n 0, 1) := by decide +kernel
theorem d_M_slide_64 : decode c_M_slide 64 = .ok (.dup, 1) := by decide +kernel
theorem d_M_slide_65 : decode c_M_slide 65 = .ok (.getfield 90, 3) := by decide +kernel
theorem d_M_slide_68 : decode c_M_slide 68 = .ok (.iconst 4, 1) := by decide +kernel
theorem d_M_slide_69 : decode c_M_slide 69 = .ok (.iload_n 2, 1) := by decide +kernel
theorem d_M_slide_70 : decode c_M_slide 70 = .ok (.iadd, 1) := by decide +kernel
theorem d_M_slide_71 : decode c_M_slide 71 = .ok (.iadd, 1) := by decide +kernel
theorem d_M_slide_72 : decode c_M_slide 72 = .ok (.putfield 90, 3) := by decide +kernel
theorem d_M_slide_75 : decode c_M_slide 75 = .ok (.goto 9, 3) := by decide +kernel
theorem d_M_slide_78 : decode c_M_slide 78 = .ok (.aload_n 0, 1) := by decide +kernel
theorem d_M_slide_79 : decode c_M_slide 79 = .ok (.iload 4, 2) := by decide +kernel
theorem d_M_slide_81 : decode c_M_slide 81 = .ok (.invokevirtual 146, 3) := by decide +kernel
theorem d_M_slide_84 : decode c_M_slide 84 = .ok (.iload_n 3, 1) := by decide +kernel
theorem d_M_slide_85 : decode c_M_slide 85 = .ok (.iconst 4, 1) := by decide +kernel
theorem d_M_slide_86 : decode c_M_slide 86 = .ok (.iload_n 2, 1) := by decide +kernel
theorem d_M_slide_87 : decode c_M_slide 87 = .ok (.iadd, 1) := by decide +kernel
theorem d_M_slide_88 : decode c_M_slide 88 = .ok (.iadd, 1) := by decide +kernel
theorem d_M_slide_89 : decode c_M_slide 89 = .ok (.istore_n 3, 1) := by decide +kernel
theorem d_M_slide_90 : decode c_M_slide 90 = .ok (.goto (-78), 3) := by decide +kernel
theorem d_M_slide_93 : decode c_M_slide 93 = .ok (.return_, 1) := by decide +kernel
theorem d_M_findOfClass_0 : decode c_M_findOfClass 0 = .ok (.iconst 0, 1) := by decide +kernel
theorem d_M_findOfClass_1 : decode c_M_findOfClass 1 = .ok (.istore_n 3, 1) := by decide +kernel
theorem d_M_findOfClass_2 : decode c_M_findOfClass 2 = .ok (.iconst 0, 1) := by decide +kernel
theorem d_M_findOfClass_3 : decode c_M_findOfClass 3 = .ok (.istore 4, 2) := by decide +kernel
theorem d_M_findOfClass_5 : decode c_M_findOfClass 5 = .ok (.iload 4, 2) := by decide +kernel
theorem d_M_findOfClass_7 : decode c_M_findOfClass 7 = .ok (.aload_n 0, 1) := by decide +kernel
theorem d_M_findOfClass_8 : decode c_M_findOfClass 8 = .ok (.getfield 90, 3) := by decide +kernel
theorem d_M_findOfClass_11 : decode c_M_findOfClass 11 = .ok (.if_icmp .ge 51, 3) := by decide +kernel
theorem d_M_findOfClass_14 : decode c_M_findOfClass 14 = .ok (.aload_n 0, 1) := by decide +kernel
theorem d_M_findOfClass_15 : decode c_M_findOfClass 15 = .ok (.iload 4, 2) := by decide +kernel
theorem d_M_findOfClass_17 : decode c_M_findOfClass 17 = .ok (.iconst 2, 1) := by decide +kernel
theorem d_M_findOfClass_18 : decode c_M_findOfClass 18 = .ok (.iadd, 1) := by decide +kernel
theorem d_M_findOfClass_19 : decode c_M_findOfClass 19 = .ok (.invokevirtual 58, 3) := by decide +kernel
theorem d_M_findOfClass_22 : decode c_M_findOfClass 22 = .ok (.iload_n 1, 1) := by decide +kernel
theorem d_M_findOfClass_23 : decode c_M_findOfClass 23 = .ok (.if_icmp .ne 23, 3) := by decide +kernel
theorem d_M_findOfClass_26 : decode c_M_findOfClass 26 = .ok (.iload_n 3, 1) := by decide +kernel
theorem d_M_findOfClass_27 : decode c_M_findOfClass 27 = .ok (.iload_n 2, 1) := by decide +kernel
theorem d_M_findOfClass_28 : decode c_M_findOfClass 28 = .ok (.if_icmp .ne 15, 3) := by decide +kernel
theorem d_M_findOfClass_31 : decode c_M_findOfClass 31 = .ok (.aload_n 0, 1) := by decide +kernel
theorem d_M_findOfClass_32 : decode c_M_findOfClass 32 = .ok (.iload 4, 2) := by decide +kernel
theorem d_M_findOfClass_34 : decode c_M_findOfClass 34 = .ok (.iconst 0, 1) := by decide +kernel
theorem d_M_findOfClass_35 : decode c_M_findOfClass 35 = .ok (.iadd, 1) := by decide +kernel
theorem d_M_findOfClass_36 : decode c_M_findOfClass 36 = .ok (.invokevirtual 58, 3) := by decide +kernel
theorem d_M_findOfClass_39 : decode c_M_findOfClass 39 = .ok (.invokestatic 109, 3) := by decide +kernel
theorem d_M_findOfClass_42 : decode c_M_findOfClass 42 = .ok (.ireturn, 1) := by decide +kernel
theorem d_M_findOfClass_43 : decode c_M_findOfClass 43 = .ok (.iinc 3 1, 3) := by decide +kernel
theorem d_M_findOfClass_46 : decode c_M_findOfClass 46 = .ok (.iload 4, 2) := by decide +kernel
theorem d_M_findOfClass_48 : decode c_M_findOfClass 48 = .ok (.iconst 4, 1) := by decide +kernel
theorem d_M_findOfClass_49 : decode c_M_findOfClass 49 = .ok (.aload_n 0, 1) := by decide +kernel
theorem d_M_findOfClass_50 : decode c_M_findOfClass 50 = .ok (.iload 4, 2) := by decide +kernel
theorem d_M_findOfClass_52 : decode c_M_findOfClass 52 = .ok (.invokevirtual 143, 3) := by decide +kernel
theorem d_M_findOfClass_55 : decode c_M_findOfClass 55 = .ok (.iadd, 1) := by decide +kernel
theorem d_M_findOfClass_56 : decode c_M_findOfClass 56 = .ok (.iadd, 1) := by decide +kernel
theorem d_M_findOfClass_57 : decode c_M_findOfClass 57 = .ok (.istore 4, 2) := by decide +kernel
theorem d_M_findOfClass_59 : decode c_M_findOfClass 59 = .ok (.goto (-54), 3) := by decide +kernel
theorem d_M_findOfClass_62 : decode c_M_findOfClass 62 = .ok (.iconst 0, 1) := by decide +kernel
theorem d_M_findOfClass_63 : decode c_M_findOfClass 63 = .ok (.ireturn, 1) := by decide +kernel
theorem d_M_countHolders_0 : decode c_M_countHolders 0 = .ok (.iconst 0, 1) := by decide +kernel
theorem d_M_countHolders_1 : decode c_M_countHolders 1 = .ok (.istore_n 2, 1) := by decide +kernel
theorem d_M_countHolders_2 : decode c_M_countHolders 2 = .ok (.iconst 0, 1) := by decide +kernel
theorem d_M_countHolders_3 : decode c_M_countHolders 3 = .ok (.istore_n 3, 1) := by decide +kernel
theorem d_M_countHolders_4 : decode c_M_countHolders 4 = .ok (.iload_n 3, 1) := by decide +kernel
theorem d_M_countHolders_5 : decode c_M_countHolders 5 = .ok (.aload_n 0, 1) := by decide +kernel
theorem d_M_countHolders_6 : decode c_M_countHolders 6 = .ok (.getfield 90, 3) := by decide +kernel
theorem d_M_countHolders_9 : decode c_M_countHolders 9 = .ok (.if_icmp .ge 77, 3) := by decide +kernel
theorem d_M_countHolders_12 : decode c_M_countHolders 12 = .ok (.aload_n 0, 1) := by decide +kernel
theorem d_M_countHolders_13 : decode c_M_countHolders 13 = .ok (.iload_n 3, 1) := by decide +kernel
theorem d_M_countHolders_14 : decode c_M_countHolders 14 = .ok (.iconst 2, 1) := by decide +kernel
theorem d_M_countHolders_15 : decode c_M_countHolders 15 = .ok (.iadd, 1) := by decide +kernel
theorem d_M_countHolders_16 : decode c_M_countHolders 16 = .ok (.invokevirtual 58, 3) := by decide +kernel
theorem d_M_countHolders_19 : decode c_M_countHolders 19 = .ok (.iload_n 1, 1) := by decide +kernel
theorem d_M_countHolders_20 : decode c_M_countHolders 20 = .ok (.if_icmp .ne 6, 3) := by decide +kernel
theorem d_M_countHolders_23 : decode c_M_countHolders 23 = .ok (.iinc 2 1, 3) := by decide +kernel
theorem d_M_countHolders_26 : decode c_M_countHolders 26 = .ok (.aload_n 0, 1) := by decide +kernel
theorem d_M_countHolders_27 : decode c_M_countHolders 27 = .ok (.iload_n 3, 1) := by decide +kernel
theorem d_M_countHolders_28 : decode c_M_countHolders 28 = .ok (.invokevirtual 137, 3) := by decide +kernel
theorem d_M_countHolders_31 : decode c_M_countHolders 31 = .ok (.aload_n 0, 1) := by decide +kernel
theorem d_M_countHolders_32 : decode c_M_countHolders 32 = .ok (.getfield 7, 3) := by decide +kernel
theorem d_M_countHolders_35 : decode c_M_countHolders 35 = .ok (.arraylength, 1) := by decide +kernel
theorem d_M_countHolders_36 : decode c_M_countHolders 36 = .ok (.invokestatic 140, 3) := by decide +kernel
theorem d_M_countHolders_39 : decode c_M_countHolders 39 = .ok (.istore 4, 2) := by decide +kernel
theorem d_M_countHolders_41 : decode c_M_countHolders 41 = .ok (.iload_n 3, 1) := by decide +kernel
theorem d_M_countHolders_42 : decode c_M_countHolders 42 = .ok (.iconst 4, 1) := by decide +kernel
theorem d_M_countHolders_43 : decode c_M_countHolders 43 = .ok (.iadd, 1) := by decide +kernel
theorem d_M_countHolders_44 : decode c_M_countHolders 44 = .ok (.istore 5, 2) := by decide +kernel
theorem d_M_countHolders_46 : decode c_M_countHolders 46 = .ok (.iload 5, 2) := by decide +kernel
theorem d_M_countHolders_48 : decode c_M_countHolders 48 = .ok (.iload 4, 2) := by decide +kernel
theorem d_M_countHolders_50 : decode c_M_countHolders 50 = .ok (.if_icmp .ge 23, 3) := by decide +kernel
theorem d_M_countHolders_53 : decode c_M_countHolders 53 = .ok (.aload_n 0, 1) := by decide +kernel
theorem d_M_countHolders_54 : decode c_M_countHolders 54 = .ok (.getfield 7, 3) := by decide +kernel
theorem d_M_countHolders_57 : decode c_M_countHolders 57 = .ok (.iload 5, 2) := by decide +kernel
theorem d_M_countHolders_59 : decode c_M_countHolders 59 = .ok (.iaload, 1) := by decide +kernel
theorem d_M_countHolders_60 : decode c_M_countHolders 60 = .ok (.iload_n 1, 1) := by decide +kernel
theorem d_M_countHolders_61 : decode c_M_countHolders 61 = .ok (.if_icmp .ne 6, 3) := by decide +kernel
theorem d_M_countHolders_64 : decode c_M_countHolders 64 = .ok (.iinc 2 1, 3) := by decide +kernel
theorem d_M_countHolders_67 : decode c_M_countHolders 67 = .ok (.iinc 5 1, 3) := by decide +kernel
theorem d_M_countHolders_70 : decode c_M_countHolders 70 = .ok (.goto (-24), 3) := by decide +kernel
theorem d_M_countHolders_73 : decode c_M_countHolders 73 = .ok (.iload_n 3, 1) := by decide +kernel
theorem d_M_countHolders_74 : decode c_M_countHolders 74 = .ok (.iconst 4, 1) := by decide +kernel
theorem d_M_countHolders_75 : decode c_M_countHolders 75 = .ok (.aload_n 0, 1) := by decide +kernel
theorem d_M_countHolders_76 : decode c_M_countHolders 76 = .ok (.iload_n 3, 1) := by decide +kernel
theorem d_M_countHolders_77 : decode c_M_countHolders 77 = .ok (.invokevirtual 143, 3) := by decide +kernel
theorem d_M_countHolders_80 : decode c_M_countHolders 80 = .ok (.iadd, 1) := by decide +kernel
theorem d_M_countHolders_81 : decode c_M_countHolders 81 = .ok (.iadd, 1) := by decide +kernel
theorem d_M_countHolders_82 : decode c_M_countHolders 82 = .ok (.istore_n 3, 1) := by decide +kernel
theorem d_M_countHolders_83 : decode c_M_countHolders 83 = .ok (.goto (-79), 3) := by decide +kernel
theorem d_M_countHolders_86 : decode c_M_countHolders 86 = .ok (.iload_n 2, 1) := by decide +kernel
theorem d_M_countHolders_87 : decode c_M_countHolders 87 = .ok (.ireturn, 1) := by decide +kernel
theorem d_T_init_0 : decode c_T_init 0 = .ok (.aload_n 0, 1) := by decide +kernel
theorem d_T_init_1 : decode c_T_init 1 = .ok (.invokespecial 1, 3) := by decide +kernel
theorem d_T_init_4 : decode c_T_init 4 = .ok (.aload_n 0, 1) := by decide +kernel
theorem d_T_init_5 : decode c_T_init 5 = .ok (.bipush 32, 2) := by decide +kernel
theorem d_T_init_7 : decode c_T_init 7 = .ok (.newarray .int, 2) := by decide +kernel
theorem d_T_init_9 : decode c_T_init 9 = .ok (.putfield 9, 3) := by decide +kernel
theorem d_T_init_12 : decode c_T_init 12 = .ok (.aload_n 0, 1) := by decide +kernel
theorem d_T_init_13 : decode c_T_init 13 = .ok (.new 13, 3) := by decide +kernel
theorem d_T_init_16 : decode c_T_init 16 = .ok (.dup, 1) := by decide +kernel
theorem d_T_init_17 : decode c_T_init 17 = .ok (.iload_n 1, 1) := by decide +kernel
theorem d_T_init_18 : decode c_T_init 18 = .ok (.bipush 64, 2) := by decide +kernel
theorem d_T_init_20 : decode c_T_init 20 = .ok (.ldc 15, 2) := by decide +kernel
theorem d_T_init_22 : decode c_T_init 22 = .ok (.invokestatic 16, 3) := by decide +kernel
theorem d_T_init_25 : decode c_T_init 25 = .ok (.ifCond .eq 7, 3) := by decide +kernel
theorem d_T_init_28 : decode c_T_init 28 = .ok (.iload_n 1, 1) := by decide +kernel
theorem d_T_init_29 : decode c_T_init 29 = .ok (.goto 5, 3) := by decide +kernel
theorem d_T_init_32 : decode c_T_init 32 = .ok (.ldc 15, 2) := by decide +kernel
theorem d_T_init_34 : decode c_T_init 34 = .ok (.iload_n 2, 1) := by decide +kernel
theorem d_T_init_35 : decode c_T_init 35 = .ok (.bipush 16, 2) := by decide +kernel
theorem d_T_init_37 : decode c_T_init 37 = .ok (.sipush 8192, 3) := by decide +kernel
theorem d_T_init_40 : decode c_T_init 40 = .ok (.invokestatic 16, 3) := by decide +kernel
theorem d_T_init_43 : decode c_T_init 43 = .ok (.ifCond .eq 7, 3) := by decide +kernel
theorem d_T_init_46 : decode c_T_init 46 = .ok (.iload_n 2, 1) := by decide +kernel
theorem d_T_init_47 : decode c_T_init 47 = .ok (.goto 6, 3) := by decide +kernel
theorem d_T_init_50 : decode c_T_init 50 = .ok (.sipush 8192, 3) := by decide +kernel
theorem d_T_init_53 : decode c_T_init 53 = .ok (.invokespecial 20, 3) := by decide +kernel
theorem d_T_init_56 : decode c_T_init 56 = .ok (.putfield 23, 3) := by decide +kernel
theorem d_T_init_59 : decode c_T_init 59 = .ok (.return_, 1) := by decide +kernel
theorem d_T_number_0 : decode c_T_number 0 = .ok (.iload_n 1, 1) := by decide +kernel
theorem d_T_number_1 : decode c_T_number 1 = .ok (.invokestatic 27, 3) := by decide +kernel
theorem d_T_number_4 : decode c_T_number 4 = .ok (.iload_n 2, 1) := by decide +kernel
theorem d_T_number_5 : decode c_T_number 5 = .ok (.ldc 31, 2) := by decide +kernel
theorem d_T_number_7 : decode c_T_number 7 = .ok (.ldc 32, 2) := by decide +kernel
theorem d_T_number_9 : decode c_T_number 9 = .ok (.invokestatic 33, 3) := by decide +kernel
theorem d_T_number_12 : decode c_T_number 12 = .ok (.aload_n 0, 1) := by decide +kernel
theorem d_T_number_13 : decode c_T_number 13 = .ok (.iload_n 1, 1) := by decide +kernel
theorem d_T_number_14 : decode c_T_number 14 = .ok (.iload_n 2, 1) := by decide +kernel
theorem d_T_number_15 : decode c_T_number 15 = .ok (.invokestatic 37, 3) := by decide +kernel
theorem d_T_number_18 : decode c_T_number 18 = .ok (.invokevirtual 43, 3) := by decide +kernel
theorem d_T_number_21 : decode c_T_number 21 = .ok (.return_, 1) := by decide +kernel
theorem d_T_move_0 : decode c_T_move 0 = .ok (.iload_n 1, 1) := by decide +kernel
theorem d_T_move_1 : decode c_T_move 1 = .ok (.invokestatic 27, 3) := by decide +kernel
theorem d_T_move_4 : decode c_T_move 4 = .ok (.iload_n 2, 1) := by decide +kernel
theorem d_T_move_5 : decode c_T_move 5 = .ok (.invokestatic 27, 3) := by decide +kernel
theorem d_T_move_8 : decode c_T_move 8 = .ok (.aload_n 0, 1) := by decide +kernel
theorem d_T_move_9 : decode c_T_move 9 = .ok (.iload_n 1, 1) := by decide +kernel
theorem d_T_move_10 : decode c_T_move 10 = .ok (.aload_n 0, 1) := by decide +kernel
theorem d_T_move_11 : decode c_T_move 11 = .ok (.getfield 9, 3) := by decide +kernel
theorem d_T_move_14 : decode c_T_move 14 = .ok (.iload_n 2, 1) := by decide +kernel
theorem d_T_move_15 : decode c_T_move 15 = .ok (.iaload, 1) := by decide +kernel
theorem d_T_move_16 : decode c_T_move 16 = .ok (.invokevirtual 43, 3) := by decide +kernel
theorem d_T_move_19 : decode c_T_move 19 = .ok (.return_, 1) := by decide +kernel
theorem d_T_clear_0 : decode c_T_clear 0 = .ok (.iload_n 1, 1) := by decide +kernel
theorem d_T_clear_1 : decode c_T_clear 1 = .ok (.invokestatic 27, 3) := by decide +kernel
theorem d_T_clear_4 : decode c_T_clear 4 = .ok (.aload_n 0, 1) := by decide +kernel
theorem d_T_clear_5 : decode c_T_clear 5 = .ok (.iload_n 1, 1) := by decide +kernel
theorem d_T_clear_6 : decode c_T_clear 6 = .ok (.iconst 0, 1) := by decide +kernel
theorem d_T_clear_7 : decode c_T_clear 7 = .ok (.invokevirtual 43, 3) := by decide +kernel
theorem d_T_clear_10 : decode c_T_clear 10 = .ok (.return_, 1) := by decide +kernel
theorem d_T_make_0 : decode c_T_make 0 = .ok (.iload_n 1, 1) := by decide +kernel
theorem d_T_make_1 : decode c_T_make 1 = .ok (.invokestatic 27, 3) := by decide +kernel
theorem d_T_make_4 : decode c_T_make 4 = .ok (.iload_n 2, 1) := by decide +kernel
theorem d_T_make_5 : decode c_T_make 5 = .ok (.invokestatic 27, 3) := by decide +kernel
theorem d_T_make_8 : decode c_T_make 8 = .ok (.iload_n 3, 1) := by decide +kernel
theorem d_T_make_9 : decode c_T_make 9 = .ok (.iconst 0, 1) := by decide +kernel
theorem d_T_make_10 : decode c_T_make 10 = .ok (.iload 4, 2) := by decide +kernel
theorem d_T_make_12 : decode c_T_make 12 = .ok (.ifCond .eq 9, 3) := by decide +kernel
theorem d_T_make_15 : decode c_T_make 15 = .ok (.sipush 4000, 3) := by decide +kernel
theorem d_T_make_18 : decode c_T_make 18 = .ok (.goto 6, 3) := by decide +kernel
theorem d_T_make_21 : decode c_T_make 21 = .ok (.sipush 16000, 3) := by decide +kernel
theorem d_T_make_24 : decode c_T_make 24 = .ok (.invokestatic 33, 3) := by decide +kernel
theorem d_T_make_27 : decode c_T_make 27 = .ok (.aload_n 0, 1) := by decide +kernel
theorem d_T_make_28 : decode c_T_make 28 = .ok (.getfield 23, 3) := by decide +kernel
theorem d_T_make_31 : decode c_T_make 31 = .ok (.aload_n 0, 1) := by decide +kernel
theorem d_T_make_32 : decode c_T_make 32 = .ok (.getfield 9, 3) := by decide +kernel
theorem d_T_make_35 : decode c_T_make 35 = .ok (.iload_n 2, 1) := by decide +kernel
theorem d_T_make_36 : decode c_T_make 36 = .ok (.iaload, 1) := by decide +kernel
theorem d_T_make_37 : decode c_T_make 37 = .ok (.iload_n 3, 1) := by decide +kernel
theorem d_T_make_38 : decode c_T_make 38 = .ok (.iload 4, 2) := by decide +kernel
theorem d_T_make_40 : decode c_T_make 40 = .ok (.invokestatic 46, 3) := by decide +kernel
theorem d_T_make_43 : decode c_T_make 43 = .ok (.aload_n 0, 1) := by decide +kernel
theorem d_T_make_44 : decode c_T_make 44 = .ok (.getfield 9, 3) := by decide +kernel
theorem d_T_make_47 : decode c_T_make 47 = .ok (.invokevirtual 50, 3) := by decide +kernel
theorem d_T_make_50 : decode c_T_make 50 = .ok (.istore 5, 2) := by decide +kernel
theorem d_T_make_52 : decode c_T_make 52 = .ok (.iload 5, 2) := by decide +kernel
theorem d_T_make_54 : decode c_T_make 54 = .ok (.invokestatic 54, 3) := by decide +kernel
theorem d_T_make_57 : decode c_T_make 57 = .ok (.aload_n 0, 1) := by decide +kernel
theorem d_T_make_58 : decode c_T_make 58 = .ok (.iload_n 1, 1) := by decide +kernel
theorem d_T_make_59 : decode c_T_make 59 = .ok (.iload 5, 2) := by decide +kernel
theorem d_T_make_61 : decode c_T_make 61 = .ok (.invokevirtual 43, 3) := by decide +kernel
theorem d_T_make_64 : decode c_T_make 64 = .ok (.aload_n 0, 1) := by decide +kernel
theorem d_T_make_65 : decode c_T_make 65 = .ok (.getfield 23, 3) := by decide +kernel
theorem d_T_make_68 : decode c_T_make 68 = .ok (.iload 5, 2) := by decide +kernel
theorem d_T_make_70 : decode c_T_make 70 = .ok (.invokevirtual 57, 3) := by decide +kernel
theorem d_T_make_73 : decode c_T_make 73 = .ok (.ireturn, 1) := by decide +kernel
theorem d_T_copy_0 : decode c_T_copy 0 = .ok (.iload_n 1, 1) := by decide +kernel
theorem d_T_copy_1 : decode c_T_copy 1 = .ok (.invokestatic 27, 3) := by decide +kernel
theorem d_T_copy_4 : decode c_T_copy 4 = .ok (.aload_n 0, 1) := by decide +kernel
theorem d_T_copy_5 : decode c_T_copy 5 = .ok (.iload_n 2, 1) := by decide +kernel
theorem d_T_copy_6 : decode c_T_copy 6 = .ok (.invokevirtual 60, 3) := by decide +kernel
theorem d_T_copy_9 : decode c_T_copy 9 = .ok (.aload_n 0, 1) := by decide +kernel
theorem d_T_copy_10 : decode c_T_copy 10 = .ok (.getfield 9, 3) := by decide +kernel
theorem d_T_copy_13 : decode c_T_copy 13 = .ok (.iload_n 2, 1) := by decide +kernel
theorem d_T_copy_14 : decode c_T_copy 14 = .ok (.iaload, 1) := by decide +kernel
theorem d_T_copy_15 : decode c_T_copy 15 = .ok (.istore_n 3, 1) := by decide +kernel
theorem d_T_copy_16 : decode c_T_copy 16 = .ok (.aload_n 0, 1) := by decide +kernel
theorem d_T_copy_17 : decode c_T_copy 17 = .ok (.getfield 23, 3) := by decide +kernel
theorem d_T_copy_20 : decode c_T_copy 20 = .ok (.aload_n 0, 1) := by decide +kernel
theorem d_T_copy_21 : decode c_T_copy 21 = .ok (.getfield 23, 3) := by decide +kernel
theorem d_T_copy_24 : decode c_T_copy 24 = .ok (.iload_n 3, 1) := by decide +kernel
theorem d_T_copy_25 : decode c_T_copy 25 = .ok (.invokevirtual 63, 3) := by decide +kernel
theorem d_T_copy_28 : decode c_T_copy 28 = .ok (.aload_n 0, 1) := by decide +kernel
theorem d_T_copy_29 : decode c_T_copy 29 = .ok (.getfield 23, 3) := by decide +kernel
theorem d_T_copy_32 : decode c_T_copy 32 = .ok (.iload_n 3, 1) := by decide +kernel
theorem d_T_copy_33 : decode c_T_copy 33 = .ok (.invokevirtual 66, 3) := by decide +kernel
theorem d_T_copy_36 : decode c_T_copy 36 = .ok (.aload_n 0, 1) := by decide +kernel
theorem d_T_copy_37 : decode c_T_copy 37 = .ok (.getfield 9, 3) := by decide +kernel
theorem d_T_copy_40 : decode c_T_copy 40 = .ok (.invokevirtual 50, 3) := by decide +kernel
theorem d_T_copy_43 : decode c_T_copy 43 = .ok (.istore 4, 2) := by decide +kernel
theorem d_T_copy_45 : decode c_T_copy 45 = .ok (.iload 4, 2) := by decide +kernel
theorem d_T_copy_47 : decode c_T_copy 47 = .ok (.invokestatic 54, 3) := by decide +kernel
theorem d_T_copy_50 : decode c_T_copy 50 = .ok (.aload_n 0, 1) := by decide +kernel
theorem d_T_copy_51 : decode c_T_copy 51 = .ok (.getfield 23, 3) := by decide +kernel
theorem d_T_copy_54 : decode c_T_copy 54 = .ok (.iload 4, 2) := by decide +kernel
theorem d_T_copy_56 : decode c_T_copy 56 = .ok (.iload_n 3, 1) := by decide +kernel
theorem d_T_copy_57 : decode c_T_copy 57 = .ok (.invokevirtual 69, 3) := by decide +kernel
theorem d_T_copy_60 : decode c_T_copy 60 = .ok (.aload_n 0, 1) := by decide +kernel
theorem d_T_copy_61 : decode c_T_copy 61 = .ok (.iload_n 1, 1) := by decide +kernel
theorem d_T_copy_62 : decode c_T_copy 62 = .ok (.iload 4, 2) := by decide +kernel
theorem d_T_copy_64 : decode c_T_copy 64 = .ok (.invokevirtual 43, 3) := by decide +kernel
theorem d_T_copy_67 : decode c_T_copy 67 = .ok (.aload_n 0, 1) := by decide +kernel
theorem d_T_copy_68 : decode c_T_copy 68 = .ok (.getfield 23, 3) := by decide +kernel
theorem d_T_copy_71 : decode c_T_copy 71 = .ok (.iload 4, 2) := by decide +kernel
theorem d_T_copy_73 : decode c_T_copy 73 = .ok (.invokevirtual 57, 3) := by decide +kernel
theorem d_T_copy_76 : decode c_T_copy 76 = .ok (.ireturn, 1) := by decide +kernel
theorem d_T_chain_0 : decode c_T_chain 0 = .ok (.iload_n 1, 1) := by decide +kernel
theorem d_T_chain_1 : decode c_T_chain 1 = .ok (.invokestatic 27, 3) := by decide +kernel
theorem d_T_chain_4 : decode c_T_chain 4 = .ok (.iload_n 2, 1) := by decide +kernel
theorem d_T_chain_5 : decode c_T_chain 5 = .ok (.invokestatic 27, 3) := by decide +kernel
theorem d_T_chain_8 : decode c_T_chain 8 = .ok (.iload_n 3, 1) := by decide +kernel
theorem d_T_chain_9 : decode c_T_chain 9 = .ok (.iconst 1, 1) := by decide +kernel
theorem d_T_chain_10 : decode c_T_chain 10 = .ok (.bipush 100, 2) := by decide +kernel
theorem d_T_chain_12 : decode c_T_chain 12 = .ok (.invokestatic 33, 3) := by decide +kernel
theorem d_T_chain_15 : decode c_T_chain 15 = .ok (.iload 4, 2) := by decide +kernel
theorem d_T_chain_17 : decode c_T_chain 17 = .ok (.iconst 1, 1) := by decide +kernel
theorem d_T_chain_18 : decode c_T_chain 18 = .ok (.sipush 4000, 3) := by decide +kernel
theorem d_T_chain_21 : decode c_T_chain 21 = .ok (.invokestatic 33, 3) := by decide +kernel
theorem d_T_chain_24 : decode c_T_chain 24 = .ok (.iload_n 3, 1) := by decide +kernel
theorem d_T_chain_25 : decode c_T_chain 25 = .ok (.iconst 1, 1) := by decide +kernel
theorem d_T_chain_26 : decode c_T_chain 26 = .ok (.invokestatic 46, 3) := by decide +kernel
theorem d_T_chain_29 : decode c_T_chain 29 = .ok (.istore 5, 2) := by decide +kernel
theorem d_T_chain_31 : decode c_T_chain 31 = .ok (.iconst 0, 1) := by decide +kernel
theorem d_T_chain_32 : decode c_T_chain 32 = .ok (.istore 6, 2) := by decide +kernel
theorem d_T_chain_34 : decode c_T_chain 34 = .ok (.iload 6, 2) := by decide +kernel
theorem d_T_chain_36 : decode c_T_chain 36 = .ok (.iload 4, 2) := by decide +kernel
theorem d_T_chain_38 : decode c_T_chain 38 = .ok (.if_icmp .ge 62, 3) := by decide +kernel
theorem d_T_chain_41 : decode c_T_chain 41 = .ok (.aload_n 0, 1) := by decide +kernel
theorem d_T_chain_42 : decode c_T_chain 42 = .ok (.getfield 23, 3) := by decide +kernel
theorem d_T_chain_45 : decode c_T_chain 45 = .ok (.aload_n 0, 1) := by decide +kernel
theorem d_T_chain_46 : decode c_T_chain 46 = .ok (.getfield 9, 3) := by decide +kernel
theorem d_T_chain_49 : decode c_T_chain 49 = .ok (.iload_n 2, 1) := by decide +kernel
theorem d_T_chain_50 : decode c_T_chain 50 = .ok (.iaload, 1) := by decide +kernel
theorem d_T_chain_51 : decode c_T_chain 51 = .ok (.iload 5, 2) := by decide +kernel
theorem d_T_chain_53 : decode c_T_chain 53 = .ok (.aload_n 0, 1) := by decide +kernel
theorem d_T_chain_54 : decode c_T_chain 54 = .ok (.getfield 9, 3) := by decide +kernel
theorem d_T_chain_57 : decode c_T_chain 57 = .ok (.invokevirtual 50, 3) := by decide +kernel
theorem d_T_chain_60 : decode c_T_chain 60 = .ok (.istore 7, 2) := by decide +kernel
theorem d_T_chain_62 : decode c_T_chain 62 = .ok (.iload 7, 2) := by decide +kernel
theorem d_T_chain_64 : decode c_T_chain 64 = .ok (.ifCond .ne 6, 3) := by decide +kernel
theorem d_T_chain_67 : decode c_T_chain 67 = .ok (.iload 6, 2) := by decide +kernel
theorem d_T_chain_69 : decode c_T_chain 69 = .ok (.ireturn, 1) := by decide +kernel
theorem d_T_chain_70 : decode c_T_chain 70 = .ok (.aload_n 0, 1) := by decide +kernel
theorem d_T_chain_71 : decode c_T_chain 71 = .ok (.getfield 23, 3) := by decide +kernel
theorem d_T_chain_74 : decode c_T_chain 74 = .ok (.iload 7, 2) := by decide +kernel
theorem d_T_chain_76 : decode c_T_chain 76 = .ok (.iconst 0, 1) := by decide +kernel
theorem d_T_chain_77 : decode c_T_chain 77 = .ok (.aload_n 0, 1) := by decide +kernel
theorem d_T_chain_78 : decode c_T_chain 78 = .ok (.getfield 9, 3) := by decide +kernel
theorem d_T_chain_81 : decode c_T_chain 81 = .ok (.iload_n 1, 1) := by decide +kernel
theorem d_T_chain_82 : decode c_T_chain 82 = .ok (.iaload, 1) := by decide +kernel
theorem d_T_chain_83 : decode c_T_chain 83 = .ok (.invokevirtual 72, 3) := by decide +kernel
theorem d_T_chain_86 : decode c_T_chain 86 = .ok (.aload_n 0, 1) := by decide +kernel
theorem d_T_chain_87 : decode c_T_chain 87 = .ok (.getfield 9, 3) := by decide +kernel
theorem d_T_chain_90 : decode c_T_chain 90 = .ok (.iload_n 1, 1) := by decide +kernel
theorem d_T_chain_91 : decode c_T_chain 91 = .ok (.iload 7, 2) := by decide +kernel
theorem d_T_chain_93 : decode c_T_chain 93 = .ok (.iastore, 1) := by decide +kernel
theorem d_T_chain_94 : decode c_T_chain 94 = .ok (.iinc 6 1, 3) := by decide +kernel
theorem d_T_chain_97 : decode c_T_chain 97 = .ok (.goto (-63), 3) := by decide +kernel
theorem d_T_chain_100 : decode c_T_chain 100 = .ok (.iload 4, 2) := by decide +kernel
theorem d_T_chain_102 : decode c_T_chain 102 = .ok (.ireturn, 1) := by decide +kernel
theorem d_T_get_0 : decode c_T_get 0 = .ok (.iload_n 1, 1) := by decide +kernel
theorem d_T_get_1 : decode c_T_get 1 = .ok (.invokestatic 27, 3) := by decide +kernel
theorem d_T_get_4 : decode c_T_get 4 = .ok (.aload_n 0, 1) := by decide +kernel
theorem d_T_get_5 : decode c_T_get 5 = .ok (.iload_n 2, 1) := by decide +kernel
theorem d_T_get_6 : decode c_T_get 6 = .ok (.invokevirtual 75, 3) := by decide +kernel
theorem d_T_get_9 : decode c_T_get 9 = .ok (.aload_n 0, 1) := by decide +kernel
theorem d_T_get_10 : decode c_T_get 10 = .ok (.iload_n 2, 1) := by decide +kernel
theorem d_T_get_11 : decode c_T_get 11 = .ok (.iload_n 3, 1) := by decide +kernel
theorem d_T_get_12 : decode c_T_get 12 = .ok (.invokevirtual 78, 3) := by decide +kernel
theorem d_T_get_15 : decode c_T_get 15 = .ok (.aload_n 0, 1) := by decide +kernel
theorem d_T_get_16 : decode c_T_get 16 = .ok (.iload_n 1, 1) := by decide +kernel
theorem d_T_get_17 : decode c_T_get 17 = .ok (.aload_n 0, 1) := by decide +kernel
theorem d_T_get_18 : decode c_T_get 18 = .ok (.getfield 23, 3) := by decide +kernel
theorem d_T_get_21 : decode c_T_get 21 = .ok (.aload_n 0, 1) := by decide +kernel
theorem d_T_get_22 : decode c_T_get 22 = .ok (.getfield 9, 3) := by decide +kernel
theorem d_T_get_25 : decode c_T_get 25 = .ok (.iload_n 2, 1) := by decide +kernel
theorem d_T_get_26 : decode c_T_get 26 = .ok (.iaload, 1) := by decide +kernel
theorem d_T_get_27 : decode c_T_get 27 = .ok (.iload_n 3, 1) := by decide +kernel
theorem d_T_get_28 : decode c_T_get 28 = .ok (.invokevirtual 81, 3) := by decide +kernel
theorem d_T_get_31 : decode c_T_get 31 = .ok (.invokevirtual 43, 3) := by decide +kernel
theorem d_T_get_34 : decode c_T_get 34 = .ok (.return_, 1) := by decide +kernel
theorem d_T_put_0 : decode c_T_put 0 = .ok (.iload_n 3, 1) := by decide +kernel
theorem d_T_put_1 : decode c_T_put 1 = .ok (.invokestatic 27, 3) := by decide +kernel
theorem d_T_put_4 : decode c_T_put 4 = .ok (.aload_n 0, 1) := by decide +kernel
theorem d_T_put_5 : decode c_T_put 5 = .ok (.iload_n 1, 1) := by decide +kernel
theorem d_T_put_6 : decode c_T_put 6 = .ok (.invokevirtual 75, 3) := by decide +kernel
theorem d_T_put_9 : decode c_T_put 9 = .ok (.aload_n 0, 1) := by decide +kernel
theorem d_T_put_10 : decode c_T_put 10 = .ok (.iload_n 1, 1) := by decide +kernel
theorem d_T_put_11 : decode c_T_put 11 = .ok (.iload_n 2, 1) := by decide +kernel
theorem d_T_put_12 : decode c_T_put 12 = .ok (.invokevirtual 78, 3) := by decide +kernel
theorem d_T_put_15 : decode c_T_put 15 = .ok (.aload_n 0, 1) := by decide +kernel
theorem d_T_put_16 : decode c_T_put 16 = .ok (.getfield 23, 3) := by decide +kernel
theorem d_T_put_19 : decode c_T_put 19 = .ok (.aload_n 0, 1) := by decide +kernel
theorem d_T_put_20 : decode c_T_put 20 = .ok (.getfield 9, 3) := by decide +kernel
theorem d_T_put_23 : decode c_T_put 23 = .ok (.iload_n 1, 1) := by decide +kernel
theorem d_T_put_24 : decode c_T_put 24 = .ok (.iaload, 1) := by decide +kernel
theorem d_T_put_25 : decode c_T_put 25 = .ok (.iload_n 2, 1) := by decide +kernel
theorem d_T_put_26 : decode c_T_put 26 = .ok (.aload_n 0, 1) := by decide +kernel
theorem d_T_put_27 : decode c_T_put 27 = .ok (.getfield 9, 3) := by decide +kernel
theorem d_T_put_30 : decode c_T_put 30 = .ok (.iload_n 3, 1) := by decide +kernel
theorem d_T_put_31 : decode c_T_put 31 = .ok (.iaload, 1) := by decide +kernel
theorem d_T_put_32 : decode c_T_put 32 = .ok (.invokevirtual 72, 3) := by decide +kernel
theorem d_T_put_35 : decode c_T_put 35 = .ok (.return_, 1) := by decide +kernel
theorem d_T_walk_0 : decode c_T_walk 0 = .ok (.iload_n 1, 1) := by decide +kernel
theorem d_T_walk_1 : decode c_T_walk 1 = .ok (.invokestatic 27, 3) := by decide +kernel
theorem d_T_walk_4 : decode c_T_walk 4 = .ok (.iload_n 3, 1) := by decide +kernel
theorem d_T_walk_5 : decode c_T_walk 5 = .ok (.iconst 0, 1) := by decide +kernel
theorem d_T_walk_6 : decode c_T_walk 6 = .ok (.sipush 10000, 3) := by decide +kernel
theorem d_T_walk_9 : decode c_T_walk 9 = .ok (.invokestatic 33, 3) := by decide +kernel
theorem d_T_walk_12 : decode c_T_walk 12 = .ok (.aload_n 0, 1) := by decide +kernel
theorem d_T_walk_13 : decode c_T_walk 13 = .ok (.getfield 9, 3) := by decide +kernel
theorem d_T_walk_16 : decode c_T_walk 16 = .ok (.iload_n 1, 1) := by decide +kernel
theorem d_T_walk_17 : decode c_T_walk 17 = .ok (.iaload, 1) := by decide +kernel
theorem d_T_walk_18 : decode c_T_walk 18 = .ok (.istore 4, 2) := by decide +kernel
theorem d_T_walk_20 : decode c_T_walk 20 = .ok (.iconst 0, 1) := by decide +kernel
theorem d_T_walk_21 : decode c_T_walk 21 = .ok (.istore 5, 2) := by decide +kernel
theorem d_T_walk_23 : decode c_T_walk 23 = .ok (.iload 5, 2) := by decide +kernel
theorem d_T_walk_25 : decode c_T_walk 25 = .ok (.iload_n 3, 1) := by decide +kernel
theorem d_T_walk_26 : decode c_T_walk 26 = .ok (.if_icmp .ge 34, 3) := by decide +kernel
theorem d_T_walk_29 : decode c_T_walk 29 = .ok (.aload_n 0, 1) := by decide +kernel
theorem d_T_walk_30 : decode c_T_walk 30 = .ok (.getfield 23, 3) := by decide +kernel
theorem d_T_walk_33 : decode c_T_walk 33 = .ok (.iload 4, 2) := by decide +kernel
theorem d_T_walk_35 : decode c_T_walk 35 = .ok (.iload_n 2, 1) := by decide +kernel
theorem d_T_walk_36 : decode c_T_walk 36 = .ok (.invokevirtual 85, 3) := by decide +kernel
theorem d_T_walk_39 : decode c_T_walk 39 = .ok (.ifCond .eq 21, 3) := by decide +kernel
theorem d_T_walk_42 : decode c_T_walk 42 = .ok (.aload_n 0, 1) := by decide +kernel
theorem d_T_walk_43 : decode c_T_walk 43 = .ok (.getfield 23, 3) := by decide +kernel
theorem d_T_walk_46 : decode c_T_walk 46 = .ok (.iload 4, 2) := by decide +kernel
theorem d_T_walk_48 : decode c_T_walk 48 = .ok (.iload_n 2, 1) := by decide +kernel
theorem d_T_walk_49 : decode c_T_walk 49 = .ok (.invokevirtual 81, 3) := by decide +kernel
theorem d_T_walk_52 : decode c_T_walk 52 = .ok (.istore 4, 2) := by decide +kernel
theorem d_T_walk_54 : decode c_T_walk 54 = .ok (.iinc 5 1, 3) := by decide +kernel
theorem d_T_walk_57 : decode c_T_walk 57 = .ok (.goto (-34), 3) := by decide +kernel
theorem d_T_walk_60 : decode c_T_walk 60 = .ok (.aload_n 0, 1) := by decide +kernel
theorem d_T_walk_61 : decode c_T_walk 61 = .ok (.iload_n 1, 1) := by decide +kernel
theorem d_T_walk_62 : decode c_T_walk 62 = .ok (.iload 4, 2) := by decide +kernel
theorem d_T_walk_64 : decode c_T_walk 64 = .ok (.invokevirtual 43, 3) := by decide +kernel
theorem d_T_walk_67 : decode c_T_walk 67 = .ok (.iload 5, 2) := by decide +kernel
theorem d_T_walk_69 : decode c_T_walk 69 = .ok (.ireturn, 1) := by decide +kernel
theorem d_T_classOf_0 : decode c_T_classOf 0 = .ok (.iload_n 1, 1) := by decide +kernel
theorem d_T_classOf_1 : decode c_T_classOf 1 = .ok (.invokestatic 27, 3) := by decide +kernel
theorem d_T_classOf_4 : decode c_T_classOf 4 = .ok (.aload_n 0, 1) := by decide +kernel
theorem d_T_classOf_5 : decode c_T_classOf 5 = .ok (.iload_n 2, 1) := by decide +kernel
theorem d_T_classOf_6 : decode c_T_classOf 6 = .ok (.invokevirtual 60, 3) := by decide +kernel
theorem d_T_classOf_9 : decode c_T_classOf 9 = .ok (.aload_n 0, 1) := by decide +kernel
theorem d_T_classOf_10 : decode c_T_classOf 10 = .ok (.iload_n 1, 1) := by decide +kernel
theorem d_T_classOf_11 : decode c_T_classOf 11 = .ok (.aload_n 0, 1) := by decide +kernel
theorem d_T_classOf_12 : decode c_T_classOf 12 = .ok (.getfield 23, 3) := by decide +kernel
theorem d_T_classOf_15 : decode c_T_classOf 15 = .ok (.aload_n 0, 1) := by decide +kernel
theorem d_T_classOf_16 : decode c_T_classOf 16 = .ok (.getfield 9, 3) := by decide +kernel
theorem d_T_classOf_19 : decode c_T_classOf 19 = .ok (.iload_n 2, 1) := by decide +kernel
theorem d_T_classOf_20 : decode c_T_classOf 20 = .ok (.iaload, 1) := by decide +kernel
theorem d_T_classOf_21 : decode c_T_classOf 21 = .ok (.invokevirtual 63, 3) := by decide +kernel
theorem d_T_classOf_24 : decode c_T_classOf 24 = .ok (.invokevirtual 43, 3) := by decide +kernel
theorem d_T_classOf_27 : decode c_T_classOf 27 = .ok (.return_, 1) := by decide +kernel
theorem d_T_setClass_0 : decode c_T_setClass 0 = .ok (.aload_n 0, 1) := by decide +kernel
theorem d_T_setClass_1 : decode c_T_setClass 1 = .ok (.iload_n 1, 1) := by decide +kernel
theorem d_T_setClass_2 : decode c_T_setClass 2 = .ok (.invokevirtual 60, 3) := by decide +kernel
theorem d_T_setClass_5 : decode c_T_setClass 5 = .ok (.iload_n 2, 1) := by decide +kernel
theorem d_T_setClass_6 : decode c_T_setClass 6 = .ok (.invokestatic 27, 3) := by decide +kernel
theorem d_T_setClass_9 : decode c_T_setClass 9 = .ok (.aload_n 0, 1) := by decide +kernel
theorem d_T_setClass_10 : decode c_T_setClass 10 = .ok (.getfield 23, 3) := by decide +kernel
theorem d_T_setClass_13 : decode c_T_setClass 13 = .ok (.aload_n 0, 1) := by decide +kernel
theorem d_T_setClass_14 : decode c_T_setClass 14 = .ok (.getfield 9, 3) := by decide +kernel
theorem d_T_setClass_17 : decode c_T_setClass 17 = .ok (.iload_n 1, 1) := by decide +kernel
theorem d_T_setClass_18 : decode c_T_setClass 18 = .ok (.iaload, 1) := by decide +kernel
theorem d_T_setClass_19 : decode c_T_setClass 19 = .ok (.aload_n 0, 1) := by decide +kernel
theorem d_T_setClass_20 : decode c_T_setClass 20 = .ok (.getfield 9, 3) := by decide +kernel
theorem d_T_setClass_23 : decode c_T_setClass 23 = .ok (.iload_n 2, 1) := by decide +kernel
theorem d_T_setClass_24 : decode c_T_setClass 24 = .ok (.iaload, 1) := by decide +kernel
theorem d_T_setClass_25 : decode c_T_setClass 25 = .ok (.invokevirtual 89, 3) := by decide +kernel
theorem d_T_setClass_28 : decode c_T_setClass 28 = .ok (.return_, 1) := by decide +kernel
theorem d_T_byteAt_0 : decode c_T_byteAt 0 = .ok (.aload_n 0, 1) := by decide +kernel
theorem d_T_byteAt_1 : decode c_T_byteAt 1 = .ok (.iload_n 1, 1) := by decide +kernel
theorem d_T_byteAt_2 : decode c_T_byteAt 2 = .ok (.invokevirtual 92, 3) := by decide +kernel
theorem d_T_byteAt_5 : decode c_T_byteAt 5 = .ok (.aload_n 0, 1) := by decide +kernel
theorem d_T_byteAt_6 : decode c_T_byteAt 6 = .ok (.iload_n 1, 1) := by decide +kernel
theorem d_T_byteAt_7 : decode c_T_byteAt 7 = .ok (.iload_n 2, 1) := by decide +kernel
theorem d_T_byteAt_8 : decode c_T_byteAt 8 = .ok (.invokevirtual 78, 3) := by decide +kernel
theorem d_T_byteAt_11 : decode c_T_byteAt 11 = .ok (.aload_n 0, 1) := by decide +kernel
theorem d_T_byteAt_12 : decode c_T_byteAt 12 = .ok (.getfield 23, 3) := by decide +kernel
theorem d_T_byteAt_15 : decode c_T_byteAt 15 = .ok (.aload_n 0, 1) := by decide +kernel
theorem d_T_byteAt_16 : decode c_T_byteAt 16 = .ok (.getfield 9, 3) := by decide +kernel
theorem d_T_byteAt_19 : decode c_T_byteAt 19 = .ok (.iload_n 1, 1) := by decide +kernel
theorem d_T_byteAt_20 : decode c_T_byteAt 20 = .ok (.iaload, 1) := by decide +kernel
theorem d_T_byteAt_21 : decode c_T_byteAt 21 = .ok (.iload_n 2, 1) := by decide +kernel
theorem d_T_byteAt_22 : decode c_T_byteAt 22 = .ok (.invokevirtual 95, 3) := by decide +kernel
theorem d_T_byteAt_25 : decode c_T_byteAt 25 = .ok (.ireturn, 1) := by decide +kernel
theorem d_T_bytePut_0 : decode c_T_bytePut 0 = .ok (.aload_n 0, 1) := by decide +kernel
theorem d_T_bytePut_1 : decode c_T_bytePut 1 = .ok (.iload_n 1, 1) := by decide +kernel
theorem d_T_bytePut_2 : decode c_T_bytePut 2 = .ok (.invokevirtual 92, 3) := by decide +kernel
theorem d_T_bytePut_5 : decode c_T_bytePut 5 = .ok (.aload_n 0, 1) := by decide +kernel
theorem d_T_bytePut_6 : decode c_T_bytePut 6 = .ok (.iload_n 1, 1) := by decide +kernel
theorem d_T_bytePut_7 : decode c_T_bytePut 7 = .ok (.iload_n 2, 1) := by decide +kernel
theorem d_T_bytePut_8 : decode c_T_bytePut 8 = .ok (.invokevirtual 78, 3) := by decide +kernel
theorem d_T_bytePut_11 : decode c_T_bytePut 11 = .ok (.aload_n 0, 1) := by decide +kernel
theorem d_T_bytePut_12 : decode c_T_bytePut 12 = .ok (.getfield 9, 3) := by decide +kernel
theorem d_T_bytePut_15 : decode c_T_bytePut 15 = .ok (.iload_n 1, 1) := by decide +kernel
theorem d_T_bytePut_16 : decode c_T_bytePut 16 = .ok (.iaload, 1) := by decide +kernel
theorem d_T_bytePut_17 : decode c_T_bytePut 17 = .ok (.istore 5, 2) := by decide +kernel
theorem d_T_bytePut_19 : decode c_T_bytePut 19 = .ok (.bipush 8, 2) := by decide +kernel
theorem d_T_bytePut_21 : decode c_T_bytePut 21 = .ok (.aload_n 0, 1) := by decide +kernel
theorem d_T_bytePut_22 : decode c_T_bytePut 22 = .ok (.getfield 23, 3) := by decide +kernel
theorem d_T_bytePut_25 : decode c_T_bytePut 25 = .ok (.iload 5, 2) := by decide +kernel
theorem d_T_bytePut_27 : decode c_T_bytePut 27 = .ok (.invokevirtual 98, 3) := by decide +kernel
theorem d_T_bytePut_30 : decode c_T_bytePut 30 = .ok (.iload_n 2, 1) := by decide +kernel
theorem d_T_bytePut_31 : decode c_T_bytePut 31 = .ok (.isub, 1) := by decide +kernel
theorem d_T_bytePut_32 : decode c_T_bytePut 32 = .ok (.invokestatic 101, 3) := by decide +kernel
theorem d_T_bytePut_35 : decode c_T_bytePut 35 = .ok (.istore 6, 2) := by decide +kernel
theorem d_T_bytePut_37 : decode c_T_bytePut 37 = .ok (.iconst 0, 1) := by decide +kernel
theorem d_T_bytePut_38 : decode c_T_bytePut 38 = .ok (.istore 7, 2) := by decide +kernel
theorem d_T_bytePut_40 : decode c_T_bytePut 40 = .ok (.iload 7, 2) := by decide +kernel
theorem d_T_bytePut_42 : decode c_T_bytePut 42 = .ok (.iload 6, 2) := by decide +kernel
theorem d_T_bytePut_44 : decode c_T_bytePut 44 = .ok (.if_icmp .ge 41, 3) := by decide +kernel
theorem d_T_bytePut_47 : decode c_T_bytePut 47 = .ok (.bipush 8, 2) := by decide +kernel
theorem d_T_bytePut_49 : decode c_T_bytePut 49 = .ok (.bipush 7, 2) := by decide +kernel
theorem d_T_bytePut_51 : decode c_T_bytePut 51 = .ok (.iload 7, 2) := by decide +kernel
theorem d_T_bytePut_53 : decode c_T_bytePut 53 = .ok (.isub, 1) := by decide +kernel
theorem d_T_bytePut_54 : decode c_T_bytePut 54 = .ok (.imul, 1) := by decide +kernel
theorem d_T_bytePut_55 : decode c_T_bytePut 55 = .ok (.istore 8, 2) := by decide +kernel
theorem d_T_bytePut_57 : decode c_T_bytePut 57 = .ok (.aload_n 0, 1) := by decide +kernel
theorem d_T_bytePut_58 : decode c_T_bytePut 58 = .ok (.getfield 23, 3) := by decide +kernel
theorem d_T_bytePut_61 : decode c_T_bytePut 61 = .ok (.iload 5, 2) := by decide +kernel
theorem d_T_bytePut_63 : decode c_T_bytePut 63 = .ok (.iload_n 2, 1) := by decide +kernel
theorem d_T_bytePut_64 : decode c_T_bytePut 64 = .ok (.iload 7, 2) := by decide +kernel
theorem d_T_bytePut_66 : decode c_T_bytePut 66 = .ok (.iadd, 1) := by decide +kernel
theorem d_T_bytePut_67 : decode c_T_bytePut 67 = .ok (.lload_n 3, 1) := by decide +kernel
theorem d_T_bytePut_68 : decode c_T_bytePut 68 = .ok (.iload 8, 2) := by decide +kernel
theorem d_T_bytePut_70 : decode c_T_bytePut 70 = .ok (.lushr, 1) := by decide +kernel
theorem d_T_bytePut_71 : decode c_T_bytePut 71 = .ok (.l2i, 1) := by decide +kernel
theorem d_T_bytePut_72 : decode c_T_bytePut 72 = .ok (.sipush 255, 3) := by decide +kernel
theorem d_T_bytePut_75 : decode c_T_bytePut 75 = .ok (.iand, 1) := by decide +kernel
theorem d_T_bytePut_76 : decode c_T_bytePut 76 = .ok (.invokevirtual 106, 3) := by decide +kernel
theorem d_T_bytePut_79 : decode c_T_bytePut 79 = .ok (.iinc 7 1, 3) := by decide +kernel
theorem d_T_bytePut_82 : decode c_T_bytePut 82 = .ok (.goto (-42), 3) := by decide +kernel
theorem d_T_bytePut_85 : decode c_T_bytePut 85 = .ok (.return_, 1) := by decide +kernel
theorem d_T_kind_0 : decode c_T_kind 0 = .ok (.iload_n 1, 1) := by decide +kernel
theorem d_T_kind_1 : decode c_T_kind 1 = .ok (.invokestatic 27, 3) := by decide +kernel
theorem d_T_kind_4 : decode c_T_kind 4 = .ok (.aload_n 0, 1) := by decide +kernel
theorem d_T_kind_5 : decode c_T_kind 5 = .ok (.getfield 9, 3) := by decide +kernel
theorem d_T_kind_8 : decode c_T_kind 8 = .ok (.iload_n 1, 1) := by decide +kernel
theorem d_T_kind_9 : decode c_T_kind 9 = .ok (.iaload, 1) := by decide +kernel
theorem d_T_kind_10 : decode c_T_kind 10 = .ok (.istore_n 2, 1) := by decide +kernel
theorem d_T_kind_11 : decode c_T_kind 11 = .ok (.iload_n 2, 1) := by decide +kernel
theorem d_T_kind_12 : decode c_T_kind 12 = .ok (.ifCond .ne 5, 3) := by decide +kernel
theorem d_T_kind_15 : decode c_T_kind 15 = .ok (.iconst 0, 1) := by decide +kernel
theorem d_T_kind_16 : decode c_T_kind 16 = .ok (.ireturn, 1) := by decide +kernel
theorem d_T_kind_17 : decode c_T_kind 17 = .ok (.iload_n 2, 1) := by decide +kernel
theorem d_T_kind_18 : decode c_T_kind 18 = .ok (.invokestatic 109, 3) := by decide +kernel
theorem d_T_kind_21 : decode c_T_kind 21 = .ok (.ifCond .eq 5, 3) := by decide +kernel
theorem d_T_kind_24 : decode c_T_kind 24 = .ok (.iconst 1, 1) := by decide +kernel
theorem d_T_kind_25 : decode c_T_kind 25 = .ok (.ireturn, 1) := by decide +kernel
theorem d_T_kind_26 : decode c_T_kind 26 = .ok (.aload_n 0, 1) := by decide +kernel
theorem d_T_kind_27 : decode c_T_kind 27 = .ok (.getfield 23, 3) := by decide +kernel
theorem d_T_kind_30 : decode c_T_kind 30 = .ok (.iload_n 2, 1) := by decide +kernel
theorem d_T_kind_31 : decode c_T_kind 31 = .ok (.invokevirtual 113, 3) := by decide +kernel
theorem d_T_kind_34 : decode c_T_kind 34 = .ok (.ifCond .eq 7, 3) := by decide +kernel
theorem d_T_kind_37 : decode c_T_kind 37 = .ok (.iconst 2, 1) := by decide +kernel
theorem d_T_kind_38 : decode c_T_kind 38 = .ok (.goto 4, 3) := by decide +kernel
theorem d_T_kind_41 : decode c_T_kind 41 = .ok (.iconst 3, 1) := by decide +kernel
theorem d_T_kind_42 : decode c_T_kind 42 = .ok (.ireturn, 1) := by decide +kernel
theorem d_T_value_0 : decode c_T_value 0 = .ok (.iload_n 1, 1) := by decide +kernel
theorem d_T_value_1 : decode c_T_value 1 = .ok (.invokestatic 27, 3) := by decide +kernel
theorem d_T_value_4 : decode c_T_value 4 = .ok (.aload_n 0, 1) := by decide +kernel
theorem d_T_value_5 : decode c_T_value 5 = .ok (.getfield 9, 3) := by decide +kernel
theorem d_T_value_8 : decode c_T_value 8 = .ok (.iload_n 1, 1) := by decide +kernel
theorem d_T_value_9 : decode c_T_value 9 = .ok (.iaload, 1) := by decide +kernel
theorem d_T_value_10 : decode c_T_value 10 = .ok (.istore_n 2, 1) := by decide +kernel
theorem d_T_value_11 : decode c_T_value 11 = .ok (.iload_n 2, 1) := by decide +kernel
theorem d_T_value_12 : decode c_T_value 12 = .ok (.ifCond .ne 5, 3) := by decide +kernel
theorem d_T_value_15 : decode c_T_value 15 = .ok (.iconst 0, 1) := by decide +kernel
theorem d_T_value_16 : decode c_T_value 16 = .ok (.ireturn, 1) := by decide +kernel
theorem d_T_value_17 : decode c_T_value 17 = .ok (.iload_n 2, 1) := by decide +kernel
theorem d_T_value_18 : decode c_T_value 18 = .ok (.invokestatic 109, 3) := by decide +kernel
theorem d_T_value_21 : decode c_T_value 21 = .ok (.ifCond .eq 10, 3) := by decide +kernel
theorem d_T_value_24 : decode c_T_value 24 = .ok (.iload_n 2, 1) := by decide +kernel
theorem d_T_value_25 : decode c_T_value 25 = .ok (.invokestatic 116, 3) := by decide +kernel
theorem d_T_value_28 : decode c_T_value 28 = .ok (.goto 11, 3) := by decide +kernel
theorem d_T_value_31 : decode c_T_value 31 = .ok (.aload_n 0, 1) := by decide +kernel
theorem d_T_value_32 : decode c_T_value 32 = .ok (.getfield 23, 3) := by decide +kernel
theorem d_T_value_35 : decode c_T_value 35 = .ok (.iload_n 2, 1) := by decide +kernel
theorem d_T_value_36 : decode c_T_value 36 = .ok (.invokevirtual 57, 3) := by decide +kernel
theorem d_T_value_39 : decode c_T_value 39 = .ok (.ireturn, 1) := by decide +kernel
theorem d_T_size_0 : decode c_T_size 0 = .ok (.iload_n 1, 1) := by decide +kernel
theorem d_T_size_1 : decode c_T_size 1 = .ok (.invokestatic 27, 3) := by decide +kernel
theorem d_T_size_4 : decode c_T_size 4 = .ok (.aload_n 0, 1) := by decide +kernel
theorem d_T_size_5 : decode c_T_size 5 = .ok (.getfield 9, 3) := by decide +kernel
theorem d_T_size_8 : decode c_T_size 8 = .ok (.iload_n 1, 1) := by decide +kernel
theorem d_T_size_9 : decode c_T_size 9 = .ok (.iaload, 1) := by decide +kernel
theorem d_T_size_10 : decode c_T_size 10 = .ok (.invokestatic 119, 3) := by decide +kernel
theorem d_T_size_13 : decode c_T_size 13 = .ok (.ifCond .eq 19, 3) := by decide +kernel
theorem d_T_size_16 : decode c_T_size 16 = .ok (.aload_n 0, 1) := by decide +kernel
theorem d_T_size_17 : decode c_T_size 17 = .ok (.getfield 23, 3) := by decide +kernel
theorem d_T_size_20 : decode c_T_size 20 = .ok (.aload_n 0, 1) := by decide +kernel
theorem d_T_size_21 : decode c_T_size 21 = .ok (.getfield 9, 3) := by decide +kernel
theorem d_T_size_24 : decode c_T_size 24 = .ok (.iload_n 1, 1) := by decide +kernel
theorem d_T_size_25 : decode c_T_size 25 = .ok (.iaload, 1) := by decide +kernel
theorem d_T_size_26 : decode c_T_size 26 = .ok (.invokevirtual 98, 3) := by decide +kernel
theorem d_T_size_29 : decode c_T_size 29 = .ok (.goto 4, 3) := by decide +kernel
theorem d_T_size_32 : decode c_T_size 32 = .ok (.iconst 0, 1) := by decide +kernel
theorem d_T_size_33 : decode c_T_size 33 = .ok (.ireturn, 1) := by decide +kernel
theorem d_T_become_0 : decode c_T_become 0 = .ok (.aload_n 0, 1) := by decide +kernel
theorem d_T_become_1 : decode c_T_become 1 = .ok (.iload_n 1, 1) := by decide +kernel
theorem d_T_become_2 : decode c_T_become 2 = .ok (.invokevirtual 60, 3) := by decide +kernel
theorem d_T_become_5 : decode c_T_become 5 = .ok (.aload_n 0, 1) := by decide +kernel
theorem d_T_become_6 : decode c_T_become 6 = .ok (.iload_n 2, 1) := by decide +kernel
theorem d_T_become_7 : decode c_T_become 7 = .ok (.invokevirtual 60, 3) := by decide +kernel
theorem d_T_become_10 : decode c_T_become 10 = .ok (.aload_n 0, 1) := by decide +kernel
theorem d_T_become_11 : decode c_T_become 11 = .ok (.getfield 23, 3) := by decide +kernel
theorem d_T_become_14 : decode c_T_become 14 = .ok (.aload_n 0, 1) := by decide +kernel
theorem d_T_become_15 : decode c_T_become 15 = .ok (.getfield 9, 3) := by decide +kernel
theorem d_T_become_18 : decode c_T_become 18 = .ok (.iload_n 1, 1) := by decide +kernel
theorem d_T_become_19 : decode c_T_become 19 = .ok (.iaload, 1) := by decide +kernel
theorem d_T_become_20 : decode c_T_become 20 = .ok (.aload_n 0, 1) := by decide +kernel
theorem d_T_become_21 : decode c_T_become 21 = .ok (.getfield 9, 3) := by decide +kernel
theorem d_T_become_24 : decode c_T_become 24 = .ok (.iload_n 2, 1) := by decide +kernel
theorem d_T_become_25 : decode c_T_become 25 = .ok (.iaload, 1) := by decide +kernel
theorem d_T_become_26 : decode c_T_become 26 = .ok (.invokevirtual 122, 3) := by decide +kernel
theorem d_T_become_29 : decode c_T_become 29 = .ok (.return_, 1) := by decide +kernel
theorem d_T_words_0 : decode c_T_words 0 = .ok (.aload_n 0, 1) := by decide +kernel
theorem d_T_words_1 : decode c_T_words 1 = .ok (.getfield 23, 3) := by decide +kernel
theorem d_T_words_4 : decode c_T_words 4 = .ok (.aload_n 0, 1) := by decide +kernel
theorem d_T_words_5 : decode c_T_words 5 = .ok (.getfield 9, 3) := by decide +kernel
theorem d_T_words_8 : decode c_T_words 8 = .ok (.invokevirtual 125, 3) := by decide +kernel
theorem d_T_words_11 : decode c_T_words 11 = .ok (.aload_n 0, 1) := by decide +kernel
theorem d_T_words_12 : decode c_T_words 12 = .ok (.getfield 23, 3) := by decide +kernel
theorem d_T_words_15 : decode c_T_words 15 = .ok (.invokevirtual 129, 3) := by decide +kernel
theorem d_T_words_18 : decode c_T_words 18 = .ok (.ireturn, 1) := by decide +kernel
theorem d_T_entries_0 : decode c_T_entries 0 = .ok (.aload_n 0, 1) := by decide +kernel
theorem d_T_entries_1 : decode c_T_entries 1 = .ok (.getfield 23, 3) := by decide +kernel
theorem d_T_entries_4 : decode c_T_entries 4 = .ok (.aload_n 0, 1) := by decide +kernel
theorem d_T_entries_5 : decode c_T_entries 5 = .ok (.getfield 9, 3) := by decide +kernel
theorem d_T_entries_8 : decode c_T_entries 8 = .ok (.invokevirtual 125, 3) := by decide +kernel
theorem d_T_entries_11 : decode c_T_entries 11 = .ok (.aload_n 0, 1) := by decide +kernel
theorem d_T_entries_12 : decode c_T_entries 12 = .ok (.getfield 23, 3) := by decide +kernel
theorem d_T_entries_15 : decode c_T_entries 15 = .ok (.invokevirtual 133, 3) := by decide +kernel
theorem d_T_entries_18 : decode c_T_entries 18 = .ok (.ireturn, 1) := by decide +kernel
theorem d_T_instance_0 : decode c_T_instance 0 = .ok (.iload_n 1, 1) := by decide +kernel
theorem d_T_instance_1 : decode c_T_instance 1 = .ok (.invokestatic 27, 3) := by decide +kernel
theorem d_T_instance_4 : decode c_T_instance 4 = .ok (.iload_n 2, 1) := by decide +kernel
theorem d_T_instance_5 : decode c_T_instance 5 = .ok (.invokestatic 27, 3) := by decide +kernel
theorem d_T_instance_8 : decode c_T_instance 8 = .ok (.iload_n 3, 1) := by decide +kernel
theorem d_T_instance_9 : decode c_T_instance 9 = .ok (.iconst 0, 1) := by decide +kernel
theorem d_T_instance_10 : decode c_T_instance 10 = .ok (.ldc 138, 2) := by decide +kernel
theorem d_T_instance_12 : decode c_T_instance 12 = .ok (.invokestatic 33, 3) := by decide +kernel
theorem d_T_instance_15 : decode c_T_instance 15 = .ok (.aload_n 0, 1) := by decide +kernel
theorem d_T_instance_16 : decode c_T_instance 16 = .ok (.getfield 23, 3) := by decide +kernel
theorem d_T_instance_19 : decode c_T_instance 19 = .ok (.aload_n 0, 1) := by decide +kernel
theorem d_T_instance_20 : decode c_T_instance 20 = .ok (.getfield 9, 3) := by decide +kernel
theorem d_T_instance_23 : decode c_T_instance 23 = .ok (.invokevirtual 125, 3) := by decide +kernel
theorem d_T_instance_26 : decode c_T_instance 26 = .ok (.aload_n 0, 1) := by decide +kernel
theorem d_T_instance_27 : decode c_T_instance 27 = .ok (.getfield 23, 3) := by decide +kernel
theorem d_T_instance_30 : decode c_T_instance 30 = .ok (.aload_n 0, 1) := by decide +kernel
theorem d_T_instance_31 : decode c_T_instance 31 = .ok (.getfield 9, 3) := by decide +kernel
theorem d_T_instance_34 : decode c_T_instance 34 = .ok (.iload_n 2, 1) := by decide +kernel
theorem d_T_instance_35 : decode c_T_instance 35 = .ok (.iaload, 1) := by decide +kernel
theorem d_T_instance_36 : decode c_T_instance 36 = .ok (.iload_n 3, 1) := by decide +kernel
theorem d_T_instance_37 : decode c_T_instance 37 = .ok (.invokevirtual 139, 3) := by decide +kernel
theorem d_T_instance_40 : decode c_T_instance 40 = .ok (.istore 4, 2) := by decide +kernel
theorem d_T_instance_42 : decode c_T_instance 42 = .ok (.iload 4, 2) := by decide +kernel
theorem d_T_instance_44 : decode c_T_instance 44 = .ok (.ifCond .ne 5, 3) := by decide +kernel
theorem d_T_instance_47 : decode c_T_instance 47 = .ok (.iconst 0, 1) := by decide +kernel
theorem d_T_instance_48 : decode c_T_instance 48 = .ok (.ireturn, 1) := by decide +kernel
theorem d_T_instance_49 : decode c_T_instance 49 = .ok (.aload_n 0, 1) := by decide +kernel
theorem d_T_instance_50 : decode c_T_instance 50 = .ok (.iload_n 1, 1) := by decide +kernel
theorem d_T_instance_51 : decode c_T_instance 51 = .ok (.iload 4, 2) := by decide +kernel
theorem d_T_instance_53 : decode c_T_instance 53 = .ok (.invokevirtual 43, 3) := by decide +kernel
theorem d_T_instance_56 : decode c_T_instance 56 = .ok (.aload_n 0, 1) := by decide +kernel
theorem d_T_instance_57 : decode c_T_instance 57 = .ok (.getfield 23, 3) := by decide +kernel
theorem d_T_instance_60 : decode c_T_instance 60 = .ok (.iload 4, 2) := by decide +kernel
theorem d_T_instance_62 : decode c_T_instance 62 = .ok (.invokevirtual 57, 3) := by decide +kernel
theorem d_T_instance_65 : decode c_T_instance 65 = .ok (.ireturn, 1) := by decide +kernel
theorem d_T_owners_0 : decode c_T_owners 0 = .ok (.iload_n 1, 1) := by decide +kernel
theorem d_T_owners_1 : decode c_T_owners 1 = .ok (.invokestatic 27, 3) := by decide +kernel
theorem d_T_owners_4 : decode c_T_owners 4 = .ok (.aload_n 0, 1) := by decide +kernel
theorem d_T_owners_5 : decode c_T_owners 5 = .ok (.getfield 9, 3) := by decide +kernel
theorem d_T_owners_8 : decode c_T_owners 8 = .ok (.iload_n 1, 1) := by decide +kernel
theorem d_T_owners_9 : decode c_T_owners 9 = .ok (.iaload, 1) := by decide +kernel
theorem d_T_owners_10 : decode c_T_owners 10 = .ok (.istore_n 2, 1) := by decide +kernel
theorem d_T_owners_11 : decode c_T_owners 11 = .ok (.aload_n 0, 1) := by decide +kernel
theorem d_T_owners_12 : decode c_T_owners 12 = .ok (.getfield 23, 3) := by decide +kernel
theorem d_T_owners_15 : decode c_T_owners 15 = .ok (.aload_n 0, 1) := by decide +kernel
theorem d_T_owners_16 : decode c_T_owners 16 = .ok (.getfield 9, 3) := by decide +kernel
theorem d_T_owners_19 : decode c_T_owners 19 = .ok (.invokevirtual 125, 3) := by decide +kernel
theorem d_T_owners_22 : decode c_T_owners 22 = .ok (.aload_n 0, 1) := by decide +kernel
theorem d_T_owners_23 : decode c_T_owners 23 = .ok (.getfield 23, 3) := by decide +kernel
theorem d_T_owners_26 : decode c_T_owners 26 = .ok (.iload_n 2, 1) := by decide +kernel
theorem d_T_owners_27 : decode c_T_owners 27 = .ok (.invokevirtual 142, 3) := by decide +kernel
theorem d_T_owners_30 : decode c_T_owners 30 = .ok (.istore_n 3, 1) := by decide +kernel
theorem d_T_owners_31 : decode c_T_owners 31 = .ok (.aload_n 0, 1) := by decide +kernel
theorem d_T_owners_32 : decode c_T_owners 32 = .ok (.getfield 9, 3) := by decide +kernel
theorem d_T_owners_35 : decode c_T_owners 35 = .ok (.astore 4, 2) := by decide +kernel
theorem d_T_owners_37 : decode c_T_owners 37 = .ok (.aload 4, 2) := by decide +kernel
theorem d_T_owners_39 : decode c_T_owners 39 = .ok (.arraylength, 1) := by decide +kernel
theorem d_T_owners_40 : decode c_T_owners 40 = .ok (.istore 5, 2) := by decide +kernel
theorem d_T_owners_42 : decode c_T_owners 42 = .ok (.iconst 0, 1) := by decide +kernel
theorem d_T_owners_43 : decode c_T_owners 43 = .ok (.istore 6, 2) := by decide +kernel
theorem d_T_owners_45 : decode c_T_owners 45 = .ok (.iload 6, 2) := by decide +kernel
theorem d_T_owners_47 : decode c_T_owners 47 = .ok (.iload 5, 2) := by decide +kernel
theorem d_T_owners_49 : decode c_T_owners 49 = .ok (.if_icmp .ge 25, 3) := by decide +kernel
theorem d_T_owners_52 : decode c_T_owners 52 = .ok (.aload 4, 2) := by decide +kernel
theorem d_T_owners_54 : decode c_T_owners 54 = .ok (.iload 6, 2) := by decide +kernel
theorem d_T_owners_56 : decode c_T_owners 56 = .ok (.iaload, 1) := by decide +kernel
theorem d_T_owners_57 : decode c_T_owners 57 = .ok (.istore 7, 2) := by decide +kernel
theorem d_T_owners_59 : decode c_T_owners 59 = .ok (.iload 7, 2) := by decide +kernel
theorem d_T_owners_61 : decode c_T_owners 61 = .ok (.iload_n 2, 1) := by decide +kernel
theorem d_T_owners_62 : decode c_T_owners 62 = .ok (.if_icmp .ne 6, 3) := by decide +kernel
theorem d_T_owners_65 : decode c_T_owners 65 = .ok (.iinc 3 1, 3) := by decide +kernel
theorem d_T_owners_68 : decode c_T_owners 68 = .ok (.iinc 6 1, 3) := by decide +kernel
theorem d_T_owners_71 : decode c_T_owners 71 = .ok (.goto (-26), 3) := by decide +kernel
theorem d_T_owners_74 : decode c_T_owners 74 = .ok (.iload_n 3, 1) := by decide +kernel
theorem d_T_owners_75 : decode c_T_owners 75 = .ok (.ireturn, 1) := by decide +kernel
theorem d_T_reaches_0 : decode c_T_reaches 0 = .ok (.aload_n 0, 1) := by decide +kernel
theorem d_T_reaches_1 : decode c_T_reaches 1 = .ok (.iload_n 1, 1) := by decide +kernel
theorem d_T_reaches_2 : decode c_T_reaches 2 = .ok (.invokevirtual 60, 3) := by decide +kernel
theorem d_T_reaches_5 : decode c_T_reaches 5 = .ok (.aload_n 0, 1) := by decide +kernel
theorem d_T_reaches_6 : decode c_T_reaches 6 = .ok (.iload_n 2, 1) := by decide +kernel
theorem d_T_reaches_7 : decode c_T_reaches 7 = .ok (.invokevirtual 60, 3) := by decide +kernel
theorem d_T_reaches_10 : decode c_T_reaches 10 = .ok (.aload_n 0, 1) := by decide +kernel
theorem d_T_reaches_11 : decode c_T_reaches 11 = .ok (.getfield 23, 3) := by decide +kernel
theorem d_T_reaches_14 : decode c_T_reaches 14 = .ok (.aload_n 0, 1) := by decide +kernel
theorem d_T_reaches_15 : decode c_T_reaches 15 = .ok (.getfield 9, 3) := by decide +kernel
theorem d_T_reaches_18 : decode c_T_reaches 18 = .ok (.iload_n 1, 1) := by decide +kernel
theorem d_T_reaches_19 : decode c_T_reaches 19 = .ok (.iaload, 1) := by decide +kernel
theorem d_T_reaches_20 : decode c_T_reaches 20 = .ok (.aload_n 0, 1) := by decide +kernel
theorem d_T_reaches_21 : decode c_T_reaches 21 = .ok (.getfield 9, 3) := by decide +kernel
theorem d_T_reaches_24 : decode c_T_reaches 24 = .ok (.iload_n 2, 1) := by decide +kernel
theorem d_T_reaches_25 : decode c_T_reaches 25 = .ok (.iaload, 1) := by decide +kernel
theorem d_T_reaches_26 : decode c_T_reaches 26 = .ok (.invokevirtual 145, 3) := by decide +kernel
theorem d_T_reaches_29 : decode c_T_reaches 29 = .ok (.ireturn, 1) := by decide +kernel
theorem d_T_sum_0 : decode c_T_sum 0 = .ok (.iload_n 1, 1) := by decide +kernel
theorem d_T_sum_1 : decode c_T_sum 1 = .ok (.invokestatic 27, 3) := by decide +kernel
theorem d_T_sum_4 : decode c_T_sum 4 = .ok (.aload_n 0, 1) := by decide +kernel
theorem d_T_sum_5 : decode c_T_sum 5 = .ok (.getfield 9, 3) := by decide +kernel
theorem d_T_sum_8 : decode c_T_sum 8 = .ok (.iload_n 1, 1) := by decide +kernel
theorem d_T_sum_9 : decode c_T_sum 9 = .ok (.iaload, 1) := by decide +kernel
theorem d_T_sum_10 : decode c_T_sum 10 = .ok (.istore_n 2, 1) := by decide +kernel
theorem d_T_sum_11 : decode c_T_sum 11 = .ok (.aload_n 0, 1) := by decide +kernel
theorem d_T_sum_12 : decode c_T_sum 12 = .ok (.getfield 23, 3) := by decide +kernel
theorem d_T_sum_15 : decode c_T_sum 15 = .ok (.iload_n 2, 1) := by decide +kernel
theorem d_T_sum_16 : decode c_T_sum 16 = .ok (.invokevirtual 148, 3) := by decide +kernel
theorem d_T_sum_19 : decode c_T_sum 19 = .ok (.ifCond .eq 14, 3) := by decide +kernel
theorem d_T_sum_22 : decode c_T_sum 22 = .ok (.aload_n 0, 1) := by decide +kernel
theorem d_T_sum_23 : decode c_T_sum 23 = .ok (.getfield 23, 3) := by decide +kernel
theorem d_T_sum_26 : decode c_T_sum 26 = .ok (.iload_n 2, 1) := by decide +kernel
theorem d_T_sum_27 : decode c_T_sum 27 = .ok (.invokevirtual 151, 3) := by decide +kernel
theorem d_T_sum_30 : decode c_T_sum 30 = .ok (.goto 4, 3) := by decide +kernel
theorem d_T_sum_33 : decode c_T_sum 33 = .ok (.iconst 0, 1) := by decide +kernel
theorem d_T_sum_34 : decode c_T_sum 34 = .ok (.ireturn, 1) := by decide +kernel
theorem d_T_setRegister_0 : decode c_T_setRegister 0 = .ok (.aload_n 0, 1) := by decide +kernel
theorem d_T_setRegister_1 : decode c_T_setRegister 1 = .ok (.getfield 23, 3) := by decide +kernel
theorem d_T_setRegister_4 : decode c_T_setRegister 4 = .ok (.aload_n 0, 1) := by decide +kernel
theorem d_T_setRegister_5 : decode c_T_setRegister 5 = .ok (.getfield 9, 3) := by decide +kernel
theorem d_T_setRegister_8 : decode c_T_setRegister 8 = .ok (.iload_n 1, 1) := by decide +kernel
theorem d_T_setRegister_9 : decode c_T_setRegister 9 = .ok (.iaload, 1) := by decide +kernel
theorem d_T_setRegister_10 : decode c_T_setRegister 10 = .ok (.invokevirtual 154, 3) := by decide +kernel
theorem d_T_setRegister_13 : decode c_T_setRegister 13 = .ok (.aload_n 0, 1) := by decide +kernel
theorem d_T_setRegister_14 : decode c_T_setRegister 14 = .ok (.getfield 9, 3) := by decide +kernel
theorem d_T_setRegister_17 : decode c_T_setRegister 17 = .ok (.iload_n 1, 1) := by decide +kernel
theorem d_T_setRegister_18 : decode c_T_setRegister 18 = .ok (.iload_n 2, 1) := by decide +kernel
theorem d_T_setRegister_19 : decode c_T_setRegister 19 = .ok (.iastore, 1) := by decide +kernel
theorem d_T_setRegister_20 : decode c_T_setRegister 20 = .ok (.return_, 1) := by decide +kernel
theorem d_T_isBetween_0 : decode c_T_isBetween 0 = .ok (.iload_n 0, 1) := by decide +kernel
theorem d_T_isBetween_1 : decode c_T_isBetween 1 = .ok (.iload_n 1, 1) := by decide +kernel
theorem d_T_isBetween_2 : decode c_T_isBetween 2 = .ok (.if_icmp .lt 12, 3) := by decide +kernel
theorem d_T_isBetween_5 : decode c_T_isBetween 5 = .ok (.iload_n 0, 1) := by decide +kernel
theorem d_T_isBetween_6 : decode c_T_isBetween 6 = .ok (.iload_n 2, 1) := by decide +kernel
theorem d_T_isBetween_7 : decode c_T_isBetween 7 = .ok (.if_icmp .gt 7, 3) := by decide +kernel
theorem d_T_isBetween_10 : decode c_T_isBetween 10 = .ok (.iconst 1, 1) := by decide +kernel
theorem d_T_isBetween_11 : decode c_T_isBetween 11 = .ok (.goto 4, 3) := by decide +kernel
theorem d_T_isBetween_14 : decode c_T_isBetween 14 = .ok (.iconst 0, 1) := by decide +kernel
theorem d_T_isBetween_15 : decode c_T_isBetween 15 = .ok (.ireturn, 1) := by decide +kernel
theorem d_T_needBetween_0 : decode c_T_needBetween 0 = .ok (.iload_n 0, 1) := by decide +kernel
theorem d_T_needBetween_1 : decode c_T_needBetween 1 = .ok (.iload_n 1, 1) := by decide +kernel
theorem d_T_needBetween_2 : decode c_T_needBetween 2 = .ok (.iload_n 2, 1) := by decide +kernel
theorem d_T_needBetween_3 : decode c_T_needBetween 3 = .ok (.invokestatic 16, 3) := by decide +kernel
theorem d_T_needBetween_6 : decode c_T_needBetween 6 = .ok (.ifCond .ne 13, 3) := by decide +kernel
theorem d_T_needBetween_9 : decode c_T_needBetween 9 = .ok (.new 157, 3) := by decide +kernel
theorem d_T_needBetween_12 : decode c_T_needBetween 12 = .ok (.dup, 1) := by decide +kernel
theorem d_T_needBetween_13 : decode c_T_needBetween 13 = .ok (.ldc 159, 2) := by decide +kernel
theorem d_T_needBetween_15 : decode c_T_needBetween 15 = .ok (.invokespecial 161, 3) := by decide +kernel
theorem d_T_needBetween_18 : decode c_T_needBetween 18 = .ok (.athrow, 1) := by decide +kernel
theorem d_T_needBetween_19 : decode c_T_needBetween 19 = .ok (.return_, 1) := by decide +kernel
theorem d_T_needRegister_0 : decode c_T_needRegister 0 = .ok (.iload_n 0, 1) := by decide +kernel
theorem d_T_needRegister_1 : decode c_T_needRegister 1 = .ok (.iconst 0, 1) := by decide +kernel
theorem d_T_needRegister_2 : decode c_T_needRegister 2 = .ok (.bipush 31, 2) := by decide +kernel
theorem d_T_needRegister_4 : decode c_T_needRegister 4 = .ok (.invokestatic 16, 3) := by decide +kernel
theorem d_T_needRegister_7 : decode c_T_needRegister 7 = .ok (.ifCond .ne 13, 3) := by decide +kernel
theorem d_T_needRegister_10 : decode c_T_needRegister 10 = .ok (.new 157, 3) := by decide +kernel
theorem d_T_needRegister_13 : decode c_T_needRegister 13 = .ok (.dup, 1) := by decide +kernel
theorem d_T_needRegister_14 : decode c_T_needRegister 14 = .ok (.ldc 164, 2) := by decide +kernel
theorem d_T_needRegister_16 : decode c_T_needRegister 16 = .ok (.invokespecial 161, 3) := by decide +kernel
theorem d_T_needRegister_19 : decode c_T_needRegister 19 = .ok (.athrow, 1) := by decide +kernel
theorem d_T_needRegister_20 : decode c_T_needRegister 20 = .ok (.return_, 1) := by decide +kernel
theorem d_T_needObject_0 : decode c_T_needObject 0 = .ok (.iload_n 1, 1) := by decide +kernel
theorem d_T_needObject_1 : decode c_T_needObject 1 = .ok (.invokestatic 27, 3) := by decide +kernel
theorem d_T_needObject_4 : decode c_T_needObject 4 = .ok (.aload_n 0, 1) := by decide +kernel
theorem d_T_needObject_5 : decode c_T_needObject 5 = .ok (.getfield 9, 3) := by decide +kernel
theorem d_T_needObject_8 : decode c_T_needObject 8 = .ok (.iload_n 1, 1) := by decide +kernel
theorem d_T_needObject_9 : decode c_T_needObject 9 = .ok (.iaload, 1) := by decide +kernel
theorem d_T_needObject_10 : decode c_T_needObject 10 = .ok (.invokestatic 119, 3) := by decide +kernel
theorem d_T_needObject_13 : decode c_T_needObject 13 = .ok (.ifCond .ne 13, 3) := by decide +kernel
theorem d_T_needObject_16 : decode c_T_needObject 16 = .ok (.new 157, 3) := by decide +kernel
theorem d_T_needObject_19 : decode c_T_needObject 19 = .ok (.dup, 1) := by decide +kernel
theorem d_T_needObject_20 : decode c_T_needObject 20 = .ok (.ldc 166, 2) := by decide +kernel
theorem d_T_needObject_22 : decode c_T_needObject 22 = .ok (.invokespecial 161, 3) := by decide +kernel
theorem d_T_needObject_25 : decode c_T_needObject 25 = .ok (.athrow, 1) := by decide +kernel
theorem d_T_needObject_26 : decode c_T_needObject 26 = .ok (.return_, 1) := by decide +kernel
theorem d_T_needSlots_0 : decode c_T_needSlots 0 = .ok (.iload_n 1, 1) := by decide +kernel
theorem d_T_needSlots_1 : decode c_T_needSlots 1 = .ok (.invokestatic 27, 3) := by decide +kernel
theorem d_T_needSlots_4 : decode c_T_needSlots 4 = .ok (.aload_n 0, 1) := by decide +kernel
theorem d_T_needSlots_5 : decode c_T_needSlots 5 = .ok (.getfield 23, 3) := by decide +kernel
theorem d_T_needSlots_8 : decode c_T_needSlots 8 = .ok (.aload_n 0, 1) := by decide +kernel
theorem d_T_needSlots_9 : decode c_T_needSlots 9 = .ok (.getfield 9, 3) := by decide +kernel
theorem d_T_needSlots_12 : decode c_T_needSlots 12 = .ok (.iload_n 1, 1) := by decide +kernel
theorem d_T_needSlots_13 : decode c_T_needSlots 13 = .ok (.iaload, 1) := by decide +kernel
theorem d_T_needSlots_14 : decode c_T_needSlots 14 = .ok (.invokevirtual 113, 3) := by decide +kernel
theorem d_T_needSlots_17 : decode c_T_needSlots 17 = .ok (.ifCond .ne 13, 3) := by decide +kernel
theorem d_T_needSlots_20 : decode c_T_needSlots 20 = .ok (.new 157, 3) := by decide +kernel
theorem d_T_needSlots_23 : decode c_T_needSlots 23 = .ok (.dup, 1) := by decide +kernel
theorem d_T_needSlots_24 : decode c_T_needSlots 24 = .ok (.ldc 168, 2) := by decide +kernel
theorem d_T_needSlots_26 : decode c_T_needSlots 26 = .ok (.invokespecial 161, 3) := by decide +kernel
theorem d_T_needSlots_29 : decode c_T_needSlots 29 = .ok (.athrow, 1) := by decide +kernel
theorem d_T_needSlots_30 : decode c_T_needSlots 30 = .ok (.return_, 1) := by decide +kernel
theorem d_T_needBytes_0 : decode c_T_needBytes 0 = .ok (.iload_n 1, 1) := by decide +kernel
theorem d_T_needBytes_1 : decode c_T_needBytes 1 = .ok (.invokestatic 27, 3) := by decide +kernel
theorem d_T_needBytes_4 : decode c_T_needBytes 4 = .ok (.aload_n 0, 1) := by decide +kernel
theorem d_T_needBytes_5 : decode c_T_needBytes 5 = .ok (.getfield 23, 3) := by decide +kernel
theorem d_T_needBytes_8 : decode c_T_needBytes 8 = .ok (.aload_n 0, 1) := by decide +kernel
theorem d_T_needBytes_9 : decode c_T_needBytes 9 = .ok (.getfield 9, 3) := by decide +kernel
theorem d_T_needBytes_12 : decode c_T_needBytes 12 = .ok (.iload_n 1, 1) := by decide +kernel
theorem d_T_needBytes_13 : decode c_T_needBytes 13 = .ok (.iaload, 1) := by decide +kernel
theorem d_T_needBytes_14 : decode c_T_needBytes 14 = .ok (.invokevirtual 148, 3) := by decide +kernel
theorem d_T_needBytes_17 : decode c_T_needBytes 17 = .ok (.ifCond .ne 13, 3) := by decide +kernel
theorem d_T_needBytes_20 : decode c_T_needBytes 20 = .ok (.new 157, 3) := by decide +kernel
theorem d_T_needBytes_23 : decode c_T_needBytes 23 = .ok (.dup, 1) := by decide +kernel
theorem d_T_needBytes_24 : decode c_T_needBytes 24 = .ok (.ldc 170, 2) := by decide +kernel
theorem d_T_needBytes_26 : decode c_T_needBytes 26 = .ok (.invokespecial 161, 3) := by decide +kernel
theorem d_T_needBytes_29 : decode c_T_needBytes 29 = .ok (.athrow, 1) := by decide +kernel
theorem d_T_needBytes_30 : decode c_T_needBytes 30 = .ok (.return_, 1) := by decide +kernel
theorem d_T_needIndex_0 : decode c_T_needIndex 0 = .ok (.iload_n 2, 1) := by decide +kernel
theorem d_T_needIndex_1 : decode c_T_needIndex 1 = .ok (.iconst 0, 1) := by decide +kernel
theorem d_T_needIndex_2 : decode c_T_needIndex 2 = .ok (.aload_n 0, 1) := by decide +kernel
theorem d_T_needIndex_3 : decode c_T_needIndex 3 = .ok (.getfield 23, 3) := by decide +kernel
theorem d_T_needIndex_6 : decode c_T_needIndex 6 = .ok (.aload_n 0, 1) := by decide +kernel
theorem d_T_needIndex_7 : decode c_T_needIndex 7 = .ok (.getfield 9, 3) := by decide +kernel
theorem d_T_needIndex_10 : decode c_T_needIndex 10 = .ok (.iload_n 1, 1) := by decide +kernel
theorem d_T_needIndex_11 : decode c_T_needIndex 11 = .ok (.iaload, 1) := by decide +kernel
theorem d_T_needIndex_12 : decode c_T_needIndex 12 = .ok (.invokevirtual 98, 3) := by decide +kernel
theorem d_T_needIndex_15 : decode c_T_needIndex 15 = .ok (.iconst 1, 1) := by decide +kernel
theorem d_T_needIndex_16 : decode c_T_needIndex 16 = .ok (.isub, 1) := by decide +kernel
theorem d_T_needIndex_17 : decode c_T_needIndex 17 = .ok (.invokestatic 16, 3) := by decide +kernel
theorem d_T_needIndex_20 : decode c_T_needIndex 20 = .ok (.ifCond .ne 13, 3) := by decide +kernel
theorem d_T_needIndex_23 : decode c_T_needIndex 23 = .ok (.new 172, 3) := by decide +kernel
theorem d_T_needIndex_26 : decode c_T_needIndex 26 = .ok (.dup, 1) := by decide +kernel
theorem d_T_needIndex_27 : decode c_T_needIndex 27 = .ok (.ldc 174, 2) := by decide +kernel
theorem d_T_needIndex_29 : decode c_T_needIndex 29 = .ok (.invokespecial 176, 3) := by decide +kernel
theorem d_T_needIndex_32 : decode c_T_needIndex 32 = .ok (.athrow, 1) := by decide +kernel
theorem d_T_needIndex_33 : decode c_T_needIndex 33 = .ok (.return_, 1) := by decide +kernel
theorem d_T_needMade_0 : decode c_T_needMade 0 = .ok (.iload_n 0, 1) := by decide +kernel
theorem d_T_needMade_1 : decode c_T_needMade 1 = .ok (.ifCond .ne 13, 3) := by decide +kernel
theorem d_T_needMade_4 : decode c_T_needMade 4 = .ok (.new 177, 3) := by decide +kernel
theorem d_T_needMade_7 : decode c_T_needMade 7 = .ok (.dup, 1) := by decide +kernel
theorem d_T_needMade_8 : decode c_T_needMade 8 = .ok (.ldc 179, 2) := by decide +kernel
theorem d_T_needMade_10 : decode c_T_needMade 10 = .ok (.invokespecial 181, 3) := by decide +kernel
theorem d_T_needMade_13 : decode c_T_needMade 13 = .ok (.athrow, 1) := by decide +kernel
theorem d_T_needMade_14 : decode c_T_needMade 14 = .ok (.return_, 1) := by decide +kernel
