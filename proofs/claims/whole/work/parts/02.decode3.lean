theorem d_Deci_print_0 : decode b_Deci_print 0 = .ok (.aload_n 0, 1) := by decide +kernel
theorem d_Deci_print_1 : decode b_Deci_print 1 = .ok (.getfield 57, 3) := by decide +kernel
theorem d_Deci_print_4 : decode b_Deci_print 4 = .ok (.ifCond .ne 5, 3) := by decide +kernel
theorem d_Deci_print_7 : decode b_Deci_print 7 = .ok (.iconst (-1), 1) := by decide +kernel
theorem d_Deci_print_8 : decode b_Deci_print 8 = .ok (.ireturn, 1) := by decide +kernel
theorem d_Deci_print_9 : decode b_Deci_print 9 = .ok (.aload_n 0, 1) := by decide +kernel
theorem d_Deci_print_10 : decode b_Deci_print 10 = .ok (.getfield 29, 3) := by decide +kernel
theorem d_Deci_print_13 : decode b_Deci_print 13 = .ok (.aload_n 0, 1) := by decide +kernel
theorem d_Deci_print_14 : decode b_Deci_print 14 = .ok (.getfield 50, 3) := by decide +kernel
theorem d_Deci_print_17 : decode b_Deci_print 17 = .ok (.aload_n 0, 1) := by decide +kernel
theorem d_Deci_print_18 : decode b_Deci_print 18 = .ok (.getfield 16, 3) := by decide +kernel
theorem d_Deci_print_21 : decode b_Deci_print 21 = .ok (.invokevirtual 137, 3) := by decide +kernel
theorem d_Deci_print_24 : decode b_Deci_print 24 = .ok (.aload_n 0, 1) := by decide +kernel
theorem d_Deci_print_25 : decode b_Deci_print 25 = .ok (.getfield 36, 3) := by decide +kernel
theorem d_Deci_print_28 : decode b_Deci_print 28 = .ok (.invokevirtual 138, 3) := by decide +kernel
theorem d_Deci_print_31 : decode b_Deci_print 31 = .ok (.aload_n 0, 1) := by decide +kernel
theorem d_Deci_print_32 : decode b_Deci_print 32 = .ok (.getfield 16, 3) := by decide +kernel
theorem d_Deci_print_35 : decode b_Deci_print 35 = .ok (.invokevirtual 79, 3) := by decide +kernel
theorem d_Deci_print_38 : decode b_Deci_print 38 = .ok (.ireturn, 1) := by decide +kernel
theorem d_Deci_out_0 : decode b_Deci_out 0 = .ok (.aload_n 0, 1) := by decide +kernel
theorem d_Deci_out_1 : decode b_Deci_out 1 = .ok (.getfield 16, 3) := by decide +kernel
theorem d_Deci_out_4 : decode b_Deci_out 4 = .ok (.iload_n 1, 1) := by decide +kernel
theorem d_Deci_out_5 : decode b_Deci_out 5 = .ok (.invokevirtual 141, 3) := by decide +kernel
theorem d_Deci_out_8 : decode b_Deci_out 8 = .ok (.ireturn, 1) := by decide +kernel
theorem d_Deci_field_0 : decode b_Deci_field 0 = .ok (.aload_n 0, 1) := by decide +kernel
theorem d_Deci_field_1 : decode b_Deci_field 1 = .ok (.getfield 36, 3) := by decide +kernel
theorem d_Deci_field_4 : decode b_Deci_field 4 = .ok (.iload_n 1, 1) := by decide +kernel
theorem d_Deci_field_5 : decode b_Deci_field 5 = .ok (.iload_n 2, 1) := by decide +kernel
theorem d_Deci_field_6 : decode b_Deci_field 6 = .ok (.invokevirtual 145, 3) := by decide +kernel
theorem d_Deci_field_9 : decode b_Deci_field 9 = .ok (.ireturn, 1) := by decide +kernel
theorem d_Deci_copy_0 : decode b_Deci_copy 0 = .ok (.aload_n 0, 1) := by decide +kernel
theorem d_Deci_copy_1 : decode b_Deci_copy 1 = .ok (.getfield 10, 3) := by decide +kernel
theorem d_Deci_copy_4 : decode b_Deci_copy 4 = .ok (.aload_n 0, 1) := by decide +kernel
theorem d_Deci_copy_5 : decode b_Deci_copy 5 = .ok (.getfield 16, 3) := by decide +kernel
theorem d_Deci_copy_8 : decode b_Deci_copy 8 = .ok (.invokevirtual 149, 3) := by decide +kernel
theorem d_Deci_copy_11 : decode b_Deci_copy 11 = .ok (.return_, 1) := by decide +kernel
theorem d_Deci_parse_0 : decode b_Deci_parse 0 = .ok (.aload_n 0, 1) := by decide +kernel
theorem d_Deci_parse_1 : decode b_Deci_parse 1 = .ok (.getfield 57, 3) := by decide +kernel
theorem d_Deci_parse_4 : decode b_Deci_parse 4 = .ok (.ifCond .eq 21, 3) := by decide +kernel
theorem d_Deci_parse_7 : decode b_Deci_parse 7 = .ok (.aload_n 0, 1) := by decide +kernel
theorem d_Deci_parse_8 : decode b_Deci_parse 8 = .ok (.getfield 43, 3) := by decide +kernel
theorem d_Deci_parse_11 : decode b_Deci_parse 11 = .ok (.aload_n 0, 1) := by decide +kernel
theorem d_Deci_parse_12 : decode b_Deci_parse 12 = .ok (.getfield 10, 3) := by decide +kernel
theorem d_Deci_parse_15 : decode b_Deci_parse 15 = .ok (.aload_n 0, 1) := by decide +kernel
theorem d_Deci_parse_16 : decode b_Deci_parse 16 = .ok (.getfield 50, 3) := by decide +kernel
theorem d_Deci_parse_19 : decode b_Deci_parse 19 = .ok (.invokevirtual 153, 3) := by decide +kernel
theorem d_Deci_parse_22 : decode b_Deci_parse 22 = .ok (.ifCond .ne 5, 3) := by decide +kernel
theorem d_Deci_parse_25 : decode b_Deci_parse 25 = .ok (.iconst 0, 1) := by decide +kernel
theorem d_Deci_parse_26 : decode b_Deci_parse 26 = .ok (.ireturn, 1) := by decide +kernel
theorem d_Deci_parse_27 : decode b_Deci_parse 27 = .ok (.aload_n 0, 1) := by decide +kernel
theorem d_Deci_parse_28 : decode b_Deci_parse 28 = .ok (.aload_n 0, 1) := by decide +kernel
theorem d_Deci_parse_29 : decode b_Deci_parse 29 = .ok (.getfield 43, 3) := by decide +kernel
theorem d_Deci_parse_32 : decode b_Deci_parse 32 = .ok (.invokevirtual 156, 3) := by decide +kernel
theorem d_Deci_parse_35 : decode b_Deci_parse 35 = .ok (.putfield 65, 3) := by decide +kernel
theorem d_Deci_parse_38 : decode b_Deci_parse 38 = .ok (.aload_n 0, 1) := by decide +kernel
theorem d_Deci_parse_39 : decode b_Deci_parse 39 = .ok (.aload_n 0, 1) := by decide +kernel
theorem d_Deci_parse_40 : decode b_Deci_parse 40 = .ok (.getfield 43, 3) := by decide +kernel
theorem d_Deci_parse_43 : decode b_Deci_parse 43 = .ok (.invokevirtual 160, 3) := by decide +kernel
theorem d_Deci_parse_46 : decode b_Deci_parse 46 = .ok (.putfield 69, 3) := by decide +kernel
theorem d_Deci_parse_49 : decode b_Deci_parse 49 = .ok (.iconst 1, 1) := by decide +kernel
theorem d_Deci_parse_50 : decode b_Deci_parse 50 = .ok (.ireturn, 1) := by decide +kernel
theorem d_Deci_value_0 : decode b_Deci_value 0 = .ok (.aload_n 0, 1) := by decide +kernel
theorem d_Deci_value_1 : decode b_Deci_value 1 = .ok (.getfield 65, 3) := by decide +kernel
theorem d_Deci_value_4 : decode b_Deci_value 4 = .ok (.lreturn, 1) := by decide +kernel
theorem d_Deci_scale_0 : decode b_Deci_scale 0 = .ok (.aload_n 0, 1) := by decide +kernel
theorem d_Deci_scale_1 : decode b_Deci_scale 1 = .ok (.getfield 69, 3) := by decide +kernel
theorem d_Deci_scale_4 : decode b_Deci_scale 4 = .ok (.ireturn, 1) := by decide +kernel
theorem d_Deci_tenTo_0 : decode b_Deci_tenTo 0 = .ok (.getstatic 163, 3) := by decide +kernel
theorem d_Deci_tenTo_3 : decode b_Deci_tenTo 3 = .ok (.iconst 0, 1) := by decide +kernel
theorem d_Deci_tenTo_4 : decode b_Deci_tenTo 4 = .ok (.iload_n 0, 1) := by decide +kernel
theorem d_Deci_tenTo_5 : decode b_Deci_tenTo 5 = .ok (.getstatic 163, 3) := by decide +kernel
theorem d_Deci_tenTo_8 : decode b_Deci_tenTo 8 = .ok (.arraylength, 1) := by decide +kernel
theorem d_Deci_tenTo_9 : decode b_Deci_tenTo 9 = .ok (.iconst 1, 1) := by decide +kernel
theorem d_Deci_tenTo_10 : decode b_Deci_tenTo 10 = .ok (.isub, 1) := by decide +kernel
theorem d_Deci_tenTo_11 : decode b_Deci_tenTo 11 = .ok (.invokestatic 167, 3) := by decide +kernel
theorem d_Deci_tenTo_14 : decode b_Deci_tenTo 14 = .ok (.invokestatic 173, 3) := by decide +kernel
theorem d_Deci_tenTo_17 : decode b_Deci_tenTo 17 = .ok (.laload, 1) := by decide +kernel
theorem d_Deci_tenTo_18 : decode b_Deci_tenTo 18 = .ok (.lreturn, 1) := by decide +kernel
theorem d_Deci_digitCount_0 : decode b_Deci_digitCount 0 = .ok (.iconst 0, 1) := by decide +kernel
theorem d_Deci_digitCount_1 : decode b_Deci_digitCount 1 = .ok (.istore_n 2, 1) := by decide +kernel
theorem d_Deci_digitCount_2 : decode b_Deci_digitCount 2 = .ok (.iload_n 2, 1) := by decide +kernel
theorem d_Deci_digitCount_3 : decode b_Deci_digitCount 3 = .ok (.getstatic 163, 3) := by decide +kernel
theorem d_Deci_digitCount_6 : decode b_Deci_digitCount 6 = .ok (.arraylength, 1) := by decide +kernel
theorem d_Deci_digitCount_7 : decode b_Deci_digitCount 7 = .ok (.if_icmp .ge 19, 3) := by decide +kernel
theorem d_Deci_digitCount_10 : decode b_Deci_digitCount 10 = .ok (.lload_n 0, 1) := by decide +kernel
theorem d_Deci_digitCount_11 : decode b_Deci_digitCount 11 = .ok (.getstatic 163, 3) := by decide +kernel
theorem d_Deci_digitCount_14 : decode b_Deci_digitCount 14 = .ok (.iload_n 2, 1) := by decide +kernel
theorem d_Deci_digitCount_15 : decode b_Deci_digitCount 15 = .ok (.laload, 1) := by decide +kernel
theorem d_Deci_digitCount_16 : decode b_Deci_digitCount 16 = .ok (.lcmp, 1) := by decide +kernel
theorem d_Deci_digitCount_17 : decode b_Deci_digitCount 17 = .ok (.ifCond .lt 9, 3) := by decide +kernel
theorem d_Deci_digitCount_20 : decode b_Deci_digitCount 20 = .ok (.iinc 2 1, 3) := by decide +kernel
theorem d_Deci_digitCount_23 : decode b_Deci_digitCount 23 = .ok (.goto (-21), 3) := by decide +kernel
theorem d_Deci_digitCount_26 : decode b_Deci_digitCount 26 = .ok (.iload_n 2, 1) := by decide +kernel
theorem d_Deci_digitCount_27 : decode b_Deci_digitCount 27 = .ok (.ireturn, 1) := by decide +kernel
theorem d_Deci_isDigit_0 : decode b_Deci_isDigit 0 = .ok (.iload_n 0, 1) := by decide +kernel
theorem d_Deci_isDigit_1 : decode b_Deci_isDigit 1 = .ok (.bipush 48, 2) := by decide +kernel
theorem d_Deci_isDigit_3 : decode b_Deci_isDigit 3 = .ok (.if_icmp .lt 13, 3) := by decide +kernel
theorem d_Deci_isDigit_6 : decode b_Deci_isDigit 6 = .ok (.iload_n 0, 1) := by decide +kernel
theorem d_Deci_isDigit_7 : decode b_Deci_isDigit 7 = .ok (.bipush 57, 2) := by decide +kernel
theorem d_Deci_isDigit_9 : decode b_Deci_isDigit 9 = .ok (.if_icmp .gt 7, 3) := by decide +kernel
theorem d_Deci_isDigit_12 : decode b_Deci_isDigit 12 = .ok (.iconst 1, 1) := by decide +kernel
theorem d_Deci_isDigit_13 : decode b_Deci_isDigit 13 = .ok (.goto 4, 3) := by decide +kernel
theorem d_Deci_isDigit_16 : decode b_Deci_isDigit 16 = .ok (.iconst 0, 1) := by decide +kernel
theorem d_Deci_isDigit_17 : decode b_Deci_isDigit 17 = .ok (.ireturn, 1) := by decide +kernel
theorem d_Deci_isSpecial_0 : decode b_Deci_isSpecial 0 = .ok (.iload_n 0, 1) := by decide +kernel
theorem d_Deci_isSpecial_1 : decode b_Deci_isSpecial 1 = .ok (.bipush 35, 2) := by decide +kernel
theorem d_Deci_isSpecial_3 : decode b_Deci_isSpecial 3 = .ok (.if_icmp .eq 33, 3) := by decide +kernel
theorem d_Deci_isSpecial_6 : decode b_Deci_isSpecial 6 = .ok (.iload_n 0, 1) := by decide +kernel
theorem d_Deci_isSpecial_7 : decode b_Deci_isSpecial 7 = .ok (.bipush 48, 2) := by decide +kernel
theorem d_Deci_isSpecial_9 : decode b_Deci_isSpecial 9 = .ok (.if_icmp .eq 27, 3) := by decide +kernel
theorem d_Deci_isSpecial_12 : decode b_Deci_isSpecial 12 = .ok (.iload_n 0, 1) := by decide +kernel
theorem d_Deci_isSpecial_13 : decode b_Deci_isSpecial 13 = .ok (.bipush 44, 2) := by decide +kernel
theorem d_Deci_isSpecial_15 : decode b_Deci_isSpecial 15 = .ok (.if_icmp .eq 21, 3) := by decide +kernel
theorem d_Deci_isSpecial_18 : decode b_Deci_isSpecial 18 = .ok (.iload_n 0, 1) := by decide +kernel
theorem d_Deci_isSpecial_19 : decode b_Deci_isSpecial 19 = .ok (.bipush 46, 2) := by decide +kernel
theorem d_Deci_isSpecial_21 : decode b_Deci_isSpecial 21 = .ok (.if_icmp .eq 15, 3) := by decide +kernel
theorem d_Deci_isSpecial_24 : decode b_Deci_isSpecial 24 = .ok (.iload_n 0, 1) := by decide +kernel
theorem d_Deci_isSpecial_25 : decode b_Deci_isSpecial 25 = .ok (.bipush 59, 2) := by decide +kernel
theorem d_Deci_isSpecial_27 : decode b_Deci_isSpecial 27 = .ok (.if_icmp .eq 9, 3) := by decide +kernel
theorem d_Deci_isSpecial_30 : decode b_Deci_isSpecial 30 = .ok (.iload_n 0, 1) := by decide +kernel
theorem d_Deci_isSpecial_31 : decode b_Deci_isSpecial 31 = .ok (.bipush 69, 2) := by decide +kernel
theorem d_Deci_isSpecial_33 : decode b_Deci_isSpecial 33 = .ok (.if_icmp .ne 7, 3) := by decide +kernel
theorem d_Deci_isSpecial_36 : decode b_Deci_isSpecial 36 = .ok (.iconst 1, 1) := by decide +kernel
theorem d_Deci_isSpecial_37 : decode b_Deci_isSpecial 37 = .ok (.goto 4, 3) := by decide +kernel
theorem d_Deci_isSpecial_40 : decode b_Deci_isSpecial 40 = .ok (.iconst 0, 1) := by decide +kernel
theorem d_Deci_isSpecial_41 : decode b_Deci_isSpecial 41 = .ok (.ireturn, 1) := by decide +kernel
theorem d_Model_init_0 : decode b_Model_init 0 = .ok (.aload_n 0, 1) := by decide +kernel
theorem d_Model_init_1 : decode b_Model_init 1 = .ok (.invokespecial 1, 3) := by decide +kernel
theorem d_Model_init_4 : decode b_Model_init 4 = .ok (.aload_n 0, 1) := by decide +kernel
theorem d_Model_init_5 : decode b_Model_init 5 = .ok (.bipush 120, 2) := by decide +kernel
theorem d_Model_init_7 : decode b_Model_init 7 = .ok (.newarray .char, 2) := by decide +kernel
theorem d_Model_init_9 : decode b_Model_init 9 = .ok (.putfield 7, 3) := by decide +kernel
theorem d_Model_init_12 : decode b_Model_init 12 = .ok (.aload_n 0, 1) := by decide +kernel
theorem d_Model_init_13 : decode b_Model_init 13 = .ok (.sipush 200, 3) := by decide +kernel
theorem d_Model_init_16 : decode b_Model_init 16 = .ok (.newarray .char, 2) := by decide +kernel
theorem d_Model_init_18 : decode b_Model_init 18 = .ok (.putfield 13, 3) := by decide +kernel
theorem d_Model_init_21 : decode b_Model_init 21 = .ok (.aload_n 0, 1) := by decide +kernel
theorem d_Model_init_22 : decode b_Model_init 22 = .ok (.bipush 6, 2) := by decide +kernel
theorem d_Model_init_24 : decode b_Model_init 24 = .ok (.putfield 16, 3) := by decide +kernel
theorem d_Model_init_27 : decode b_Model_init 27 = .ok (.aload_n 0, 1) := by decide +kernel
theorem d_Model_init_28 : decode b_Model_init 28 = .ok (.sipush 160, 3) := by decide +kernel
theorem d_Model_init_31 : decode b_Model_init 31 = .ok (.newarray .int, 2) := by decide +kernel
theorem d_Model_init_33 : decode b_Model_init 33 = .ok (.putfield 20, 3) := by decide +kernel
theorem d_Model_init_36 : decode b_Model_init 36 = .ok (.aload_n 0, 1) := by decide +kernel
theorem d_Model_init_37 : decode b_Model_init 37 = .ok (.iconst 4, 1) := by decide +kernel
theorem d_Model_init_38 : decode b_Model_init 38 = .ok (.newarray .int, 2) := by decide +kernel
theorem d_Model_init_40 : decode b_Model_init 40 = .ok (.putfield 24, 3) := by decide +kernel
theorem d_Model_init_43 : decode b_Model_init 43 = .ok (.aload_n 0, 1) := by decide +kernel
theorem d_Model_init_44 : decode b_Model_init 44 = .ok (.bipush 7, 2) := by decide +kernel
theorem d_Model_init_46 : decode b_Model_init 46 = .ok (.newarray .int, 2) := by decide +kernel
theorem d_Model_init_48 : decode b_Model_init 48 = .ok (.putfield 27, 3) := by decide +kernel
theorem d_Model_init_51 : decode b_Model_init 51 = .ok (.aload_n 0, 1) := by decide +kernel
theorem d_Model_init_52 : decode b_Model_init 52 = .ok (.bipush 40, 2) := by decide +kernel
theorem d_Model_init_54 : decode b_Model_init 54 = .ok (.newarray .int, 2) := by decide +kernel
theorem d_Model_init_56 : decode b_Model_init 56 = .ok (.putfield 30, 3) := by decide +kernel
theorem d_Model_init_59 : decode b_Model_init 59 = .ok (.aload_n 0, 1) := by decide +kernel
theorem d_Model_init_60 : decode b_Model_init 60 = .ok (.bipush 6, 2) := by decide +kernel
theorem d_Model_init_62 : decode b_Model_init 62 = .ok (.newarray .int, 2) := by decide +kernel
theorem d_Model_init_64 : decode b_Model_init 64 = .ok (.putfield 33, 3) := by decide +kernel
theorem d_Model_init_67 : decode b_Model_init 67 = .ok (.return_, 1) := by decide +kernel
theorem d_Model_type_0 : decode b_Model_type 0 = .ok (.iload_n 1, 1) := by decide +kernel
theorem d_Model_type_1 : decode b_Model_type 1 = .ok (.bipush 32, 2) := by decide +kernel
theorem d_Model_type_3 : decode b_Model_type 3 = .ok (.if_icmp .lt 18, 3) := by decide +kernel
theorem d_Model_type_6 : decode b_Model_type 6 = .ok (.iload_n 1, 1) := by decide +kernel
theorem d_Model_type_7 : decode b_Model_type 7 = .ok (.bipush 126, 2) := by decide +kernel
theorem d_Model_type_9 : decode b_Model_type 9 = .ok (.if_icmp .gt 12, 3) := by decide +kernel
theorem d_Model_type_12 : decode b_Model_type 12 = .ok (.aload_n 0, 1) := by decide +kernel
theorem d_Model_type_13 : decode b_Model_type 13 = .ok (.getfield 36, 3) := by decide +kernel
theorem d_Model_type_16 : decode b_Model_type 16 = .ok (.bipush 120, 2) := by decide +kernel
theorem d_Model_type_18 : decode b_Model_type 18 = .ok (.if_icmp .ne 5, 3) := by decide +kernel
theorem d_Model_type_21 : decode b_Model_type 21 = .ok (.iconst 0, 1) := by decide +kernel
theorem d_Model_type_22 : decode b_Model_type 22 = .ok (.ireturn, 1) := by decide +kernel
theorem d_Model_type_23 : decode b_Model_type 23 = .ok (.aload_n 0, 1) := by decide +kernel
theorem d_Model_type_24 : decode b_Model_type 24 = .ok (.getfield 7, 3) := by decide +kernel
theorem d_Model_type_27 : decode b_Model_type 27 = .ok (.aload_n 0, 1) := by decide +kernel
theorem d_Model_type_28 : decode b_Model_type 28 = .ok (.getfield 36, 3) := by decide +kernel
theorem d_Model_type_31 : decode b_Model_type 31 = .ok (.iload_n 1, 1) := by decide +kernel
theorem d_Model_type_32 : decode b_Model_type 32 = .ok (.castore, 1) := by decide +kernel
theorem d_Model_type_33 : decode b_Model_type 33 = .ok (.aload_n 0, 1) := by decide +kernel
theorem d_Model_type_34 : decode b_Model_type 34 = .ok (.aload_n 0, 1) := by decide +kernel
theorem d_Model_type_35 : decode b_Model_type 35 = .ok (.getfield 36, 3) := by decide +kernel
theorem d_Model_type_38 : decode b_Model_type 38 = .ok (.iconst 1, 1) := by decide +kernel
theorem d_Model_type_39 : decode b_Model_type 39 = .ok (.iadd, 1) := by decide +kernel
theorem d_Model_type_40 : decode b_Model_type 40 = .ok (.putfield 36, 3) := by decide +kernel
theorem d_Model_type_43 : decode b_Model_type 43 = .ok (.iconst 1, 1) := by decide +kernel
theorem d_Model_type_44 : decode b_Model_type 44 = .ok (.ireturn, 1) := by decide +kernel
theorem d_Model_wipe_0 : decode b_Model_wipe 0 = .ok (.aload_n 0, 1) := by decide +kernel
theorem d_Model_wipe_1 : decode b_Model_wipe 1 = .ok (.iconst 0, 1) := by decide +kernel
theorem d_Model_wipe_2 : decode b_Model_wipe 2 = .ok (.putfield 36, 3) := by decide +kernel
theorem d_Model_wipe_5 : decode b_Model_wipe 5 = .ok (.return_, 1) := by decide +kernel
theorem d_Model_length_0 : decode b_Model_length 0 = .ok (.aload_n 0, 1) := by decide +kernel
theorem d_Model_length_1 : decode b_Model_length 1 = .ok (.getfield 36, 3) := by decide +kernel
theorem d_Model_length_4 : decode b_Model_length 4 = .ok (.ireturn, 1) := by decide +kernel
theorem d_Model_copy_0 : decode b_Model_copy 0 = .ok (.aload_n 0, 1) := by decide +kernel
theorem d_Model_copy_1 : decode b_Model_copy 1 = .ok (.iconst 0, 1) := by decide +kernel
theorem d_Model_copy_2 : decode b_Model_copy 2 = .ok (.putfield 36, 3) := by decide +kernel
theorem d_Model_copy_5 : decode b_Model_copy 5 = .ok (.iconst 0, 1) := by decide +kernel
theorem d_Model_copy_6 : decode b_Model_copy 6 = .ok (.istore_n 1, 1) := by decide +kernel
theorem d_Model_copy_7 : decode b_Model_copy 7 = .ok (.iload_n 1, 1) := by decide +kernel
theorem d_Model_copy_8 : decode b_Model_copy 8 = .ok (.aload_n 0, 1) := by decide +kernel
theorem d_Model_copy_9 : decode b_Model_copy 9 = .ok (.getfield 39, 3) := by decide +kernel
theorem d_Model_copy_12 : decode b_Model_copy 12 = .ok (.if_icmp .ge 21, 3) := by decide +kernel
theorem d_Model_copy_15 : decode b_Model_copy 15 = .ok (.aload_n 0, 1) := by decide +kernel
theorem d_Model_copy_16 : decode b_Model_copy 16 = .ok (.getfield 7, 3) := by decide +kernel
theorem d_Model_copy_19 : decode b_Model_copy 19 = .ok (.iload_n 1, 1) := by decide +kernel
theorem d_Model_copy_20 : decode b_Model_copy 20 = .ok (.aload_n 0, 1) := by decide +kernel
theorem d_Model_copy_21 : decode b_Model_copy 21 = .ok (.getfield 13, 3) := by decide +kernel
theorem d_Model_copy_24 : decode b_Model_copy 24 = .ok (.iload_n 1, 1) := by decide +kernel
theorem d_Model_copy_25 : decode b_Model_copy 25 = .ok (.caload, 1) := by decide +kernel
theorem d_Model_copy_26 : decode b_Model_copy 26 = .ok (.castore, 1) := by decide +kernel
theorem d_Model_copy_27 : decode b_Model_copy 27 = .ok (.iinc 1 1, 3) := by decide +kernel
theorem d_Model_copy_30 : decode b_Model_copy 30 = .ok (.goto (-23), 3) := by decide +kernel
theorem d_Model_copy_33 : decode b_Model_copy 33 = .ok (.aload_n 0, 1) := by decide +kernel
theorem d_Model_copy_34 : decode b_Model_copy 34 = .ok (.aload_n 0, 1) := by decide +kernel
theorem d_Model_copy_35 : decode b_Model_copy 35 = .ok (.getfield 39, 3) := by decide +kernel
theorem d_Model_copy_38 : decode b_Model_copy 38 = .ok (.putfield 36, 3) := by decide +kernel
theorem d_Model_copy_41 : decode b_Model_copy 41 = .ok (.return_, 1) := by decide +kernel
theorem d_Model_out_0 : decode b_Model_out 0 = .ok (.iload_n 1, 1) := by decide +kernel
theorem d_Model_out_1 : decode b_Model_out 1 = .ok (.ifCond .lt 11, 3) := by decide +kernel
theorem d_Model_out_4 : decode b_Model_out 4 = .ok (.iload_n 1, 1) := by decide +kernel
theorem d_Model_out_5 : decode b_Model_out 5 = .ok (.aload_n 0, 1) := by decide +kernel
theorem d_Model_out_6 : decode b_Model_out 6 = .ok (.getfield 39, 3) := by decide +kernel
theorem d_Model_out_9 : decode b_Model_out 9 = .ok (.if_icmp .lt 7, 3) := by decide +kernel
theorem d_Model_out_12 : decode b_Model_out 12 = .ok (.iconst (-1), 1) := by decide +kernel
theorem d_Model_out_13 : decode b_Model_out 13 = .ok (.goto 9, 3) := by decide +kernel
theorem d_Model_out_16 : decode b_Model_out 16 = .ok (.aload_n 0, 1) := by decide +kernel
theorem d_Model_out_17 : decode b_Model_out 17 = .ok (.getfield 13, 3) := by decide +kernel
theorem d_Model_out_20 : decode b_Model_out 20 = .ok (.iload_n 1, 1) := by decide +kernel
theorem d_Model_out_21 : decode b_Model_out 21 = .ok (.caload, 1) := by decide +kernel
theorem d_Model_out_22 : decode b_Model_out 22 = .ok (.ireturn, 1) := by decide +kernel
theorem d_Model_is_0 : decode b_Model_is 0 = .ok (.iload_n 1, 1) := by decide +kernel
theorem d_Model_is_1 : decode b_Model_is 1 = .ok (.aload_n 0, 1) := by decide +kernel
theorem d_Model_is_2 : decode b_Model_is 2 = .ok (.getfield 36, 3) := by decide +kernel
theorem d_Model_is_5 : decode b_Model_is 5 = .ok (.if_icmp .ge 17, 3) := by decide +kernel
theorem d_Model_is_8 : decode b_Model_is 8 = .ok (.aload_n 0, 1) := by decide +kernel
theorem d_Model_is_9 : decode b_Model_is 9 = .ok (.getfield 7, 3) := by decide +kernel
theorem d_Model_is_12 : decode b_Model_is 12 = .ok (.iload_n 1, 1) := by decide +kernel
theorem d_Model_is_13 : decode b_Model_is 13 = .ok (.caload, 1) := by decide +kernel
theorem d_Model_is_14 : decode b_Model_is 14 = .ok (.iload_n 2, 1) := by decide +kernel
theorem d_Model_is_15 : decode b_Model_is 15 = .ok (.if_icmp .ne 7, 3) := by decide +kernel
theorem d_Model_is_18 : decode b_Model_is 18 = .ok (.iconst 1, 1) := by decide +kernel
theorem d_Model_is_19 : decode b_Model_is 19 = .ok (.goto 4, 3) := by decide +kernel
theorem d_Model_is_22 : decode b_Model_is 22 = .ok (.iconst 0, 1) := by decide +kernel
theorem d_Model_is_23 : decode b_Model_is 23 = .ok (.ireturn, 1) := by decide +kernel
theorem d_Model_special_0 : decode b_Model_special 0 = .ok (.iload_n 0, 1) := by decide +kernel
theorem d_Model_special_1 : decode b_Model_special 1 = .ok (.bipush 35, 2) := by decide +kernel
theorem d_Model_special_3 : decode b_Model_special 3 = .ok (.if_icmp .eq 33, 3) := by decide +kernel
theorem d_Model_special_6 : decode b_Model_special 6 = .ok (.iload_n 0, 1) := by decide +kernel
theorem d_Model_special_7 : decode b_Model_special 7 = .ok (.bipush 48, 2) := by decide +kernel
theorem d_Model_special_9 : decode b_Model_special 9 = .ok (.if_icmp .eq 27, 3) := by decide +kernel
theorem d_Model_special_12 : decode b_Model_special 12 = .ok (.iload_n 0, 1) := by decide +kernel
theorem d_Model_special_13 : decode b_Model_special 13 = .ok (.bipush 44, 2) := by decide +kernel
theorem d_Model_special_15 : decode b_Model_special 15 = .ok (.if_icmp .eq 21, 3) := by decide +kernel
theorem d_Model_special_18 : decode b_Model_special 18 = .ok (.iload_n 0, 1) := by decide +kernel
theorem d_Model_special_19 : decode b_Model_special 19 = .ok (.bipush 46, 2) := by decide +kernel
theorem d_Model_special_21 : decode b_Model_special 21 = .ok (.if_icmp .eq 15, 3) := by decide +kernel
theorem d_Model_special_24 : decode b_Model_special 24 = .ok (.iload_n 0, 1) := by decide +kernel
theorem d_Model_special_25 : decode b_Model_special 25 = .ok (.bipush 59, 2) := by decide +kernel
theorem d_Model_special_27 : decode b_Model_special 27 = .ok (.if_icmp .eq 9, 3) := by decide +kernel
theorem d_Model_special_30 : decode b_Model_special 30 = .ok (.iload_n 0, 1) := by decide +kernel
theorem d_Model_special_31 : decode b_Model_special 31 = .ok (.bipush 69, 2) := by decide +kernel
theorem d_Model_special_33 : decode b_Model_special 33 = .ok (.if_icmp .ne 7, 3) := by decide +kernel
theorem d_Model_special_36 : decode b_Model_special 36 = .ok (.iconst 1, 1) := by decide +kernel
theorem d_Model_special_37 : decode b_Model_special 37 = .ok (.goto 4, 3) := by decide +kernel
theorem d_Model_special_40 : decode b_Model_special 40 = .ok (.iconst 0, 1) := by decide +kernel
theorem d_Model_special_41 : decode b_Model_special 41 = .ok (.ireturn, 1) := by decide +kernel
theorem d_Model_keep_0 : decode b_Model_keep 0 = .ok (.aload_n 0, 1) := by decide +kernel
theorem d_Model_keep_1 : decode b_Model_keep 1 = .ok (.getfield 42, 3) := by decide +kernel
theorem d_Model_keep_4 : decode b_Model_keep 4 = .ok (.ifCond .eq 34, 3) := by decide +kernel
theorem d_Model_keep_7 : decode b_Model_keep 7 = .ok (.aload_n 0, 1) := by decide +kernel
theorem d_Model_keep_8 : decode b_Model_keep 8 = .ok (.getfield 20, 3) := by decide +kernel
theorem d_Model_keep_11 : decode b_Model_keep 11 = .ok (.bipush 40, 2) := by decide +kernel
theorem d_Model_keep_13 : decode b_Model_keep 13 = .ok (.iload_n 1, 1) := by decide +kernel
theorem d_Model_keep_14 : decode b_Model_keep 14 = .ok (.imul, 1) := by decide +kernel
theorem d_Model_keep_15 : decode b_Model_keep 15 = .ok (.aload_n 0, 1) := by decide +kernel
theorem d_Model_keep_16 : decode b_Model_keep 16 = .ok (.getfield 24, 3) := by decide +kernel
theorem d_Model_keep_19 : decode b_Model_keep 19 = .ok (.iload_n 1, 1) := by decide +kernel
theorem d_Model_keep_20 : decode b_Model_keep 20 = .ok (.iaload, 1) := by decide +kernel
theorem d_Model_keep_21 : decode b_Model_keep 21 = .ok (.iadd, 1) := by decide +kernel
theorem d_Model_keep_22 : decode b_Model_keep 22 = .ok (.iload_n 2, 1) := by decide +kernel
theorem d_Model_keep_23 : decode b_Model_keep 23 = .ok (.iastore, 1) := by decide +kernel
theorem d_Model_keep_24 : decode b_Model_keep 24 = .ok (.aload_n 0, 1) := by decide +kernel
theorem d_Model_keep_25 : decode b_Model_keep 25 = .ok (.getfield 24, 3) := by decide +kernel
theorem d_Model_keep_28 : decode b_Model_keep 28 = .ok (.iload_n 1, 1) := by decide +kernel
theorem d_Model_keep_29 : decode b_Model_keep 29 = .ok (.aload_n 0, 1) := by decide +kernel
theorem d_Model_keep_30 : decode b_Model_keep 30 = .ok (.getfield 24, 3) := by decide +kernel
theorem d_Model_keep_33 : decode b_Model_keep 33 = .ok (.iload_n 1, 1) := by decide +kernel
theorem d_Model_keep_34 : decode b_Model_keep 34 = .ok (.iaload, 1) := by decide +kernel
theorem d_Model_keep_35 : decode b_Model_keep 35 = .ok (.iconst 1, 1) := by decide +kernel
theorem d_Model_keep_36 : decode b_Model_keep 36 = .ok (.iadd, 1) := by decide +kernel
theorem d_Model_keep_37 : decode b_Model_keep 37 = .ok (.iastore, 1) := by decide +kernel
theorem d_Model_keep_38 : decode b_Model_keep 38 = .ok (.return_, 1) := by decide +kernel
theorem d_Model_affix_0 : decode b_Model_affix 0 = .ok (.aload_n 0, 1) := by decide +kernel
theorem d_Model_affix_1 : decode b_Model_affix 1 = .ok (.iconst 0, 1) := by decide +kernel
theorem d_Model_affix_2 : decode b_Model_affix 2 = .ok (.putfield 46, 3) := by decide +kernel
theorem d_Model_affix_5 : decode b_Model_affix 5 = .ok (.aload_n 0, 1) := by decide +kernel
theorem d_Model_affix_6 : decode b_Model_affix 6 = .ok (.getfield 49, 3) := by decide +kernel
theorem d_Model_affix_9 : decode b_Model_affix 9 = .ok (.aload_n 0, 1) := by decide +kernel
theorem d_Model_affix_10 : decode b_Model_affix 10 = .ok (.getfield 36, 3) := by decide +kernel
theorem d_Model_affix_13 : decode b_Model_affix 13 = .ok (.if_icmp .ge 7, 3) := by decide +kernel
theorem d_Model_affix_16 : decode b_Model_affix 16 = .ok (.iconst 1, 1) := by decide +kernel
theorem d_Model_affix_17 : decode b_Model_affix 17 = .ok (.goto 4, 3) := by decide +kernel
theorem d_Model_affix_20 : decode b_Model_affix 20 = .ok (.iconst 0, 1) := by decide +kernel
theorem d_Model_affix_21 : decode b_Model_affix 21 = .ok (.istore_n 2, 1) := by decide +kernel
theorem d_Model_affix_22 : decode b_Model_affix 22 = .ok (.iload_n 2, 1) := by decide +kernel
theorem d_Model_affix_23 : decode b_Model_affix 23 = .ok (.ifCond .eq 187, 3) := by decide +kernel
theorem d_Model_affix_26 : decode b_Model_affix 26 = .ok (.aload_n 0, 1) := by decide +kernel
theorem d_Model_affix_27 : decode b_Model_affix 27 = .ok (.aload_n 0, 1) := by decide +kernel
theorem d_Model_affix_28 : decode b_Model_affix 28 = .ok (.getfield 49, 3) := by decide +kernel
theorem d_Model_affix_31 : decode b_Model_affix 31 = .ok (.bipush 39, 2) := by decide +kernel
theorem d_Model_affix_33 : decode b_Model_affix 33 = .ok (.invokevirtual 52, 3) := by decide +kernel
theorem d_Model_affix_36 : decode b_Model_affix 36 = .ok (.ifCond .eq 38, 3) := by decide +kernel
theorem d_Model_affix_39 : decode b_Model_affix 39 = .ok (.aload_n 0, 1) := by decide +kernel
theorem d_Model_affix_40 : decode b_Model_affix 40 = .ok (.aload_n 0, 1) := by decide +kernel
theorem d_Model_affix_41 : decode b_Model_affix 41 = .ok (.getfield 49, 3) := by decide +kernel
theorem d_Model_affix_44 : decode b_Model_affix 44 = .ok (.iconst 1, 1) := by decide +kernel
theorem d_Model_affix_45 : decode b_Model_affix 45 = .ok (.iadd, 1) := by decide +kernel
theorem d_Model_affix_46 : decode b_Model_affix 46 = .ok (.bipush 39, 2) := by decide +kernel
theorem d_Model_affix_48 : decode b_Model_affix 48 = .ok (.invokevirtual 52, 3) := by decide +kernel
theorem d_Model_affix_51 : decode b_Model_affix 51 = .ok (.ifCond .eq 23, 3) := by decide +kernel
theorem d_Model_affix_54 : decode b_Model_affix 54 = .ok (.aload_n 0, 1) := by decide +kernel
theorem d_Model_affix_55 : decode b_Model_affix 55 = .ok (.iload_n 1, 1) := by decide +kernel
theorem d_Model_affix_56 : decode b_Model_affix 56 = .ok (.bipush 39, 2) := by decide +kernel
theorem d_Model_affix_58 : decode b_Model_affix 58 = .ok (.invokevirtual 56, 3) := by decide +kernel
theorem d_Model_affix_61 : decode b_Model_affix 61 = .ok (.aload_n 0, 1) := by decide +kernel
theorem d_Model_affix_62 : decode b_Model_affix 62 = .ok (.aload_n 0, 1) := by decide +kernel
theorem d_Model_affix_63 : decode b_Model_affix 63 = .ok (.getfield 49, 3) := by decide +kernel
theorem d_Model_affix_66 : decode b_Model_affix 66 = .ok (.iconst 2, 1) := by decide +kernel
theorem d_Model_affix_67 : decode b_Model_affix 67 = .ok (.iadd, 1) := by decide +kernel
theorem d_Model_affix_68 : decode b_Model_affix 68 = .ok (.putfield 49, 3) := by decide +kernel
theorem d_Model_affix_71 : decode b_Model_affix 71 = .ok (.goto 119, 3) := by decide +kernel
theorem d_Model_affix_74 : decode b_Model_affix 74 = .ok (.aload_n 0, 1) := by decide +kernel
theorem d_Model_affix_75 : decode b_Model_affix 75 = .ok (.aload_n 0, 1) := by decide +kernel
theorem d_Model_affix_76 : decode b_Model_affix 76 = .ok (.getfield 49, 3) := by decide +kernel
theorem d_Model_affix_79 : decode b_Model_affix 79 = .ok (.bipush 39, 2) := by decide +kernel
theorem d_Model_affix_81 : decode b_Model_affix 81 = .ok (.invokevirtual 52, 3) := by decide +kernel
theorem d_Model_affix_84 : decode b_Model_affix 84 = .ok (.ifCond .eq 32, 3) := by decide +kernel
theorem d_Model_affix_87 : decode b_Model_affix 87 = .ok (.aload_n 0, 1) := by decide +kernel
theorem d_Model_affix_88 : decode b_Model_affix 88 = .ok (.aload_n 0, 1) := by decide +kernel
theorem d_Model_affix_89 : decode b_Model_affix 89 = .ok (.getfield 46, 3) := by decide +kernel
theorem d_Model_affix_92 : decode b_Model_affix 92 = .ok (.ifCond .ne 7, 3) := by decide +kernel
theorem d_Model_affix_95 : decode b_Model_affix 95 = .ok (.iconst 1, 1) := by decide +kernel
theorem d_Model_affix_96 : decode b_Model_affix 96 = .ok (.goto 4, 3) := by decide +kernel
theorem d_Model_affix_99 : decode b_Model_affix 99 = .ok (.iconst 0, 1) := by decide +kernel
theorem d_Model_affix_100 : decode b_Model_affix 100 = .ok (.putfield 46, 3) := by decide +kernel
theorem d_Model_affix_103 : decode b_Model_affix 103 = .ok (.aload_n 0, 1) := by decide +kernel
theorem d_Model_affix_104 : decode b_Model_affix 104 = .ok (.aload_n 0, 1) := by decide +kernel
theorem d_Model_affix_105 : decode b_Model_affix 105 = .ok (.getfield 49, 3) := by decide +kernel
theorem d_Model_affix_108 : decode b_Model_affix 108 = .ok (.iconst 1, 1) := by decide +kernel
theorem d_Model_affix_109 : decode b_Model_affix 109 = .ok (.iadd, 1) := by decide +kernel
theorem d_Model_affix_110 : decode b_Model_affix 110 = .ok (.putfield 49, 3) := by decide +kernel
theorem d_Model_affix_113 : decode b_Model_affix 113 = .ok (.goto 77, 3) := by decide +kernel
theorem d_Model_affix_116 : decode b_Model_affix 116 = .ok (.aload_n 0, 1) := by decide +kernel
theorem d_Model_affix_117 : decode b_Model_affix 117 = .ok (.getfield 46, 3) := by decide +kernel
theorem d_Model_affix_120 : decode b_Model_affix 120 = .ok (.ifCond .ne 19, 3) := by decide +kernel
theorem d_Model_affix_123 : decode b_Model_affix 123 = .ok (.aload_n 0, 1) := by decide +kernel
theorem d_Model_affix_124 : decode b_Model_affix 124 = .ok (.getfield 7, 3) := by decide +kernel
theorem d_Model_affix_127 : decode b_Model_affix 127 = .ok (.aload_n 0, 1) := by decide +kernel
theorem d_Model_affix_128 : decode b_Model_affix 128 = .ok (.getfield 49, 3) := by decide +kernel
theorem d_Model_affix_131 : decode b_Model_affix 131 = .ok (.caload, 1) := by decide +kernel
theorem d_Model_affix_132 : decode b_Model_affix 132 = .ok (.invokestatic 60, 3) := by decide +kernel
theorem d_Model_affix_135 : decode b_Model_affix 135 = .ok (.ifCond .eq 4, 3) := by decide +kernel
theorem d_Model_affix_138 : decode b_Model_affix 138 = .ok (.return_, 1) := by decide +kernel
theorem d_Model_affix_139 : decode b_Model_affix 139 = .ok (.aload_n 0, 1) := by decide +kernel
theorem d_Model_affix_140 : decode b_Model_affix 140 = .ok (.iload_n 1, 1) := by decide +kernel
theorem d_Model_affix_141 : decode b_Model_affix 141 = .ok (.aload_n 0, 1) := by decide +kernel
theorem d_Model_affix_142 : decode b_Model_affix 142 = .ok (.getfield 46, 3) := by decide +kernel
theorem d_Model_affix_145 : decode b_Model_affix 145 = .ok (.ifCond .ne 23, 3) := by decide +kernel
theorem d_Model_affix_148 : decode b_Model_affix 148 = .ok (.aload_n 0, 1) := by decide +kernel
theorem d_Model_affix_149 : decode b_Model_affix 149 = .ok (.getfield 7, 3) := by decide +kernel
theorem d_Model_affix_152 : decode b_Model_affix 152 = .ok (.aload_n 0, 1) := by decide +kernel
theorem d_Model_affix_153 : decode b_Model_affix 153 = .ok (.getfield 49, 3) := by decide +kernel
theorem d_Model_affix_156 : decode b_Model_affix 156 = .ok (.caload, 1) := by decide +kernel
theorem d_Model_affix_157 : decode b_Model_affix 157 = .ok (.bipush 37, 2) := by decide +kernel
theorem d_Model_affix_159 : decode b_Model_affix 159 = .ok (.if_icmp .ne 9, 3) := by decide +kernel
theorem d_Model_affix_162 : decode b_Model_affix 162 = .ok (.sipush 200, 3) := by decide +kernel
theorem d_Model_affix_165 : decode b_Model_affix 165 = .ok (.goto 12, 3) := by decide +kernel
theorem d_Model_affix_168 : decode b_Model_affix 168 = .ok (.aload_n 0, 1) := by decide +kernel
theorem d_Model_affix_169 : decode b_Model_affix 169 = .ok (.getfield 7, 3) := by decide +kernel
theorem d_Model_affix_172 : decode b_Model_affix 172 = .ok (.aload_n 0, 1) := by decide +kernel
theorem d_Model_affix_173 : decode b_Model_affix 173 = .ok (.getfield 49, 3) := by decide +kernel
theorem d_Model_affix_176 : decode b_Model_affix 176 = .ok (.caload, 1) := by decide +kernel
theorem d_Model_affix_177 : decode b_Model_affix 177 = .ok (.invokevirtual 56, 3) := by decide +kernel
theorem d_Model_affix_180 : decode b_Model_affix 180 = .ok (.aload_n 0, 1) := by decide +kernel
theorem d_Model_affix_181 : decode b_Model_affix 181 = .ok (.aload_n 0, 1) := by decide +kernel
theorem d_Model_affix_182 : decode b_Model_affix 182 = .ok (.getfield 49, 3) := by decide +kernel
theorem d_Model_affix_185 : decode b_Model_affix 185 = .ok (.iconst 1, 1) := by decide +kernel
theorem d_Model_affix_186 : decode b_Model_affix 186 = .ok (.iadd, 1) := by decide +kernel
theorem d_Model_affix_187 : decode b_Model_affix 187 = .ok (.putfield 49, 3) := by decide +kernel
theorem d_Model_affix_190 : decode b_Model_affix 190 = .ok (.aload_n 0, 1) := by decide +kernel
theorem d_Model_affix_191 : decode b_Model_affix 191 = .ok (.getfield 49, 3) := by decide +kernel
theorem d_Model_affix_194 : decode b_Model_affix 194 = .ok (.aload_n 0, 1) := by decide +kernel
theorem d_Model_affix_195 : decode b_Model_affix 195 = .ok (.getfield 36, 3) := by decide +kernel
theorem d_Model_affix_198 : decode b_Model_affix 198 = .ok (.if_icmp .ge 7, 3) := by decide +kernel
theorem d_Model_affix_201 : decode b_Model_affix 201 = .ok (.iconst 1, 1) := by decide +kernel
theorem d_Model_affix_202 : decode b_Model_affix 202 = .ok (.goto 4, 3) := by decide +kernel
theorem d_Model_affix_205 : decode b_Model_affix 205 = .ok (.iconst 0, 1) := by decide +kernel
theorem d_Model_affix_206 : decode b_Model_affix 206 = .ok (.istore_n 2, 1) := by decide +kernel
theorem d_Model_affix_207 : decode b_Model_affix 207 = .ok (.goto (-185), 3) := by decide +kernel
theorem d_Model_affix_210 : decode b_Model_affix 210 = .ok (.return_, 1) := by decide +kernel
theorem d_Model_whole_0 : decode b_Model_whole 0 = .ok (.iconst 0, 1) := by decide +kernel
theorem d_Model_whole_1 : decode b_Model_whole 1 = .ok (.istore_n 2, 1) := by decide +kernel
theorem d_Model_whole_2 : decode b_Model_whole 2 = .ok (.iconst 0, 1) := by decide +kernel
theorem d_Model_whole_3 : decode b_Model_whole 3 = .ok (.istore_n 3, 1) := by decide +kernel
theorem d_Model_whole_4 : decode b_Model_whole 4 = .ok (.iconst 0, 1) := by decide +kernel
theorem d_Model_whole_5 : decode b_Model_whole 5 = .ok (.istore 4, 2) := by decide +kernel
theorem d_Model_whole_7 : decode b_Model_whole 7 = .ok (.iconst 0, 1) := by decide +kernel
theorem d_Model_whole_8 : decode b_Model_whole 8 = .ok (.istore 5, 2) := by decide +kernel
theorem d_Model_whole_10 : decode b_Model_whole 10 = .ok (.iconst 1, 1) := by decide +kernel
theorem d_Model_whole_11 : decode b_Model_whole 11 = .ok (.istore 6, 2) := by decide +kernel
theorem d_Model_whole_13 : decode b_Model_whole 13 = .ok (.aload_n 0, 1) := by decide +kernel
theorem d_Model_whole_14 : decode b_Model_whole 14 = .ok (.aload_n 0, 1) := by decide +kernel
theorem d_Model_whole_15 : decode b_Model_whole 15 = .ok (.getfield 49, 3) := by decide +kernel
theorem d_Model_whole_18 : decode b_Model_whole 18 = .ok (.bipush 35, 2) := by decide +kernel
theorem d_Model_whole_20 : decode b_Model_whole 20 = .ok (.invokevirtual 52, 3) := by decide +kernel
theorem d_Model_whole_23 : decode b_Model_whole 23 = .ok (.ifCond .eq 13, 3) := by decide +kernel
theorem d_Model_whole_26 : decode b_Model_whole 26 = .ok (.iload_n 3, 1) := by decide +kernel
theorem d_Model_whole_27 : decode b_Model_whole 27 = .ok (.ifCond .ne 9, 3) := by decide +kernel
theorem d_Model_whole_30 : decode b_Model_whole 30 = .ok (.iload_n 2, 1) := by decide +kernel
theorem d_Model_whole_31 : decode b_Model_whole 31 = .ok (.bipush 12, 2) := by decide +kernel
theorem d_Model_whole_33 : decode b_Model_whole 33 = .ok (.if_icmp .lt 46, 3) := by decide +kernel
theorem d_Model_whole_36 : decode b_Model_whole 36 = .ok (.aload_n 0, 1) := by decide +kernel
theorem d_Model_whole_37 : decode b_Model_whole 37 = .ok (.aload_n 0, 1) := by decide +kernel
theorem d_Model_whole_38 : decode b_Model_whole 38 = .ok (.getfield 49, 3) := by decide +kernel
theorem d_Model_whole_41 : decode b_Model_whole 41 = .ok (.bipush 48, 2) := by decide +kernel
theorem d_Model_whole_43 : decode b_Model_whole 43 = .ok (.invokevirtual 52, 3) := by decide +kernel
theorem d_Model_whole_46 : decode b_Model_whole 46 = .ok (.ifCond .eq 9, 3) := by decide +kernel
theorem d_Model_whole_49 : decode b_Model_whole 49 = .ok (.iload_n 2, 1) := by decide +kernel
theorem d_Model_whole_50 : decode b_Model_whole 50 = .ok (.bipush 12, 2) := by decide +kernel
theorem d_Model_whole_52 : decode b_Model_whole 52 = .ok (.if_icmp .lt 27, 3) := by decide +kernel
theorem d_Model_whole_55 : decode b_Model_whole 55 = .ok (.aload_n 0, 1) := by decide +kernel
theorem d_Model_whole_56 : decode b_Model_whole 56 = .ok (.aload_n 0, 1) := by decide +kernel
theorem d_Model_whole_57 : decode b_Model_whole 57 = .ok (.getfield 49, 3) := by decide +kernel
theorem d_Model_whole_60 : decode b_Model_whole 60 = .ok (.bipush 44, 2) := by decide +kernel
theorem d_Model_whole_62 : decode b_Model_whole 62 = .ok (.invokevirtual 52, 3) := by decide +kernel
theorem d_Model_whole_65 : decode b_Model_whole 65 = .ok (.ifCond .eq 88, 3) := by decide +kernel
theorem d_Model_whole_68 : decode b_Model_whole 68 = .ok (.iload 6, 2) := by decide +kernel
theorem d_Model_whole_70 : decode b_Model_whole 70 = .ok (.ifCond .ne 83, 3) := by decide +kernel
theorem d_Model_whole_73 : decode b_Model_whole 73 = .ok (.iload_n 2, 1) := by decide +kernel
theorem d_Model_whole_74 : decode b_Model_whole 74 = .ok (.bipush 12, 2) := by decide +kernel
theorem d_Model_whole_76 : decode b_Model_whole 76 = .ok (.if_icmp .ge 77, 3) := by decide +kernel
theorem d_Model_whole_79 : decode b_Model_whole 79 = .ok (.aload_n 0, 1) := by decide +kernel
theorem d_Model_whole_80 : decode b_Model_whole 80 = .ok (.getfield 7, 3) := by decide +kernel
theorem d_Model_whole_83 : decode b_Model_whole 83 = .ok (.aload_n 0, 1) := by decide +kernel
theorem d_Model_whole_84 : decode b_Model_whole 84 = .ok (.getfield 49, 3) := by decide +kernel
theorem d_Model_whole_87 : decode b_Model_whole 87 = .ok (.caload, 1) := by decide +kernel
theorem d_Model_whole_88 : decode b_Model_whole 88 = .ok (.bipush 44, 2) := by decide +kernel
theorem d_Model_whole_90 : decode b_Model_whole 90 = .ok (.if_icmp .ne 15, 3) := by decide +kernel
theorem d_Model_whole_93 : decode b_Model_whole 93 = .ok (.iconst 1, 1) := by decide +kernel
theorem d_Model_whole_94 : decode b_Model_whole 94 = .ok (.istore 5, 2) := by decide +kernel
theorem d_Model_whole_96 : decode b_Model_whole 96 = .ok (.iconst 1, 1) := by decide +kernel
theorem d_Model_whole_97 : decode b_Model_whole 97 = .ok (.istore 6, 2) := by decide +kernel
theorem d_Model_whole_99 : decode b_Model_whole 99 = .ok (.iconst 0, 1) := by decide +kernel
theorem d_Model_whole_100 : decode b_Model_whole 100 = .ok (.istore 4, 2) := by decide +kernel
theorem d_Model_whole_102 : decode b_Model_whole 102 = .ok (.goto 38, 3) := by decide +kernel
theorem d_Model_whole_105 : decode b_Model_whole 105 = .ok (.aload_n 0, 1) := by decide +kernel
theorem d_Model_whole_106 : decode b_Model_whole 106 = .ok (.getfield 7, 3) := by decide +kernel
theorem d_Model_whole_109 : decode b_Model_whole 109 = .ok (.aload_n 0, 1) := by decide +kernel
theorem d_Model_whole_110 : decode b_Model_whole 110 = .ok (.getfield 49, 3) := by decide +kernel
theorem d_Model_whole_113 : decode b_Model_whole 113 = .ok (.caload, 1) := by decide +kernel
theorem d_Model_whole_114 : decode b_Model_whole 114 = .ok (.bipush 48, 2) := by decide +kernel
theorem d_Model_whole_116 : decode b_Model_whole 116 = .ok (.if_icmp .ne 9, 3) := by decide +kernel
theorem d_Model_whole_119 : decode b_Model_whole 119 = .ok (.iload_n 3, 1) := by decide +kernel
theorem d_Model_whole_120 : decode b_Model_whole 120 = .ok (.iconst 1, 1) := by decide +kernel
theorem d_Model_whole_121 : decode b_Model_whole 121 = .ok (.iadd, 1) := by decide +kernel
theorem d_Model_whole_122 : decode b_Model_whole 122 = .ok (.goto 4, 3) := by decide +kernel
theorem d_Model_whole_125 : decode b_Model_whole 125 = .ok (.iload_n 3, 1) := by decide +kernel
theorem d_Model_whole_126 : decode b_Model_whole 126 = .ok (.istore_n 3, 1) := by decide +kernel
theorem d_Model_whole_127 : decode b_Model_whole 127 = .ok (.iload_n 2, 1) := by decide +kernel
theorem d_Model_whole_128 : decode b_Model_whole 128 = .ok (.iconst 1, 1) := by decide +kernel
theorem d_Model_whole_129 : decode b_Model_whole 129 = .ok (.iadd, 1) := by decide +kernel
theorem d_Model_whole_130 : decode b_Model_whole 130 = .ok (.istore_n 2, 1) := by decide +kernel
theorem d_Model_whole_131 : decode b_Model_whole 131 = .ok (.iload 4, 2) := by decide +kernel
theorem d_Model_whole_133 : decode b_Model_whole 133 = .ok (.iconst 1, 1) := by decide +kernel
theorem d_Model_whole_134 : decode b_Model_whole 134 = .ok (.iadd, 1) := by decide +kernel
theorem d_Model_whole_135 : decode b_Model_whole 135 = .ok (.istore 4, 2) := by decide +kernel
theorem d_Model_whole_137 : decode b_Model_whole 137 = .ok (.iconst 0, 1) := by decide +kernel
theorem d_Model_whole_138 : decode b_Model_whole 138 = .ok (.istore 6, 2) := by decide +kernel
theorem d_Model_whole_140 : decode b_Model_whole 140 = .ok (.aload_n 0, 1) := by decide +kernel
theorem d_Model_whole_141 : decode b_Model_whole 141 = .ok (.aload_n 0, 1) := by decide +kernel
theorem d_Model_whole_142 : decode b_Model_whole 142 = .ok (.getfield 49, 3) := by decide +kernel
theorem d_Model_whole_145 : decode b_Model_whole 145 = .ok (.iconst 1, 1) := by decide +kernel
theorem d_Model_whole_146 : decode b_Model_whole 146 = .ok (.iadd, 1) := by decide +kernel
theorem d_Model_whole_147 : decode b_Model_whole 147 = .ok (.putfield 49, 3) := by decide +kernel
theorem d_Model_whole_150 : decode b_Model_whole 150 = .ok (.goto (-137), 3) := by decide +kernel
theorem d_Model_whole_153 : decode b_Model_whole 153 = .ok (.iload 6, 2) := by decide +kernel
theorem d_Model_whole_155 : decode b_Model_whole 155 = .ok (.ifCond .eq 11, 3) := by decide +kernel
theorem d_Model_whole_158 : decode b_Model_whole 158 = .ok (.aload_n 0, 1) := by decide +kernel
theorem d_Model_whole_159 : decode b_Model_whole 159 = .ok (.aload_n 0, 1) := by decide +kernel
theorem d_Model_whole_160 : decode b_Model_whole 160 = .ok (.getfield 49, 3) := by decide +kernel
theorem d_Model_whole_163 : decode b_Model_whole 163 = .ok (.putfield 64, 3) := by decide +kernel
theorem d_Model_whole_166 : decode b_Model_whole 166 = .ok (.aload_n 0, 1) := by decide +kernel
theorem d_Model_whole_167 : decode b_Model_whole 167 = .ok (.getfield 42, 3) := by decide +kernel
theorem d_Model_whole_170 : decode b_Model_whole 170 = .ok (.ifCond .eq 31, 3) := by decide +kernel
theorem d_Model_whole_173 : decode b_Model_whole 173 = .ok (.iload_n 1, 1) := by decide +kernel
theorem d_Model_whole_174 : decode b_Model_whole 174 = .ok (.ifCond .eq 27, 3) := by decide +kernel
theorem d_Model_whole_177 : decode b_Model_whole 177 = .ok (.aload_n 0, 1) := by decide +kernel
theorem d_Model_whole_178 : decode b_Model_whole 178 = .ok (.getfield 27, 3) := by decide +kernel
theorem d_Model_whole_181 : decode b_Model_whole 181 = .ok (.iconst 0, 1) := by decide +kernel
theorem d_Model_whole_182 : decode b_Model_whole 182 = .ok (.iload_n 3, 1) := by decide +kernel
theorem d_Model_whole_183 : decode b_Model_whole 183 = .ok (.iastore, 1) := by decide +kernel
theorem d_Model_whole_184 : decode b_Model_whole 184 = .ok (.aload_n 0, 1) := by decide +kernel
theorem d_Model_whole_185 : decode b_Model_whole 185 = .ok (.getfield 27, 3) := by decide +kernel
theorem d_Model_whole_188 : decode b_Model_whole 188 = .ok (.iconst 3, 1) := by decide +kernel
theorem d_Model_whole_189 : decode b_Model_whole 189 = .ok (.iload 5, 2) := by decide +kernel
theorem d_Model_whole_191 : decode b_Model_whole 191 = .ok (.ifCond .eq 8, 3) := by decide +kernel
theorem d_Model_whole_194 : decode b_Model_whole 194 = .ok (.iload 4, 2) := by decide +kernel
theorem d_Model_whole_196 : decode b_Model_whole 196 = .ok (.goto 4, 3) := by decide +kernel
theorem d_Model_whole_199 : decode b_Model_whole 199 = .ok (.iconst 0, 1) := by decide +kernel
theorem d_Model_whole_200 : decode b_Model_whole 200 = .ok (.iastore, 1) := by decide +kernel
theorem d_Model_whole_201 : decode b_Model_whole 201 = .ok (.iload 5, 2) := by decide +kernel
theorem d_Model_whole_203 : decode b_Model_whole 203 = .ok (.ifCond .ne 8, 3) := by decide +kernel
theorem d_Model_whole_206 : decode b_Model_whole 206 = .ok (.iload_n 2, 1) := by decide +kernel
theorem d_Model_whole_207 : decode b_Model_whole 207 = .ok (.iload_n 3, 1) := by decide +kernel
theorem d_Model_whole_208 : decode b_Model_whole 208 = .ok (.if_icmp .le 7, 3) := by decide +kernel
theorem d_Model_whole_211 : decode b_Model_whole 211 = .ok (.iconst 0, 1) := by decide +kernel
theorem d_Model_whole_212 : decode b_Model_whole 212 = .ok (.goto 4, 3) := by decide +kernel
theorem d_Model_whole_215 : decode b_Model_whole 215 = .ok (.iload_n 2, 1) := by decide +kernel
theorem d_Model_whole_216 : decode b_Model_whole 216 = .ok (.ireturn, 1) := by decide +kernel
theorem d_Model_fraction_0 : decode b_Model_fraction 0 = .ok (.iconst 0, 1) := by decide +kernel
theorem d_Model_fraction_1 : decode b_Model_fraction 1 = .ok (.istore_n 2, 1) := by decide +kernel
theorem d_Model_fraction_2 : decode b_Model_fraction 2 = .ok (.iconst 0, 1) := by decide +kernel
theorem d_Model_fraction_3 : decode b_Model_fraction 3 = .ok (.istore_n 3, 1) := by decide +kernel
theorem d_Model_fraction_4 : decode b_Model_fraction 4 = .ok (.aload_n 0, 1) := by decide +kernel
theorem d_Model_fraction_5 : decode b_Model_fraction 5 = .ok (.aload_n 0, 1) := by decide +kernel
theorem d_Model_fraction_6 : decode b_Model_fraction 6 = .ok (.getfield 49, 3) := by decide +kernel
theorem d_Model_fraction_9 : decode b_Model_fraction 9 = .ok (.bipush 48, 2) := by decide +kernel
theorem d_Model_fraction_11 : decode b_Model_fraction 11 = .ok (.invokevirtual 52, 3) := by decide +kernel
theorem d_Model_fraction_14 : decode b_Model_fraction 14 = .ok (.ifCond .eq 13, 3) := by decide +kernel
theorem d_Model_fraction_17 : decode b_Model_fraction 17 = .ok (.iload_n 3, 1) := by decide +kernel
theorem d_Model_fraction_18 : decode b_Model_fraction 18 = .ok (.ifCond .ne 9, 3) := by decide +kernel
theorem d_Model_fraction_21 : decode b_Model_fraction 21 = .ok (.iload_n 2, 1) := by decide +kernel
theorem d_Model_fraction_22 : decode b_Model_fraction 22 = .ok (.bipush 9, 2) := by decide +kernel
theorem d_Model_fraction_24 : decode b_Model_fraction 24 = .ok (.if_icmp .lt 24, 3) := by decide +kernel
theorem d_Model_fraction_27 : decode b_Model_fraction 27 = .ok (.aload_n 0, 1) := by decide +kernel
theorem d_Model_fraction_28 : decode b_Model_fraction 28 = .ok (.aload_n 0, 1) := by decide +kernel
theorem d_Model_fraction_29 : decode b_Model_fraction 29 = .ok (.getfield 49, 3) := by decide +kernel
theorem d_Model_fraction_32 : decode b_Model_fraction 32 = .ok (.bipush 35, 2) := by decide +kernel
theorem d_Model_fraction_34 : decode b_Model_fraction 34 = .ok (.invokevirtual 52, 3) := by decide +kernel
theorem d_Model_fraction_37 : decode b_Model_fraction 37 = .ok (.ifCond .eq 68, 3) := by decide +kernel
theorem d_Model_fraction_40 : decode b_Model_fraction 40 = .ok (.iload_n 2, 1) := by decide +kernel
theorem d_Model_fraction_41 : decode b_Model_fraction 41 = .ok (.iload_n 3, 1) := by decide +kernel
theorem d_Model_fraction_42 : decode b_Model_fraction 42 = .ok (.iadd, 1) := by decide +kernel
theorem d_Model_fraction_43 : decode b_Model_fraction 43 = .ok (.bipush 9, 2) := by decide +kernel
theorem d_Model_fraction_45 : decode b_Model_fraction 45 = .ok (.if_icmp .ge 60, 3) := by decide +kernel
theorem d_Model_fraction_48 : decode b_Model_fraction 48 = .ok (.aload_n 0, 1) := by decide +kernel
theorem d_Model_fraction_49 : decode b_Model_fraction 49 = .ok (.getfield 7, 3) := by decide +kernel
theorem d_Model_fraction_52 : decode b_Model_fraction 52 = .ok (.aload_n 0, 1) := by decide +kernel
theorem d_Model_fraction_53 : decode b_Model_fraction 53 = .ok (.getfield 49, 3) := by decide +kernel
theorem d_Model_fraction_56 : decode b_Model_fraction 56 = .ok (.caload, 1) := by decide +kernel
theorem d_Model_fraction_57 : decode b_Model_fraction 57 = .ok (.bipush 48, 2) := by decide +kernel
theorem d_Model_fraction_59 : decode b_Model_fraction 59 = .ok (.if_icmp .ne 9, 3) := by decide +kernel
theorem d_Model_fraction_62 : decode b_Model_fraction 62 = .ok (.iload_n 2, 1) := by decide +kernel
theorem d_Model_fraction_63 : decode b_Model_fraction 63 = .ok (.iconst 1, 1) := by decide +kernel
theorem d_Model_fraction_64 : decode b_Model_fraction 64 = .ok (.iadd, 1) := by decide +kernel
theorem d_Model_fraction_65 : decode b_Model_fraction 65 = .ok (.goto 4, 3) := by decide +kernel
theorem d_Model_fraction_68 : decode b_Model_fraction 68 = .ok (.iload_n 2, 1) := by decide +kernel
theorem d_Model_fraction_69 : decode b_Model_fraction 69 = .ok (.istore_n 2, 1) := by decide +kernel
theorem d_Model_fraction_70 : decode b_Model_fraction 70 = .ok (.aload_n 0, 1) := by decide +kernel
theorem d_Model_fraction_71 : decode b_Model_fraction 71 = .ok (.getfield 7, 3) := by decide +kernel
theorem d_Model_fraction_74 : decode b_Model_fraction 74 = .ok (.aload_n 0, 1) := by decide +kernel
theorem d_Model_fraction_75 : decode b_Model_fraction 75 = .ok (.getfield 49, 3) := by decide +kernel
theorem d_Model_fraction_78 : decode b_Model_fraction 78 = .ok (.caload, 1) := by decide +kernel
theorem d_Model_fraction_79 : decode b_Model_fraction 79 = .ok (.bipush 35, 2) := by decide +kernel
theorem d_Model_fraction_81 : decode b_Model_fraction 81 = .ok (.if_icmp .ne 9, 3) := by decide +kernel
theorem d_Model_fraction_84 : decode b_Model_fraction 84 = .ok (.iload_n 3, 1) := by decide +kernel
theorem d_Model_fraction_85 : decode b_Model_fraction 85 = .ok (.iconst 1, 1) := by decide +kernel
theorem d_Model_fraction_86 : decode b_Model_fraction 86 = .ok (.iadd, 1) := by decide +kernel
theorem d_Model_fraction_87 : decode b_Model_fraction 87 = .ok (.goto 4, 3) := by decide +kernel
theorem d_Model_fraction_90 : decode b_Model_fraction 90 = .ok (.iload_n 3, 1) := by decide +kernel
theorem d_Model_fraction_91 : decode b_Model_fraction 91 = .ok (.istore_n 3, 1) := by decide +kernel
theorem d_Model_fraction_92 : decode b_Model_fraction 92 = .ok (.aload_n 0, 1) := by decide +kernel
theorem d_Model_fraction_93 : decode b_Model_fraction 93 = .ok (.aload_n 0, 1) := by decide +kernel
theorem d_Model_fraction_94 : decode b_Model_fraction 94 = .ok (.getfield 49, 3) := by decide +kernel
theorem d_Model_fraction_97 : decode b_Model_fraction 97 = .ok (.iconst 1, 1) := by decide +kernel
theorem d_Model_fraction_98 : decode b_Model_fraction 98 = .ok (.iadd, 1) := by decide +kernel
theorem d_Model_fraction_99 : decode b_Model_fraction 99 = .ok (.putfield 49, 3) := by decide +kernel
theorem d_Model_fraction_102 : decode b_Model_fraction 102 = .ok (.goto (-98), 3) := by decide +kernel
theorem d_Model_fraction_105 : decode b_Model_fraction 105 = .ok (.aload_n 0, 1) := by decide +kernel
theorem d_Model_fraction_106 : decode b_Model_fraction 106 = .ok (.getfield 42, 3) := by decide +kernel
theorem d_Model_fraction_109 : decode b_Model_fraction 109 = .ok (.ifCond .eq 23, 3) := by decide +kernel
theorem d_Model_fraction_112 : decode b_Model_fraction 112 = .ok (.iload_n 1, 1) := by decide +kernel
theorem d_Model_fraction_113 : decode b_Model_fraction 113 = .ok (.ifCond .eq 19, 3) := by decide +kernel
theorem d_Model_fraction_116 : decode b_Model_fraction 116 = .ok (.aload_n 0, 1) := by decide +kernel
theorem d_Model_fraction_117 : decode b_Model_fraction 117 = .ok (.getfield 27, 3) := by decide +kernel
theorem d_Model_fraction_120 : decode b_Model_fraction 120 = .ok (.iconst 1, 1) := by decide +kernel
theorem d_Model_fraction_121 : decode b_Model_fraction 121 = .ok (.iload_n 2, 1) := by decide +kernel
theorem d_Model_fraction_122 : decode b_Model_fraction 122 = .ok (.iastore, 1) := by decide +kernel
theorem d_Model_fraction_123 : decode b_Model_fraction 123 = .ok (.aload_n 0, 1) := by decide +kernel
theorem d_Model_fraction_124 : decode b_Model_fraction 124 = .ok (.getfield 27, 3) := by decide +kernel
theorem d_Model_fraction_127 : decode b_Model_fraction 127 = .ok (.iconst 2, 1) := by decide +kernel
theorem d_Model_fraction_128 : decode b_Model_fraction 128 = .ok (.iload_n 2, 1) := by decide +kernel
theorem d_Model_fraction_129 : decode b_Model_fraction 129 = .ok (.iload_n 3, 1) := by decide +kernel
theorem d_Model_fraction_130 : decode b_Model_fraction 130 = .ok (.iadd, 1) := by decide +kernel
theorem d_Model_fraction_131 : decode b_Model_fraction 131 = .ok (.iastore, 1) := by decide +kernel
theorem d_Model_fraction_132 : decode b_Model_fraction 132 = .ok (.return_, 1) := by decide +kernel
theorem d_Model_exponent_0 : decode b_Model_exponent 0 = .ok (.iconst 0, 1) := by decide +kernel
theorem d_Model_exponent_1 : decode b_Model_exponent 1 = .ok (.istore_n 2, 1) := by decide +kernel
theorem d_Model_exponent_2 : decode b_Model_exponent 2 = .ok (.aload_n 0, 1) := by decide +kernel
theorem d_Model_exponent_3 : decode b_Model_exponent 3 = .ok (.aload_n 0, 1) := by decide +kernel
theorem d_Model_exponent_4 : decode b_Model_exponent 4 = .ok (.getfield 49, 3) := by decide +kernel
theorem d_Model_exponent_7 : decode b_Model_exponent 7 = .ok (.bipush 48, 2) := by decide +kernel
theorem d_Model_exponent_9 : decode b_Model_exponent 9 = .ok (.invokevirtual 52, 3) := by decide +kernel
theorem d_Model_exponent_12 : decode b_Model_exponent 12 = .ok (.ifCond .eq 25, 3) := by decide +kernel
theorem d_Model_exponent_15 : decode b_Model_exponent 15 = .ok (.iload_n 2, 1) := by decide +kernel
theorem d_Model_exponent_16 : decode b_Model_exponent 16 = .ok (.iconst 3, 1) := by decide +kernel
theorem d_Model_exponent_17 : decode b_Model_exponent 17 = .ok (.if_icmp .ge 20, 3) := by decide +kernel
theorem d_Model_exponent_20 : decode b_Model_exponent 20 = .ok (.iload_n 2, 1) := by decide +kernel
theorem d_Model_exponent_21 : decode b_Model_exponent 21 = .ok (.iconst 1, 1) := by decide +kernel
theorem d_Model_exponent_22 : decode b_Model_exponent 22 = .ok (.iadd, 1) := by decide +kernel
theorem d_Model_exponent_23 : decode b_Model_exponent 23 = .ok (.istore_n 2, 1) := by decide +kernel
theorem d_Model_exponent_24 : decode b_Model_exponent 24 = .ok (.aload_n 0, 1) := by decide +kernel
theorem d_Model_exponent_25 : decode b_Model_exponent 25 = .ok (.aload_n 0, 1) := by decide +kernel
theorem d_Model_exponent_26 : decode b_Model_exponent 26 = .ok (.getfield 49, 3) := by decide +kernel
theorem d_Model_exponent_29 : decode b_Model_exponent 29 = .ok (.iconst 1, 1) := by decide +kernel
theorem d_Model_exponent_30 : decode b_Model_exponent 30 = .ok (.iadd, 1) := by decide +kernel
theorem d_Model_exponent_31 : decode b_Model_exponent 31 = .ok (.putfield 49, 3) := by decide +kernel
theorem d_Model_exponent_34 : decode b_Model_exponent 34 = .ok (.goto (-32), 3) := by decide +kernel
theorem d_Model_exponent_37 : decode b_Model_exponent 37 = .ok (.iload_n 2, 1) := by decide +kernel
theorem d_Model_exponent_38 : decode b_Model_exponent 38 = .ok (.ifCond .ne 11, 3) := by decide +kernel
theorem d_Model_exponent_41 : decode b_Model_exponent 41 = .ok (.aload_n 0, 1) := by decide +kernel
theorem d_Model_exponent_42 : decode b_Model_exponent 42 = .ok (.aload_n 0, 1) := by decide +kernel
theorem d_Model_exponent_43 : decode b_Model_exponent 43 = .ok (.getfield 49, 3) := by decide +kernel
theorem d_Model_exponent_46 : decode b_Model_exponent 46 = .ok (.putfield 64, 3) := by decide +kernel
theorem d_Model_exponent_49 : decode b_Model_exponent 49 = .ok (.aload_n 0, 1) := by decide +kernel
theorem d_Model_exponent_50 : decode b_Model_exponent 50 = .ok (.getfield 42, 3) := by decide +kernel
theorem d_Model_exponent_53 : decode b_Model_exponent 53 = .ok (.ifCond .eq 14, 3) := by decide +kernel
theorem d_Model_exponent_56 : decode b_Model_exponent 56 = .ok (.iload_n 1, 1) := by decide +kernel
theorem d_Model_exponent_57 : decode b_Model_exponent 57 = .ok (.ifCond .eq 10, 3) := by decide +kernel
theorem d_Model_exponent_60 : decode b_Model_exponent 60 = .ok (.aload_n 0, 1) := by decide +kernel
theorem d_Model_exponent_61 : decode b_Model_exponent 61 = .ok (.getfield 27, 3) := by decide +kernel
theorem d_Model_exponent_64 : decode b_Model_exponent 64 = .ok (.iconst 4, 1) := by decide +kernel
theorem d_Model_exponent_65 : decode b_Model_exponent 65 = .ok (.iload_n 2, 1) := by decide +kernel
theorem d_Model_exponent_66 : decode b_Model_exponent 66 = .ok (.iastore, 1) := by decide +kernel
theorem d_Model_exponent_67 : decode b_Model_exponent 67 = .ok (.return_, 1) := by decide +kernel
theorem d_Model_number_0 : decode b_Model_number 0 = .ok (.aload_n 0, 1) := by decide +kernel
theorem d_Model_number_1 : decode b_Model_number 1 = .ok (.iload_n 1, 1) := by decide +kernel
theorem d_Model_number_2 : decode b_Model_number 2 = .ok (.invokevirtual 67, 3) := by decide +kernel
theorem d_Model_number_5 : decode b_Model_number 5 = .ok (.istore_n 2, 1) := by decide +kernel
theorem d_Model_number_6 : decode b_Model_number 6 = .ok (.aload_n 0, 1) := by decide +kernel
theorem d_Model_number_7 : decode b_Model_number 7 = .ok (.getfield 64, 3) := by decide +kernel
theorem d_Model_number_10 : decode b_Model_number 10 = .ok (.ifCond .ge 31, 3) := by decide +kernel
theorem d_Model_number_13 : decode b_Model_number 13 = .ok (.aload_n 0, 1) := by decide +kernel
theorem d_Model_number_14 : decode b_Model_number 14 = .ok (.aload_n 0, 1) := by decide +kernel
theorem d_Model_number_15 : decode b_Model_number 15 = .ok (.getfield 49, 3) := by decide +kernel
theorem d_Model_number_18 : decode b_Model_number 18 = .ok (.bipush 46, 2) := by decide +kernel
theorem d_Model_number_20 : decode b_Model_number 20 = .ok (.invokevirtual 52, 3) := by decide +kernel
theorem d_Model_number_23 : decode b_Model_number 23 = .ok (.ifCond .eq 18, 3) := by decide +kernel
theorem d_Model_number_26 : decode b_Model_number 26 = .ok (.aload_n 0, 1) := by decide +kernel
theorem d_Model_number_27 : decode b_Model_number 27 = .ok (.aload_n 0, 1) := by decide +kernel
theorem d_Model_number_28 : decode b_Model_number 28 = .ok (.getfield 49, 3) := by decide +kernel
theorem d_Model_number_31 : decode b_Model_number 31 = .ok (.iconst 1, 1) := by decide +kernel
theorem d_Model_number_32 : decode b_Model_number 32 = .ok (.iadd, 1) := by decide +kernel
theorem d_Model_number_33 : decode b_Model_number 33 = .ok (.putfield 49, 3) := by decide +kernel
theorem d_Model_number_36 : decode b_Model_number 36 = .ok (.aload_n 0, 1) := by decide +kernel
theorem d_Model_number_37 : decode b_Model_number 37 = .ok (.iload_n 1, 1) := by decide +kernel
theorem d_Model_number_38 : decode b_Model_number 38 = .ok (.invokevirtual 71, 3) := by decide +kernel
theorem d_Model_number_41 : decode b_Model_number 41 = .ok (.aload_n 0, 1) := by decide +kernel
theorem d_Model_number_42 : decode b_Model_number 42 = .ok (.getfield 64, 3) := by decide +kernel
theorem d_Model_number_45 : decode b_Model_number 45 = .ok (.ifCond .ge 35, 3) := by decide +kernel
theorem d_Model_number_48 : decode b_Model_number 48 = .ok (.aload_n 0, 1) := by decide +kernel
theorem d_Model_number_49 : decode b_Model_number 49 = .ok (.aload_n 0, 1) := by decide +kernel
theorem d_Model_number_50 : decode b_Model_number 50 = .ok (.getfield 49, 3) := by decide +kernel
theorem d_Model_number_53 : decode b_Model_number 53 = .ok (.bipush 69, 2) := by decide +kernel
theorem d_Model_number_55 : decode b_Model_number 55 = .ok (.invokevirtual 52, 3) := by decide +kernel
theorem d_Model_number_58 : decode b_Model_number 58 = .ok (.ifCond .eq 22, 3) := by decide +kernel
theorem d_Model_number_61 : decode b_Model_number 61 = .ok (.iload_n 2, 1) := by decide +kernel
theorem d_Model_number_62 : decode b_Model_number 62 = .ok (.ifCond .le 18, 3) := by decide +kernel
theorem d_Model_number_65 : decode b_Model_number 65 = .ok (.aload_n 0, 1) := by decide +kernel
theorem d_Model_number_66 : decode b_Model_number 66 = .ok (.aload_n 0, 1) := by decide +kernel
theorem d_Model_number_67 : decode b_Model_number 67 = .ok (.getfield 49, 3) := by decide +kernel
theorem d_Model_number_70 : decode b_Model_number 70 = .ok (.iconst 1, 1) := by decide +kernel
theorem d_Model_number_71 : decode b_Model_number 71 = .ok (.iadd, 1) := by decide +kernel
theorem d_Model_number_72 : decode b_Model_number 72 = .ok (.putfield 49, 3) := by decide +kernel
theorem d_Model_number_75 : decode b_Model_number 75 = .ok (.aload_n 0, 1) := by decide +kernel
theorem d_Model_number_76 : decode b_Model_number 76 = .ok (.iload_n 1, 1) := by decide +kernel
theorem d_Model_number_77 : decode b_Model_number 77 = .ok (.invokevirtual 75, 3) := by decide +kernel
theorem d_Model_number_80 : decode b_Model_number 80 = .ok (.return_, 1) := by decide +kernel
theorem d_Model_part_0 : decode b_Model_part 0 = .ok (.aload_n 0, 1) := by decide +kernel
theorem d_Model_part_1 : decode b_Model_part 1 = .ok (.iconst 2, 1) := by decide +kernel
theorem d_Model_part_2 : decode b_Model_part 2 = .ok (.iload_n 1, 1) := by decide +kernel
theorem d_Model_part_3 : decode b_Model_part 3 = .ok (.imul, 1) := by decide +kernel
theorem d_Model_part_4 : decode b_Model_part 4 = .ok (.invokevirtual 78, 3) := by decide +kernel
theorem d_Model_part_7 : decode b_Model_part 7 = .ok (.aload_n 0, 1) := by decide +kernel
theorem d_Model_part_8 : decode b_Model_part 8 = .ok (.iload_n 1, 1) := by decide +kernel
theorem d_Model_part_9 : decode b_Model_part 9 = .ok (.ifCond .ne 7, 3) := by decide +kernel
theorem d_Model_part_12 : decode b_Model_part 12 = .ok (.iconst 1, 1) := by decide +kernel
theorem d_Model_part_13 : decode b_Model_part 13 = .ok (.goto 4, 3) := by decide +kernel
theorem d_Model_part_16 : decode b_Model_part 16 = .ok (.iconst 0, 1) := by decide +kernel
theorem d_Model_part_17 : decode b_Model_part 17 = .ok (.invokevirtual 82, 3) := by decide +kernel
theorem d_Model_part_20 : decode b_Model_part 20 = .ok (.aload_n 0, 1) := by decide +kernel
theorem d_Model_part_21 : decode b_Model_part 21 = .ok (.getfield 64, 3) := by decide +kernel
theorem d_Model_part_24 : decode b_Model_part 24 = .ok (.ifCond .ge 12, 3) := by decide +kernel
theorem d_Model_part_27 : decode b_Model_part 27 = .ok (.aload_n 0, 1) := by decide +kernel
theorem d_Model_part_28 : decode b_Model_part 28 = .ok (.iconst 2, 1) := by decide +kernel
theorem d_Model_part_29 : decode b_Model_part 29 = .ok (.iload_n 1, 1) := by decide +kernel
theorem d_Model_part_30 : decode b_Model_part 30 = .ok (.imul, 1) := by decide +kernel
theorem d_Model_part_31 : decode b_Model_part 31 = .ok (.iconst 1, 1) := by decide +kernel
theorem d_Model_part_32 : decode b_Model_part 32 = .ok (.iadd, 1) := by decide +kernel
theorem d_Model_part_33 : decode b_Model_part 33 = .ok (.invokevirtual 78, 3) := by decide +kernel
theorem d_Model_part_36 : decode b_Model_part 36 = .ok (.return_, 1) := by decide +kernel
