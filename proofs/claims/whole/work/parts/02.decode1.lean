theorem d_PatternReader_readExponent_0 : decode b_PatternReader_readExponent 0 = .ok (.aload_n 2, 1) := by decide +kernel
theorem d_PatternReader_readExponent_1 : decode b_PatternReader_readExponent 1 = .ok (.getfield 102, 3) := by decide +kernel
theorem d_PatternReader_readExponent_4 : decode b_PatternReader_readExponent 4 = .ok (.iconst 3, 1) := by decide +kernel
theorem d_PatternReader_readExponent_5 : decode b_PatternReader_readExponent 5 = .ok (.if_icmp .ge 39, 3) := by decide +kernel
theorem d_PatternReader_readExponent_8 : decode b_PatternReader_readExponent 8 = .ok (.aload_n 1, 1) := by decide +kernel
theorem d_PatternReader_readExponent_9 : decode b_PatternReader_readExponent 9 = .ok (.aload_n 0, 1) := by decide +kernel
theorem d_PatternReader_readExponent_10 : decode b_PatternReader_readExponent 10 = .ok (.getfield 9, 3) := by decide +kernel
theorem d_PatternReader_readExponent_13 : decode b_PatternReader_readExponent 13 = .ok (.invokevirtual 29, 3) := by decide +kernel
theorem d_PatternReader_readExponent_16 : decode b_PatternReader_readExponent 16 = .ok (.bipush 48, 2) := by decide +kernel
theorem d_PatternReader_readExponent_18 : decode b_PatternReader_readExponent 18 = .ok (.if_icmp .ne 26, 3) := by decide +kernel
theorem d_PatternReader_readExponent_21 : decode b_PatternReader_readExponent 21 = .ok (.aload_n 2, 1) := by decide +kernel
theorem d_PatternReader_readExponent_22 : decode b_PatternReader_readExponent 22 = .ok (.dup, 1) := by decide +kernel
theorem d_PatternReader_readExponent_23 : decode b_PatternReader_readExponent 23 = .ok (.getfield 102, 3) := by decide +kernel
theorem d_PatternReader_readExponent_26 : decode b_PatternReader_readExponent 26 = .ok (.iconst 1, 1) := by decide +kernel
theorem d_PatternReader_readExponent_27 : decode b_PatternReader_readExponent 27 = .ok (.iadd, 1) := by decide +kernel
theorem d_PatternReader_readExponent_28 : decode b_PatternReader_readExponent 28 = .ok (.putfield 102, 3) := by decide +kernel
theorem d_PatternReader_readExponent_31 : decode b_PatternReader_readExponent 31 = .ok (.aload_n 0, 1) := by decide +kernel
theorem d_PatternReader_readExponent_32 : decode b_PatternReader_readExponent 32 = .ok (.dup, 1) := by decide +kernel
theorem d_PatternReader_readExponent_33 : decode b_PatternReader_readExponent 33 = .ok (.getfield 9, 3) := by decide +kernel
theorem d_PatternReader_readExponent_36 : decode b_PatternReader_readExponent 36 = .ok (.iconst 1, 1) := by decide +kernel
theorem d_PatternReader_readExponent_37 : decode b_PatternReader_readExponent 37 = .ok (.iadd, 1) := by decide +kernel
theorem d_PatternReader_readExponent_38 : decode b_PatternReader_readExponent 38 = .ok (.putfield 9, 3) := by decide +kernel
theorem d_PatternReader_readExponent_41 : decode b_PatternReader_readExponent 41 = .ok (.goto (-41), 3) := by decide +kernel
theorem d_PatternReader_readExponent_44 : decode b_PatternReader_readExponent 44 = .ok (.aload_n 2, 1) := by decide +kernel
theorem d_PatternReader_readExponent_45 : decode b_PatternReader_readExponent 45 = .ok (.getfield 102, 3) := by decide +kernel
theorem d_PatternReader_readExponent_48 : decode b_PatternReader_readExponent 48 = .ok (.ifCond .le 7, 3) := by decide +kernel
theorem d_PatternReader_readExponent_51 : decode b_PatternReader_readExponent 51 = .ok (.iconst 1, 1) := by decide +kernel
theorem d_PatternReader_readExponent_52 : decode b_PatternReader_readExponent 52 = .ok (.goto 4, 3) := by decide +kernel
theorem d_PatternReader_readExponent_55 : decode b_PatternReader_readExponent 55 = .ok (.iconst 0, 1) := by decide +kernel
theorem d_PatternReader_readExponent_56 : decode b_PatternReader_readExponent 56 = .ok (.ireturn, 1) := by decide +kernel
theorem d_PatternWriter_init_0 : decode b_PatternWriter_init 0 = .ok (.aload_n 0, 1) := by decide +kernel
theorem d_PatternWriter_init_1 : decode b_PatternWriter_init 1 = .ok (.invokespecial 3, 3) := by decide +kernel
theorem d_PatternWriter_init_4 : decode b_PatternWriter_init 4 = .ok (.return_, 1) := by decide +kernel
theorem d_PatternWriter_write_0 : decode b_PatternWriter_write 0 = .ok (.aload_n 2, 1) := by decide +kernel
theorem d_PatternWriter_write_1 : decode b_PatternWriter_write 1 = .ok (.invokevirtual 9, 3) := by decide +kernel
theorem d_PatternWriter_write_4 : decode b_PatternWriter_write 4 = .ok (.aload_n 0, 1) := by decide +kernel
theorem d_PatternWriter_write_5 : decode b_PatternWriter_write 5 = .ok (.aload_n 1, 1) := by decide +kernel
theorem d_PatternWriter_write_6 : decode b_PatternWriter_write 6 = .ok (.getfield 14, 3) := by decide +kernel
theorem d_PatternWriter_write_9 : decode b_PatternWriter_write 9 = .ok (.getfield 20, 3) := by decide +kernel
theorem d_PatternWriter_write_12 : decode b_PatternWriter_write 12 = .ok (.aload_n 2, 1) := by decide +kernel
theorem d_PatternWriter_write_13 : decode b_PatternWriter_write 13 = .ok (.invokevirtual 26, 3) := by decide +kernel
theorem d_PatternWriter_write_16 : decode b_PatternWriter_write 16 = .ok (.aload_n 0, 1) := by decide +kernel
theorem d_PatternWriter_write_17 : decode b_PatternWriter_write 17 = .ok (.aload_n 1, 1) := by decide +kernel
theorem d_PatternWriter_write_18 : decode b_PatternWriter_write 18 = .ok (.getfield 14, 3) := by decide +kernel
theorem d_PatternWriter_write_21 : decode b_PatternWriter_write 21 = .ok (.getfield 32, 3) := by decide +kernel
theorem d_PatternWriter_write_24 : decode b_PatternWriter_write 24 = .ok (.aload_n 2, 1) := by decide +kernel
theorem d_PatternWriter_write_25 : decode b_PatternWriter_write 25 = .ok (.invokevirtual 36, 3) := by decide +kernel
theorem d_PatternWriter_write_28 : decode b_PatternWriter_write 28 = .ok (.aload_n 0, 1) := by decide +kernel
theorem d_PatternWriter_write_29 : decode b_PatternWriter_write 29 = .ok (.aload_n 1, 1) := by decide +kernel
theorem d_PatternWriter_write_30 : decode b_PatternWriter_write 30 = .ok (.getfield 14, 3) := by decide +kernel
theorem d_PatternWriter_write_33 : decode b_PatternWriter_write 33 = .ok (.getfield 40, 3) := by decide +kernel
theorem d_PatternWriter_write_36 : decode b_PatternWriter_write 36 = .ok (.aload_n 2, 1) := by decide +kernel
theorem d_PatternWriter_write_37 : decode b_PatternWriter_write 37 = .ok (.invokevirtual 26, 3) := by decide +kernel
theorem d_PatternWriter_write_40 : decode b_PatternWriter_write 40 = .ok (.aload_n 1, 1) := by decide +kernel
theorem d_PatternWriter_write_41 : decode b_PatternWriter_write 41 = .ok (.getfield 43, 3) := by decide +kernel
theorem d_PatternWriter_write_44 : decode b_PatternWriter_write 44 = .ok (.ifCond .eq 48, 3) := by decide +kernel
theorem d_PatternWriter_write_47 : decode b_PatternWriter_write 47 = .ok (.aload_n 1, 1) := by decide +kernel
theorem d_PatternWriter_write_48 : decode b_PatternWriter_write 48 = .ok (.invokevirtual 47, 3) := by decide +kernel
theorem d_PatternWriter_write_51 : decode b_PatternWriter_write 51 = .ok (.ifCond .ne 41, 3) := by decide +kernel
theorem d_PatternWriter_write_54 : decode b_PatternWriter_write 54 = .ok (.aload_n 2, 1) := by decide +kernel
theorem d_PatternWriter_write_55 : decode b_PatternWriter_write 55 = .ok (.bipush 59, 2) := by decide +kernel
theorem d_PatternWriter_write_57 : decode b_PatternWriter_write 57 = .ok (.invokevirtual 51, 3) := by decide +kernel
theorem d_PatternWriter_write_60 : decode b_PatternWriter_write 60 = .ok (.pop, 1) := by decide +kernel
theorem d_PatternWriter_write_61 : decode b_PatternWriter_write 61 = .ok (.aload_n 0, 1) := by decide +kernel
theorem d_PatternWriter_write_62 : decode b_PatternWriter_write 62 = .ok (.aload_n 1, 1) := by decide +kernel
theorem d_PatternWriter_write_63 : decode b_PatternWriter_write 63 = .ok (.getfield 55, 3) := by decide +kernel
theorem d_PatternWriter_write_66 : decode b_PatternWriter_write 66 = .ok (.getfield 20, 3) := by decide +kernel
theorem d_PatternWriter_write_69 : decode b_PatternWriter_write 69 = .ok (.aload_n 2, 1) := by decide +kernel
theorem d_PatternWriter_write_70 : decode b_PatternWriter_write 70 = .ok (.invokevirtual 26, 3) := by decide +kernel
theorem d_PatternWriter_write_73 : decode b_PatternWriter_write 73 = .ok (.aload_n 2, 1) := by decide +kernel
theorem d_PatternWriter_write_74 : decode b_PatternWriter_write 74 = .ok (.bipush 35, 2) := by decide +kernel
theorem d_PatternWriter_write_76 : decode b_PatternWriter_write 76 = .ok (.invokevirtual 51, 3) := by decide +kernel
theorem d_PatternWriter_write_79 : decode b_PatternWriter_write 79 = .ok (.pop, 1) := by decide +kernel
theorem d_PatternWriter_write_80 : decode b_PatternWriter_write 80 = .ok (.aload_n 0, 1) := by decide +kernel
theorem d_PatternWriter_write_81 : decode b_PatternWriter_write 81 = .ok (.aload_n 1, 1) := by decide +kernel
theorem d_PatternWriter_write_82 : decode b_PatternWriter_write 82 = .ok (.getfield 55, 3) := by decide +kernel
theorem d_PatternWriter_write_85 : decode b_PatternWriter_write 85 = .ok (.getfield 40, 3) := by decide +kernel
theorem d_PatternWriter_write_88 : decode b_PatternWriter_write 88 = .ok (.aload_n 2, 1) := by decide +kernel
theorem d_PatternWriter_write_89 : decode b_PatternWriter_write 89 = .ok (.invokevirtual 26, 3) := by decide +kernel
theorem d_PatternWriter_write_92 : decode b_PatternWriter_write 92 = .ok (.return_, 1) := by decide +kernel
theorem d_PatternWriter_writeAffix_0 : decode b_PatternWriter_writeAffix 0 = .ok (.iconst 0, 1) := by decide +kernel
theorem d_PatternWriter_writeAffix_1 : decode b_PatternWriter_writeAffix 1 = .ok (.istore_n 3, 1) := by decide +kernel
theorem d_PatternWriter_writeAffix_2 : decode b_PatternWriter_writeAffix 2 = .ok (.iconst 0, 1) := by decide +kernel
theorem d_PatternWriter_writeAffix_3 : decode b_PatternWriter_writeAffix 3 = .ok (.istore 4, 2) := by decide +kernel
theorem d_PatternWriter_writeAffix_5 : decode b_PatternWriter_writeAffix 5 = .ok (.iload 4, 2) := by decide +kernel
theorem d_PatternWriter_writeAffix_7 : decode b_PatternWriter_writeAffix 7 = .ok (.aload_n 1, 1) := by decide +kernel
theorem d_PatternWriter_writeAffix_8 : decode b_PatternWriter_writeAffix 8 = .ok (.invokevirtual 58, 3) := by decide +kernel
theorem d_PatternWriter_writeAffix_11 : decode b_PatternWriter_writeAffix 11 = .ok (.if_icmp .ge 83, 3) := by decide +kernel
theorem d_PatternWriter_writeAffix_14 : decode b_PatternWriter_writeAffix 14 = .ok (.aload_n 1, 1) := by decide +kernel
theorem d_PatternWriter_writeAffix_15 : decode b_PatternWriter_writeAffix 15 = .ok (.iload 4, 2) := by decide +kernel
theorem d_PatternWriter_writeAffix_17 : decode b_PatternWriter_writeAffix 17 = .ok (.invokevirtual 64, 3) := by decide +kernel
theorem d_PatternWriter_writeAffix_20 : decode b_PatternWriter_writeAffix 20 = .ok (.istore 5, 2) := by decide +kernel
theorem d_PatternWriter_writeAffix_22 : decode b_PatternWriter_writeAffix 22 = .ok (.iload_n 3, 1) := by decide +kernel
theorem d_PatternWriter_writeAffix_23 : decode b_PatternWriter_writeAffix 23 = .ok (.ifCond .eq 14, 3) := by decide +kernel
theorem d_PatternWriter_writeAffix_26 : decode b_PatternWriter_writeAffix 26 = .ok (.iload 5, 2) := by decide +kernel
theorem d_PatternWriter_writeAffix_28 : decode b_PatternWriter_writeAffix 28 = .ok (.sipush 256, 3) := by decide +kernel
theorem d_PatternWriter_writeAffix_31 : decode b_PatternWriter_writeAffix 31 = .ok (.if_icmp .ne 31, 3) := by decide +kernel
theorem d_PatternWriter_writeAffix_34 : decode b_PatternWriter_writeAffix 34 = .ok (.goto 11, 3) := by decide +kernel
theorem d_PatternWriter_writeAffix_37 : decode b_PatternWriter_writeAffix 37 = .ok (.iload 5, 2) := by decide +kernel
theorem d_PatternWriter_writeAffix_39 : decode b_PatternWriter_writeAffix 39 = .ok (.invokestatic 68, 3) := by decide +kernel
theorem d_PatternWriter_writeAffix_42 : decode b_PatternWriter_writeAffix 42 = .ok (.ifCond .eq 20, 3) := by decide +kernel
theorem d_PatternWriter_writeAffix_45 : decode b_PatternWriter_writeAffix 45 = .ok (.aload_n 2, 1) := by decide +kernel
theorem d_PatternWriter_writeAffix_46 : decode b_PatternWriter_writeAffix 46 = .ok (.bipush 39, 2) := by decide +kernel
theorem d_PatternWriter_writeAffix_48 : decode b_PatternWriter_writeAffix 48 = .ok (.invokevirtual 51, 3) := by decide +kernel
theorem d_PatternWriter_writeAffix_51 : decode b_PatternWriter_writeAffix 51 = .ok (.pop, 1) := by decide +kernel
theorem d_PatternWriter_writeAffix_52 : decode b_PatternWriter_writeAffix 52 = .ok (.iload_n 3, 1) := by decide +kernel
theorem d_PatternWriter_writeAffix_53 : decode b_PatternWriter_writeAffix 53 = .ok (.ifCond .ne 7, 3) := by decide +kernel
theorem d_PatternWriter_writeAffix_56 : decode b_PatternWriter_writeAffix 56 = .ok (.iconst 1, 1) := by decide +kernel
theorem d_PatternWriter_writeAffix_57 : decode b_PatternWriter_writeAffix 57 = .ok (.goto 4, 3) := by decide +kernel
theorem d_PatternWriter_writeAffix_60 : decode b_PatternWriter_writeAffix 60 = .ok (.iconst 0, 1) := by decide +kernel
theorem d_PatternWriter_writeAffix_61 : decode b_PatternWriter_writeAffix 61 = .ok (.istore_n 3, 1) := by decide +kernel
theorem d_PatternWriter_writeAffix_62 : decode b_PatternWriter_writeAffix 62 = .ok (.iload 5, 2) := by decide +kernel
theorem d_PatternWriter_writeAffix_64 : decode b_PatternWriter_writeAffix 64 = .ok (.bipush 39, 2) := by decide +kernel
theorem d_PatternWriter_writeAffix_66 : decode b_PatternWriter_writeAffix 66 = .ok (.if_icmp .ne 10, 3) := by decide +kernel
theorem d_PatternWriter_writeAffix_69 : decode b_PatternWriter_writeAffix 69 = .ok (.aload_n 2, 1) := by decide +kernel
theorem d_PatternWriter_writeAffix_70 : decode b_PatternWriter_writeAffix 70 = .ok (.bipush 39, 2) := by decide +kernel
theorem d_PatternWriter_writeAffix_72 : decode b_PatternWriter_writeAffix 72 = .ok (.invokevirtual 51, 3) := by decide +kernel
theorem d_PatternWriter_writeAffix_75 : decode b_PatternWriter_writeAffix 75 = .ok (.pop, 1) := by decide +kernel
theorem d_PatternWriter_writeAffix_76 : decode b_PatternWriter_writeAffix 76 = .ok (.aload_n 2, 1) := by decide +kernel
theorem d_PatternWriter_writeAffix_77 : decode b_PatternWriter_writeAffix 77 = .ok (.aload_n 1, 1) := by decide +kernel
theorem d_PatternWriter_writeAffix_78 : decode b_PatternWriter_writeAffix 78 = .ok (.iload 4, 2) := by decide +kernel
theorem d_PatternWriter_writeAffix_80 : decode b_PatternWriter_writeAffix 80 = .ok (.invokevirtual 72, 3) := by decide +kernel
theorem d_PatternWriter_writeAffix_83 : decode b_PatternWriter_writeAffix 83 = .ok (.i2c, 1) := by decide +kernel
theorem d_PatternWriter_writeAffix_84 : decode b_PatternWriter_writeAffix 84 = .ok (.invokevirtual 51, 3) := by decide +kernel
theorem d_PatternWriter_writeAffix_87 : decode b_PatternWriter_writeAffix 87 = .ok (.pop, 1) := by decide +kernel
theorem d_PatternWriter_writeAffix_88 : decode b_PatternWriter_writeAffix 88 = .ok (.iinc 4 1, 3) := by decide +kernel
theorem d_PatternWriter_writeAffix_91 : decode b_PatternWriter_writeAffix 91 = .ok (.goto (-86), 3) := by decide +kernel
theorem d_PatternWriter_writeAffix_94 : decode b_PatternWriter_writeAffix 94 = .ok (.iload_n 3, 1) := by decide +kernel
theorem d_PatternWriter_writeAffix_95 : decode b_PatternWriter_writeAffix 95 = .ok (.ifCond .eq 10, 3) := by decide +kernel
theorem d_PatternWriter_writeAffix_98 : decode b_PatternWriter_writeAffix 98 = .ok (.aload_n 2, 1) := by decide +kernel
theorem d_PatternWriter_writeAffix_99 : decode b_PatternWriter_writeAffix 99 = .ok (.bipush 39, 2) := by decide +kernel
theorem d_PatternWriter_writeAffix_101 : decode b_PatternWriter_writeAffix 101 = .ok (.invokevirtual 51, 3) := by decide +kernel
theorem d_PatternWriter_writeAffix_104 : decode b_PatternWriter_writeAffix 104 = .ok (.pop, 1) := by decide +kernel
theorem d_PatternWriter_writeAffix_105 : decode b_PatternWriter_writeAffix 105 = .ok (.return_, 1) := by decide +kernel
theorem d_PatternWriter_needsQuotes_0 : decode b_PatternWriter_needsQuotes 0 = .ok (.iload_n 0, 1) := by decide +kernel
theorem d_PatternWriter_needsQuotes_1 : decode b_PatternWriter_needsQuotes 1 = .ok (.bipush 37, 2) := by decide +kernel
theorem d_PatternWriter_needsQuotes_3 : decode b_PatternWriter_needsQuotes 3 = .ok (.if_icmp .eq 10, 3) := by decide +kernel
theorem d_PatternWriter_needsQuotes_6 : decode b_PatternWriter_needsQuotes 6 = .ok (.iload_n 0, 1) := by decide +kernel
theorem d_PatternWriter_needsQuotes_7 : decode b_PatternWriter_needsQuotes 7 = .ok (.invokestatic 75, 3) := by decide +kernel
theorem d_PatternWriter_needsQuotes_10 : decode b_PatternWriter_needsQuotes 10 = .ok (.ifCond .eq 7, 3) := by decide +kernel
theorem d_PatternWriter_needsQuotes_13 : decode b_PatternWriter_needsQuotes 13 = .ok (.iconst 1, 1) := by decide +kernel
theorem d_PatternWriter_needsQuotes_14 : decode b_PatternWriter_needsQuotes 14 = .ok (.goto 4, 3) := by decide +kernel
theorem d_PatternWriter_needsQuotes_17 : decode b_PatternWriter_needsQuotes 17 = .ok (.iconst 0, 1) := by decide +kernel
theorem d_PatternWriter_needsQuotes_18 : decode b_PatternWriter_needsQuotes 18 = .ok (.ireturn, 1) := by decide +kernel
theorem d_PatternWriter_writeShape_0 : decode b_PatternWriter_writeShape 0 = .ok (.aload_n 0, 1) := by decide +kernel
theorem d_PatternWriter_writeShape_1 : decode b_PatternWriter_writeShape 1 = .ok (.aload_n 1, 1) := by decide +kernel
theorem d_PatternWriter_writeShape_2 : decode b_PatternWriter_writeShape 2 = .ok (.aload_n 2, 1) := by decide +kernel
theorem d_PatternWriter_writeShape_3 : decode b_PatternWriter_writeShape 3 = .ok (.invokevirtual 78, 3) := by decide +kernel
theorem d_PatternWriter_writeShape_6 : decode b_PatternWriter_writeShape 6 = .ok (.aload_n 1, 1) := by decide +kernel
theorem d_PatternWriter_writeShape_7 : decode b_PatternWriter_writeShape 7 = .ok (.getfield 81, 3) := by decide +kernel
theorem d_PatternWriter_writeShape_10 : decode b_PatternWriter_writeShape 10 = .ok (.ifCond .le 35, 3) := by decide +kernel
theorem d_PatternWriter_writeShape_13 : decode b_PatternWriter_writeShape 13 = .ok (.aload_n 2, 1) := by decide +kernel
theorem d_PatternWriter_writeShape_14 : decode b_PatternWriter_writeShape 14 = .ok (.bipush 46, 2) := by decide +kernel
theorem d_PatternWriter_writeShape_16 : decode b_PatternWriter_writeShape 16 = .ok (.invokevirtual 51, 3) := by decide +kernel
theorem d_PatternWriter_writeShape_19 : decode b_PatternWriter_writeShape 19 = .ok (.pop, 1) := by decide +kernel
theorem d_PatternWriter_writeShape_20 : decode b_PatternWriter_writeShape 20 = .ok (.bipush 48, 2) := by decide +kernel
theorem d_PatternWriter_writeShape_22 : decode b_PatternWriter_writeShape 22 = .ok (.aload_n 1, 1) := by decide +kernel
theorem d_PatternWriter_writeShape_23 : decode b_PatternWriter_writeShape 23 = .ok (.getfield 87, 3) := by decide +kernel
theorem d_PatternWriter_writeShape_26 : decode b_PatternWriter_writeShape 26 = .ok (.aload_n 2, 1) := by decide +kernel
theorem d_PatternWriter_writeShape_27 : decode b_PatternWriter_writeShape 27 = .ok (.invokestatic 90, 3) := by decide +kernel
theorem d_PatternWriter_writeShape_30 : decode b_PatternWriter_writeShape 30 = .ok (.bipush 35, 2) := by decide +kernel
theorem d_PatternWriter_writeShape_32 : decode b_PatternWriter_writeShape 32 = .ok (.aload_n 1, 1) := by decide +kernel
theorem d_PatternWriter_writeShape_33 : decode b_PatternWriter_writeShape 33 = .ok (.getfield 81, 3) := by decide +kernel
theorem d_PatternWriter_writeShape_36 : decode b_PatternWriter_writeShape 36 = .ok (.aload_n 1, 1) := by decide +kernel
theorem d_PatternWriter_writeShape_37 : decode b_PatternWriter_writeShape 37 = .ok (.getfield 87, 3) := by decide +kernel
theorem d_PatternWriter_writeShape_40 : decode b_PatternWriter_writeShape 40 = .ok (.isub, 1) := by decide +kernel
theorem d_PatternWriter_writeShape_41 : decode b_PatternWriter_writeShape 41 = .ok (.aload_n 2, 1) := by decide +kernel
theorem d_PatternWriter_writeShape_42 : decode b_PatternWriter_writeShape 42 = .ok (.invokestatic 90, 3) := by decide +kernel
theorem d_PatternWriter_writeShape_45 : decode b_PatternWriter_writeShape 45 = .ok (.aload_n 1, 1) := by decide +kernel
theorem d_PatternWriter_writeShape_46 : decode b_PatternWriter_writeShape 46 = .ok (.getfield 94, 3) := by decide +kernel
theorem d_PatternWriter_writeShape_49 : decode b_PatternWriter_writeShape 49 = .ok (.ifCond .le 20, 3) := by decide +kernel
theorem d_PatternWriter_writeShape_52 : decode b_PatternWriter_writeShape 52 = .ok (.aload_n 2, 1) := by decide +kernel
theorem d_PatternWriter_writeShape_53 : decode b_PatternWriter_writeShape 53 = .ok (.bipush 69, 2) := by decide +kernel
theorem d_PatternWriter_writeShape_55 : decode b_PatternWriter_writeShape 55 = .ok (.invokevirtual 51, 3) := by decide +kernel
theorem d_PatternWriter_writeShape_58 : decode b_PatternWriter_writeShape 58 = .ok (.pop, 1) := by decide +kernel
theorem d_PatternWriter_writeShape_59 : decode b_PatternWriter_writeShape 59 = .ok (.bipush 48, 2) := by decide +kernel
theorem d_PatternWriter_writeShape_61 : decode b_PatternWriter_writeShape 61 = .ok (.aload_n 1, 1) := by decide +kernel
theorem d_PatternWriter_writeShape_62 : decode b_PatternWriter_writeShape 62 = .ok (.getfield 94, 3) := by decide +kernel
theorem d_PatternWriter_writeShape_65 : decode b_PatternWriter_writeShape 65 = .ok (.aload_n 2, 1) := by decide +kernel
theorem d_PatternWriter_writeShape_66 : decode b_PatternWriter_writeShape 66 = .ok (.invokestatic 90, 3) := by decide +kernel
theorem d_PatternWriter_writeShape_69 : decode b_PatternWriter_writeShape 69 = .ok (.return_, 1) := by decide +kernel
theorem d_PatternWriter_writeInteger_0 : decode b_PatternWriter_writeInteger 0 = .ok (.iconst 0, 1) := by decide +kernel
theorem d_PatternWriter_writeInteger_1 : decode b_PatternWriter_writeInteger 1 = .ok (.aload_n 1, 1) := by decide +kernel
theorem d_PatternWriter_writeInteger_2 : decode b_PatternWriter_writeInteger 2 = .ok (.getfield 97, 3) := by decide +kernel
theorem d_PatternWriter_writeInteger_5 : decode b_PatternWriter_writeInteger 5 = .ok (.iconst 1, 1) := by decide +kernel
theorem d_PatternWriter_writeInteger_6 : decode b_PatternWriter_writeInteger 6 = .ok (.iadd, 1) := by decide +kernel
theorem d_PatternWriter_writeInteger_7 : decode b_PatternWriter_writeInteger 7 = .ok (.aload_n 1, 1) := by decide +kernel
theorem d_PatternWriter_writeInteger_8 : decode b_PatternWriter_writeInteger 8 = .ok (.getfield 100, 3) := by decide +kernel
theorem d_PatternWriter_writeInteger_11 : decode b_PatternWriter_writeInteger 11 = .ok (.isub, 1) := by decide +kernel
theorem d_PatternWriter_writeInteger_12 : decode b_PatternWriter_writeInteger 12 = .ok (.invokestatic 103, 3) := by decide +kernel
theorem d_PatternWriter_writeInteger_15 : decode b_PatternWriter_writeInteger 15 = .ok (.istore_n 3, 1) := by decide +kernel
theorem d_PatternWriter_writeInteger_16 : decode b_PatternWriter_writeInteger 16 = .ok (.iload_n 3, 1) := by decide +kernel
theorem d_PatternWriter_writeInteger_17 : decode b_PatternWriter_writeInteger 17 = .ok (.aload_n 1, 1) := by decide +kernel
theorem d_PatternWriter_writeInteger_18 : decode b_PatternWriter_writeInteger 18 = .ok (.getfield 100, 3) := by decide +kernel
theorem d_PatternWriter_writeInteger_21 : decode b_PatternWriter_writeInteger 21 = .ok (.iadd, 1) := by decide +kernel
theorem d_PatternWriter_writeInteger_22 : decode b_PatternWriter_writeInteger 22 = .ok (.istore 4, 2) := by decide +kernel
theorem d_PatternWriter_writeInteger_24 : decode b_PatternWriter_writeInteger 24 = .ok (.iconst 0, 1) := by decide +kernel
theorem d_PatternWriter_writeInteger_25 : decode b_PatternWriter_writeInteger 25 = .ok (.istore 5, 2) := by decide +kernel
theorem d_PatternWriter_writeInteger_27 : decode b_PatternWriter_writeInteger 27 = .ok (.iload 5, 2) := by decide +kernel
theorem d_PatternWriter_writeInteger_29 : decode b_PatternWriter_writeInteger 29 = .ok (.iload 4, 2) := by decide +kernel
theorem d_PatternWriter_writeInteger_31 : decode b_PatternWriter_writeInteger 31 = .ok (.if_icmp .ge 53, 3) := by decide +kernel
theorem d_PatternWriter_writeInteger_34 : decode b_PatternWriter_writeInteger 34 = .ok (.aload_n 1, 1) := by decide +kernel
theorem d_PatternWriter_writeInteger_35 : decode b_PatternWriter_writeInteger 35 = .ok (.getfield 97, 3) := by decide +kernel
theorem d_PatternWriter_writeInteger_38 : decode b_PatternWriter_writeInteger 38 = .ok (.ifCond .le 22, 3) := by decide +kernel
theorem d_PatternWriter_writeInteger_41 : decode b_PatternWriter_writeInteger 41 = .ok (.iload 4, 2) := by decide +kernel
theorem d_PatternWriter_writeInteger_43 : decode b_PatternWriter_writeInteger 43 = .ok (.iload 5, 2) := by decide +kernel
theorem d_PatternWriter_writeInteger_45 : decode b_PatternWriter_writeInteger 45 = .ok (.isub, 1) := by decide +kernel
theorem d_PatternWriter_writeInteger_46 : decode b_PatternWriter_writeInteger 46 = .ok (.aload_n 1, 1) := by decide +kernel
theorem d_PatternWriter_writeInteger_47 : decode b_PatternWriter_writeInteger 47 = .ok (.getfield 97, 3) := by decide +kernel
theorem d_PatternWriter_writeInteger_50 : decode b_PatternWriter_writeInteger 50 = .ok (.if_icmp .ne 10, 3) := by decide +kernel
theorem d_PatternWriter_writeInteger_53 : decode b_PatternWriter_writeInteger 53 = .ok (.aload_n 2, 1) := by decide +kernel
theorem d_PatternWriter_writeInteger_54 : decode b_PatternWriter_writeInteger 54 = .ok (.bipush 44, 2) := by decide +kernel
theorem d_PatternWriter_writeInteger_56 : decode b_PatternWriter_writeInteger 56 = .ok (.invokevirtual 51, 3) := by decide +kernel
theorem d_PatternWriter_writeInteger_59 : decode b_PatternWriter_writeInteger 59 = .ok (.pop, 1) := by decide +kernel
theorem d_PatternWriter_writeInteger_60 : decode b_PatternWriter_writeInteger 60 = .ok (.aload_n 2, 1) := by decide +kernel
theorem d_PatternWriter_writeInteger_61 : decode b_PatternWriter_writeInteger 61 = .ok (.iload 5, 2) := by decide +kernel
theorem d_PatternWriter_writeInteger_63 : decode b_PatternWriter_writeInteger 63 = .ok (.iload_n 3, 1) := by decide +kernel
theorem d_PatternWriter_writeInteger_64 : decode b_PatternWriter_writeInteger 64 = .ok (.if_icmp .ge 8, 3) := by decide +kernel
theorem d_PatternWriter_writeInteger_67 : decode b_PatternWriter_writeInteger 67 = .ok (.bipush 35, 2) := by decide +kernel
theorem d_PatternWriter_writeInteger_69 : decode b_PatternWriter_writeInteger 69 = .ok (.goto 5, 3) := by decide +kernel
theorem d_PatternWriter_writeInteger_72 : decode b_PatternWriter_writeInteger 72 = .ok (.bipush 48, 2) := by decide +kernel
theorem d_PatternWriter_writeInteger_74 : decode b_PatternWriter_writeInteger 74 = .ok (.invokevirtual 51, 3) := by decide +kernel
theorem d_PatternWriter_writeInteger_77 : decode b_PatternWriter_writeInteger 77 = .ok (.pop, 1) := by decide +kernel
theorem d_PatternWriter_writeInteger_78 : decode b_PatternWriter_writeInteger 78 = .ok (.iinc 5 1, 3) := by decide +kernel
theorem d_PatternWriter_writeInteger_81 : decode b_PatternWriter_writeInteger 81 = .ok (.goto (-54), 3) := by decide +kernel
theorem d_PatternWriter_writeInteger_84 : decode b_PatternWriter_writeInteger 84 = .ok (.return_, 1) := by decide +kernel
theorem d_PatternWriter_writeMany_0 : decode b_PatternWriter_writeMany 0 = .ok (.iconst 0, 1) := by decide +kernel
theorem d_PatternWriter_writeMany_1 : decode b_PatternWriter_writeMany 1 = .ok (.istore_n 3, 1) := by decide +kernel
theorem d_PatternWriter_writeMany_2 : decode b_PatternWriter_writeMany 2 = .ok (.iload_n 3, 1) := by decide +kernel
theorem d_PatternWriter_writeMany_3 : decode b_PatternWriter_writeMany 3 = .ok (.iload_n 1, 1) := by decide +kernel
theorem d_PatternWriter_writeMany_4 : decode b_PatternWriter_writeMany 4 = .ok (.if_icmp .ge 15, 3) := by decide +kernel
theorem d_PatternWriter_writeMany_7 : decode b_PatternWriter_writeMany 7 = .ok (.aload_n 2, 1) := by decide +kernel
theorem d_PatternWriter_writeMany_8 : decode b_PatternWriter_writeMany 8 = .ok (.iload_n 0, 1) := by decide +kernel
theorem d_PatternWriter_writeMany_9 : decode b_PatternWriter_writeMany 9 = .ok (.invokevirtual 51, 3) := by decide +kernel
theorem d_PatternWriter_writeMany_12 : decode b_PatternWriter_writeMany 12 = .ok (.pop, 1) := by decide +kernel
theorem d_PatternWriter_writeMany_13 : decode b_PatternWriter_writeMany 13 = .ok (.iinc 3 1, 3) := by decide +kernel
theorem d_PatternWriter_writeMany_16 : decode b_PatternWriter_writeMany 16 = .ok (.goto (-14), 3) := by decide +kernel
theorem d_PatternWriter_writeMany_19 : decode b_PatternWriter_writeMany 19 = .ok (.return_, 1) := by decide +kernel
theorem d_Decimal_init_0 : decode b_Decimal_init 0 = .ok (.aload_n 0, 1) := by decide +kernel
theorem d_Decimal_init_1 : decode b_Decimal_init 1 = .ok (.invokespecial 3, 3) := by decide +kernel
theorem d_Decimal_init_4 : decode b_Decimal_init 4 = .ok (.aload_n 0, 1) := by decide +kernel
theorem d_Decimal_init_5 : decode b_Decimal_init 5 = .ok (.lconst 0, 1) := by decide +kernel
theorem d_Decimal_init_6 : decode b_Decimal_init 6 = .ok (.iconst 0, 1) := by decide +kernel
theorem d_Decimal_init_7 : decode b_Decimal_init 7 = .ok (.invokevirtual 9, 3) := by decide +kernel
theorem d_Decimal_init_10 : decode b_Decimal_init 10 = .ok (.return_, 1) := by decide +kernel
theorem d_Decimal_set_0 : decode b_Decimal_set 0 = .ok (.aload_n 0, 1) := by decide +kernel
theorem d_Decimal_set_1 : decode b_Decimal_set 1 = .ok (.lload_n 1, 1) := by decide +kernel
theorem d_Decimal_set_2 : decode b_Decimal_set 2 = .ok (.lconst 0, 1) := by decide +kernel
theorem d_Decimal_set_3 : decode b_Decimal_set 3 = .ok (.lcmp, 1) := by decide +kernel
theorem d_Decimal_set_4 : decode b_Decimal_set 4 = .ok (.ifCond .ge 7, 3) := by decide +kernel
theorem d_Decimal_set_7 : decode b_Decimal_set 7 = .ok (.iconst 1, 1) := by decide +kernel
theorem d_Decimal_set_8 : decode b_Decimal_set 8 = .ok (.goto 4, 3) := by decide +kernel
theorem d_Decimal_set_11 : decode b_Decimal_set 11 = .ok (.iconst 0, 1) := by decide +kernel
theorem d_Decimal_set_12 : decode b_Decimal_set 12 = .ok (.putfield 15, 3) := by decide +kernel
theorem d_Decimal_set_15 : decode b_Decimal_set 15 = .ok (.aload_n 0, 1) := by decide +kernel
theorem d_Decimal_set_16 : decode b_Decimal_set 16 = .ok (.lload_n 1, 1) := by decide +kernel
theorem d_Decimal_set_17 : decode b_Decimal_set 17 = .ok (.invokestatic 19, 3) := by decide +kernel
theorem d_Decimal_set_20 : decode b_Decimal_set 20 = .ok (.putfield 25, 3) := by decide +kernel
theorem d_Decimal_set_23 : decode b_Decimal_set 23 = .ok (.aload_n 0, 1) := by decide +kernel
theorem d_Decimal_set_24 : decode b_Decimal_set 24 = .ok (.iload_n 3, 1) := by decide +kernel
theorem d_Decimal_set_25 : decode b_Decimal_set 25 = .ok (.putfield 29, 3) := by decide +kernel
theorem d_Decimal_set_28 : decode b_Decimal_set 28 = .ok (.return_, 1) := by decide +kernel
theorem d_Decimal_isBelowZero_0 : decode b_Decimal_isBelowZero 0 = .ok (.aload_n 0, 1) := by decide +kernel
theorem d_Decimal_isBelowZero_1 : decode b_Decimal_isBelowZero 1 = .ok (.getfield 15, 3) := by decide +kernel
theorem d_Decimal_isBelowZero_4 : decode b_Decimal_isBelowZero 4 = .ok (.ifCond .eq 16, 3) := by decide +kernel
theorem d_Decimal_isBelowZero_7 : decode b_Decimal_isBelowZero 7 = .ok (.aload_n 0, 1) := by decide +kernel
theorem d_Decimal_isBelowZero_8 : decode b_Decimal_isBelowZero 8 = .ok (.getfield 25, 3) := by decide +kernel
theorem d_Decimal_isBelowZero_11 : decode b_Decimal_isBelowZero 11 = .ok (.lconst 0, 1) := by decide +kernel
theorem d_Decimal_isBelowZero_12 : decode b_Decimal_isBelowZero 12 = .ok (.lcmp, 1) := by decide +kernel
theorem d_Decimal_isBelowZero_13 : decode b_Decimal_isBelowZero 13 = .ok (.ifCond .eq 7, 3) := by decide +kernel
theorem d_Decimal_isBelowZero_16 : decode b_Decimal_isBelowZero 16 = .ok (.iconst 1, 1) := by decide +kernel
theorem d_Decimal_isBelowZero_17 : decode b_Decimal_isBelowZero 17 = .ok (.goto 4, 3) := by decide +kernel
theorem d_Decimal_isBelowZero_20 : decode b_Decimal_isBelowZero 20 = .ok (.iconst 0, 1) := by decide +kernel
theorem d_Decimal_isBelowZero_21 : decode b_Decimal_isBelowZero 21 = .ok (.ireturn, 1) := by decide +kernel
theorem d_Decimal_whole_0 : decode b_Decimal_whole 0 = .ok (.aload_n 0, 1) := by decide +kernel
theorem d_Decimal_whole_1 : decode b_Decimal_whole 1 = .ok (.getfield 25, 3) := by decide +kernel
theorem d_Decimal_whole_4 : decode b_Decimal_whole 4 = .ok (.aload_n 0, 1) := by decide +kernel
theorem d_Decimal_whole_5 : decode b_Decimal_whole 5 = .ok (.getfield 29, 3) := by decide +kernel
theorem d_Decimal_whole_8 : decode b_Decimal_whole 8 = .ok (.invokestatic 33, 3) := by decide +kernel
theorem d_Decimal_whole_11 : decode b_Decimal_whole 11 = .ok (.ldiv, 1) := by decide +kernel
theorem d_Decimal_whole_12 : decode b_Decimal_whole 12 = .ok (.lreturn, 1) := by decide +kernel
theorem d_Decimal_roundTo_0 : decode b_Decimal_roundTo 0 = .ok (.aload_n 0, 1) := by decide +kernel
theorem d_Decimal_roundTo_1 : decode b_Decimal_roundTo 1 = .ok (.getfield 29, 3) := by decide +kernel
theorem d_Decimal_roundTo_4 : decode b_Decimal_roundTo 4 = .ok (.iload_n 1, 1) := by decide +kernel
theorem d_Decimal_roundTo_5 : decode b_Decimal_roundTo 5 = .ok (.if_icmp .gt 5, 3) := by decide +kernel
theorem d_Decimal_roundTo_8 : decode b_Decimal_roundTo 8 = .ok (.iconst 1, 1) := by decide +kernel
theorem d_Decimal_roundTo_9 : decode b_Decimal_roundTo 9 = .ok (.ireturn, 1) := by decide +kernel
theorem d_Decimal_roundTo_10 : decode b_Decimal_roundTo 10 = .ok (.aload_n 0, 1) := by decide +kernel
theorem d_Decimal_roundTo_11 : decode b_Decimal_roundTo 11 = .ok (.getfield 29, 3) := by decide +kernel
theorem d_Decimal_roundTo_14 : decode b_Decimal_roundTo 14 = .ok (.iload_n 1, 1) := by decide +kernel
theorem d_Decimal_roundTo_15 : decode b_Decimal_roundTo 15 = .ok (.isub, 1) := by decide +kernel
theorem d_Decimal_roundTo_16 : decode b_Decimal_roundTo 16 = .ok (.invokestatic 33, 3) := by decide +kernel
theorem d_Decimal_roundTo_19 : decode b_Decimal_roundTo 19 = .ok (.lstore_n 3, 1) := by decide +kernel
theorem d_Decimal_roundTo_20 : decode b_Decimal_roundTo 20 = .ok (.aload_n 0, 1) := by decide +kernel
theorem d_Decimal_roundTo_21 : decode b_Decimal_roundTo 21 = .ok (.getfield 25, 3) := by decide +kernel
theorem d_Decimal_roundTo_24 : decode b_Decimal_roundTo 24 = .ok (.lload_n 3, 1) := by decide +kernel
theorem d_Decimal_roundTo_25 : decode b_Decimal_roundTo 25 = .ok (.lrem, 1) := by decide +kernel
theorem d_Decimal_roundTo_26 : decode b_Decimal_roundTo 26 = .ok (.lstore 5, 2) := by decide +kernel
theorem d_Decimal_roundTo_28 : decode b_Decimal_roundTo 28 = .ok (.lload 5, 2) := by decide +kernel
theorem d_Decimal_roundTo_30 : decode b_Decimal_roundTo 30 = .ok (.lconst 0, 1) := by decide +kernel
theorem d_Decimal_roundTo_31 : decode b_Decimal_roundTo 31 = .ok (.lcmp, 1) := by decide +kernel
theorem d_Decimal_roundTo_32 : decode b_Decimal_roundTo 32 = .ok (.ifCond .eq 11, 3) := by decide +kernel
theorem d_Decimal_roundTo_35 : decode b_Decimal_roundTo 35 = .ok (.iload_n 2, 1) := by decide +kernel
theorem d_Decimal_roundTo_36 : decode b_Decimal_roundTo 36 = .ok (.bipush 7, 2) := by decide +kernel
theorem d_Decimal_roundTo_38 : decode b_Decimal_roundTo 38 = .ok (.if_icmp .ne 5, 3) := by decide +kernel
theorem d_Decimal_roundTo_41 : decode b_Decimal_roundTo 41 = .ok (.iconst 0, 1) := by decide +kernel
theorem d_Decimal_roundTo_42 : decode b_Decimal_roundTo 42 = .ok (.ireturn, 1) := by decide +kernel
theorem d_Decimal_roundTo_43 : decode b_Decimal_roundTo 43 = .ok (.aload_n 0, 1) := by decide +kernel
theorem d_Decimal_roundTo_44 : decode b_Decimal_roundTo 44 = .ok (.getfield 25, 3) := by decide +kernel
theorem d_Decimal_roundTo_47 : decode b_Decimal_roundTo 47 = .ok (.lload_n 3, 1) := by decide +kernel
theorem d_Decimal_roundTo_48 : decode b_Decimal_roundTo 48 = .ok (.ldiv, 1) := by decide +kernel
theorem d_Decimal_roundTo_49 : decode b_Decimal_roundTo 49 = .ok (.lstore 7, 2) := by decide +kernel
theorem d_Decimal_roundTo_51 : decode b_Decimal_roundTo 51 = .ok (.aload_n 0, 1) := by decide +kernel
theorem d_Decimal_roundTo_52 : decode b_Decimal_roundTo 52 = .ok (.lload 5, 2) := by decide +kernel
theorem d_Decimal_roundTo_54 : decode b_Decimal_roundTo 54 = .ok (.lconst 0, 1) := by decide +kernel
theorem d_Decimal_roundTo_55 : decode b_Decimal_roundTo 55 = .ok (.lcmp, 1) := by decide +kernel
theorem d_Decimal_roundTo_56 : decode b_Decimal_roundTo 56 = .ok (.ifCond .eq 23, 3) := by decide +kernel
theorem d_Decimal_roundTo_59 : decode b_Decimal_roundTo 59 = .ok (.aload_n 0, 1) := by decide +kernel
theorem d_Decimal_roundTo_60 : decode b_Decimal_roundTo 60 = .ok (.iload_n 2, 1) := by decide +kernel
theorem d_Decimal_roundTo_61 : decode b_Decimal_roundTo 61 = .ok (.lload 7, 2) := by decide +kernel
theorem d_Decimal_roundTo_63 : decode b_Decimal_roundTo 63 = .ok (.lload 5, 2) := by decide +kernel
theorem d_Decimal_roundTo_65 : decode b_Decimal_roundTo 65 = .ok (.lload_n 3, 1) := by decide +kernel
theorem d_Decimal_roundTo_66 : decode b_Decimal_roundTo 66 = .ok (.invokevirtual 37, 3) := by decide +kernel
theorem d_Decimal_roundTo_69 : decode b_Decimal_roundTo 69 = .ok (.ifCond .eq 10, 3) := by decide +kernel
theorem d_Decimal_roundTo_72 : decode b_Decimal_roundTo 72 = .ok (.lload 7, 2) := by decide +kernel
theorem d_Decimal_roundTo_74 : decode b_Decimal_roundTo 74 = .ok (.lconst 1, 1) := by decide +kernel
theorem d_Decimal_roundTo_75 : decode b_Decimal_roundTo 75 = .ok (.ladd, 1) := by decide +kernel
theorem d_Decimal_roundTo_76 : decode b_Decimal_roundTo 76 = .ok (.goto 5, 3) := by decide +kernel
theorem d_Decimal_roundTo_79 : decode b_Decimal_roundTo 79 = .ok (.lload 7, 2) := by decide +kernel
theorem d_Decimal_roundTo_81 : decode b_Decimal_roundTo 81 = .ok (.putfield 25, 3) := by decide +kernel
theorem d_Decimal_roundTo_84 : decode b_Decimal_roundTo 84 = .ok (.aload_n 0, 1) := by decide +kernel
theorem d_Decimal_roundTo_85 : decode b_Decimal_roundTo 85 = .ok (.iload_n 1, 1) := by decide +kernel
theorem d_Decimal_roundTo_86 : decode b_Decimal_roundTo 86 = .ok (.putfield 29, 3) := by decide +kernel
theorem d_Decimal_roundTo_89 : decode b_Decimal_roundTo 89 = .ok (.iconst 1, 1) := by decide +kernel
theorem d_Decimal_roundTo_90 : decode b_Decimal_roundTo 90 = .ok (.ireturn, 1) := by decide +kernel
theorem d_Decimal_goesAway_0 : decode b_Decimal_goesAway 0 = .ok (.lload 4, 2) := by decide +kernel
theorem d_Decimal_goesAway_2 : decode b_Decimal_goesAway 2 = .ok (.lload 6, 2) := by decide +kernel
theorem d_Decimal_goesAway_4 : decode b_Decimal_goesAway 4 = .ok (.lload 4, 2) := by decide +kernel
theorem d_Decimal_goesAway_6 : decode b_Decimal_goesAway 6 = .ok (.lsub, 1) := by decide +kernel
theorem d_Decimal_goesAway_7 : decode b_Decimal_goesAway 7 = .ok (.invokestatic 41, 3) := by decide +kernel
theorem d_Decimal_goesAway_10 : decode b_Decimal_goesAway 10 = .ok (.istore 8, 2) := by decide +kernel
theorem d_Decimal_goesAway_12 : decode b_Decimal_goesAway 12 = .ok (.iload_n 1, 1) := by decide +kernel
theorem d_Decimal_goesAway_13 : decode b_Decimal_goesAway 13 = .ok (.tableswitch 111 0 6 #[43, 111, 45, 58, 63, 74, 85], 43) := by decide +kernel
theorem d_Decimal_goesAway_56 : decode b_Decimal_goesAway 56 = .ok (.iconst 1, 1) := by decide +kernel
theorem d_Decimal_goesAway_57 : decode b_Decimal_goesAway 57 = .ok (.ireturn, 1) := by decide +kernel
theorem d_Decimal_goesAway_58 : decode b_Decimal_goesAway 58 = .ok (.aload_n 0, 1) := by decide +kernel
theorem d_Decimal_goesAway_59 : decode b_Decimal_goesAway 59 = .ok (.getfield 15, 3) := by decide +kernel
theorem d_Decimal_goesAway_62 : decode b_Decimal_goesAway 62 = .ok (.ifCond .ne 7, 3) := by decide +kernel
theorem d_Decimal_goesAway_65 : decode b_Decimal_goesAway 65 = .ok (.iconst 1, 1) := by decide +kernel
theorem d_Decimal_goesAway_66 : decode b_Decimal_goesAway 66 = .ok (.goto 4, 3) := by decide +kernel
theorem d_Decimal_goesAway_69 : decode b_Decimal_goesAway 69 = .ok (.iconst 0, 1) := by decide +kernel
theorem d_Decimal_goesAway_70 : decode b_Decimal_goesAway 70 = .ok (.ireturn, 1) := by decide +kernel
theorem d_Decimal_goesAway_71 : decode b_Decimal_goesAway 71 = .ok (.aload_n 0, 1) := by decide +kernel
theorem d_Decimal_goesAway_72 : decode b_Decimal_goesAway 72 = .ok (.getfield 15, 3) := by decide +kernel
theorem d_Decimal_goesAway_75 : decode b_Decimal_goesAway 75 = .ok (.ireturn, 1) := by decide +kernel
theorem d_Decimal_goesAway_76 : decode b_Decimal_goesAway 76 = .ok (.iload 8, 2) := by decide +kernel
theorem d_Decimal_goesAway_78 : decode b_Decimal_goesAway 78 = .ok (.ifCond .lt 7, 3) := by decide +kernel
theorem d_Decimal_goesAway_81 : decode b_Decimal_goesAway 81 = .ok (.iconst 1, 1) := by decide +kernel
theorem d_Decimal_goesAway_82 : decode b_Decimal_goesAway 82 = .ok (.goto 4, 3) := by decide +kernel
theorem d_Decimal_goesAway_85 : decode b_Decimal_goesAway 85 = .ok (.iconst 0, 1) := by decide +kernel
theorem d_Decimal_goesAway_86 : decode b_Decimal_goesAway 86 = .ok (.ireturn, 1) := by decide +kernel
theorem d_Decimal_goesAway_87 : decode b_Decimal_goesAway 87 = .ok (.iload 8, 2) := by decide +kernel
theorem d_Decimal_goesAway_89 : decode b_Decimal_goesAway 89 = .ok (.ifCond .le 7, 3) := by decide +kernel
theorem d_Decimal_goesAway_92 : decode b_Decimal_goesAway 92 = .ok (.iconst 1, 1) := by decide +kernel
theorem d_Decimal_goesAway_93 : decode b_Decimal_goesAway 93 = .ok (.goto 4, 3) := by decide +kernel
theorem d_Decimal_goesAway_96 : decode b_Decimal_goesAway 96 = .ok (.iconst 0, 1) := by decide +kernel
theorem d_Decimal_goesAway_97 : decode b_Decimal_goesAway 97 = .ok (.ireturn, 1) := by decide +kernel
theorem d_Decimal_goesAway_98 : decode b_Decimal_goesAway 98 = .ok (.iload 8, 2) := by decide +kernel
theorem d_Decimal_goesAway_100 : decode b_Decimal_goesAway 100 = .ok (.ifCond .gt 18, 3) := by decide +kernel
theorem d_Decimal_goesAway_103 : decode b_Decimal_goesAway 103 = .ok (.iload 8, 2) := by decide +kernel
theorem d_Decimal_goesAway_105 : decode b_Decimal_goesAway 105 = .ok (.ifCond .ne 17, 3) := by decide +kernel
theorem d_Decimal_goesAway_108 : decode b_Decimal_goesAway 108 = .ok (.lload_n 2, 1) := by decide +kernel
theorem d_Decimal_goesAway_109 : decode b_Decimal_goesAway 109 = .ok (.ldc2_w 47, 3) := by decide +kernel
theorem d_Decimal_goesAway_112 : decode b_Decimal_goesAway 112 = .ok (.lrem, 1) := by decide +kernel
theorem d_Decimal_goesAway_113 : decode b_Decimal_goesAway 113 = .ok (.lconst 0, 1) := by decide +kernel
theorem d_Decimal_goesAway_114 : decode b_Decimal_goesAway 114 = .ok (.lcmp, 1) := by decide +kernel
theorem d_Decimal_goesAway_115 : decode b_Decimal_goesAway 115 = .ok (.ifCond .eq 7, 3) := by decide +kernel
theorem d_Decimal_goesAway_118 : decode b_Decimal_goesAway 118 = .ok (.iconst 1, 1) := by decide +kernel
theorem d_Decimal_goesAway_119 : decode b_Decimal_goesAway 119 = .ok (.goto 4, 3) := by decide +kernel
theorem d_Decimal_goesAway_122 : decode b_Decimal_goesAway 122 = .ok (.iconst 0, 1) := by decide +kernel
theorem d_Decimal_goesAway_123 : decode b_Decimal_goesAway 123 = .ok (.ireturn, 1) := by decide +kernel
theorem d_Decimal_goesAway_124 : decode b_Decimal_goesAway 124 = .ok (.iconst 0, 1) := by decide +kernel
theorem d_Decimal_goesAway_125 : decode b_Decimal_goesAway 125 = .ok (.ireturn, 1) := by decide +kernel
theorem d_Decimal_fractionCount_0 : decode b_Decimal_fractionCount 0 = .ok (.aload_n 0, 1) := by decide +kernel
theorem d_Decimal_fractionCount_1 : decode b_Decimal_fractionCount 1 = .ok (.getfield 29, 3) := by decide +kernel
theorem d_Decimal_fractionCount_4 : decode b_Decimal_fractionCount 4 = .ok (.istore_n 1, 1) := by decide +kernel
theorem d_Decimal_fractionCount_5 : decode b_Decimal_fractionCount 5 = .ok (.aload_n 0, 1) := by decide +kernel
theorem d_Decimal_fractionCount_6 : decode b_Decimal_fractionCount 6 = .ok (.getfield 25, 3) := by decide +kernel
theorem d_Decimal_fractionCount_9 : decode b_Decimal_fractionCount 9 = .ok (.aload_n 0, 1) := by decide +kernel
theorem d_Decimal_fractionCount_10 : decode b_Decimal_fractionCount 10 = .ok (.getfield 29, 3) := by decide +kernel
theorem d_Decimal_fractionCount_13 : decode b_Decimal_fractionCount 13 = .ok (.invokestatic 33, 3) := by decide +kernel
theorem d_Decimal_fractionCount_16 : decode b_Decimal_fractionCount 16 = .ok (.lrem, 1) := by decide +kernel
theorem d_Decimal_fractionCount_17 : decode b_Decimal_fractionCount 17 = .ok (.lstore_n 2, 1) := by decide +kernel
theorem d_Decimal_fractionCount_18 : decode b_Decimal_fractionCount 18 = .ok (.iload_n 1, 1) := by decide +kernel
theorem d_Decimal_fractionCount_19 : decode b_Decimal_fractionCount 19 = .ok (.ifCond .le 25, 3) := by decide +kernel
theorem d_Decimal_fractionCount_22 : decode b_Decimal_fractionCount 22 = .ok (.lload_n 2, 1) := by decide +kernel
theorem d_Decimal_fractionCount_23 : decode b_Decimal_fractionCount 23 = .ok (.ldc2_w 49, 3) := by decide +kernel
theorem d_Decimal_fractionCount_26 : decode b_Decimal_fractionCount 26 = .ok (.lrem, 1) := by decide +kernel
theorem d_Decimal_fractionCount_27 : decode b_Decimal_fractionCount 27 = .ok (.lconst 0, 1) := by decide +kernel
theorem d_Decimal_fractionCount_28 : decode b_Decimal_fractionCount 28 = .ok (.lcmp, 1) := by decide +kernel
theorem d_Decimal_fractionCount_29 : decode b_Decimal_fractionCount 29 = .ok (.ifCond .ne 15, 3) := by decide +kernel
theorem d_Decimal_fractionCount_32 : decode b_Decimal_fractionCount 32 = .ok (.lload_n 2, 1) := by decide +kernel
theorem d_Decimal_fractionCount_33 : decode b_Decimal_fractionCount 33 = .ok (.ldc2_w 49, 3) := by decide +kernel
theorem d_Decimal_fractionCount_36 : decode b_Decimal_fractionCount 36 = .ok (.ldiv, 1) := by decide +kernel
theorem d_Decimal_fractionCount_37 : decode b_Decimal_fractionCount 37 = .ok (.lstore_n 2, 1) := by decide +kernel
theorem d_Decimal_fractionCount_38 : decode b_Decimal_fractionCount 38 = .ok (.iinc 1 (-1), 3) := by decide +kernel
theorem d_Decimal_fractionCount_41 : decode b_Decimal_fractionCount 41 = .ok (.goto (-23), 3) := by decide +kernel
theorem d_Decimal_fractionCount_44 : decode b_Decimal_fractionCount 44 = .ok (.iload_n 1, 1) := by decide +kernel
theorem d_Decimal_fractionCount_45 : decode b_Decimal_fractionCount 45 = .ok (.ireturn, 1) := by decide +kernel
theorem d_Decimal_fractionDigit_0 : decode b_Decimal_fractionDigit 0 = .ok (.iload_n 1, 1) := by decide +kernel
theorem d_Decimal_fractionDigit_1 : decode b_Decimal_fractionDigit 1 = .ok (.aload_n 0, 1) := by decide +kernel
theorem d_Decimal_fractionDigit_2 : decode b_Decimal_fractionDigit 2 = .ok (.getfield 29, 3) := by decide +kernel
theorem d_Decimal_fractionDigit_5 : decode b_Decimal_fractionDigit 5 = .ok (.if_icmp .ge 27, 3) := by decide +kernel
theorem d_Decimal_fractionDigit_8 : decode b_Decimal_fractionDigit 8 = .ok (.aload_n 0, 1) := by decide +kernel
theorem d_Decimal_fractionDigit_9 : decode b_Decimal_fractionDigit 9 = .ok (.getfield 25, 3) := by decide +kernel
theorem d_Decimal_fractionDigit_12 : decode b_Decimal_fractionDigit 12 = .ok (.aload_n 0, 1) := by decide +kernel
theorem d_Decimal_fractionDigit_13 : decode b_Decimal_fractionDigit 13 = .ok (.getfield 29, 3) := by decide +kernel
theorem d_Decimal_fractionDigit_16 : decode b_Decimal_fractionDigit 16 = .ok (.iconst 1, 1) := by decide +kernel
theorem d_Decimal_fractionDigit_17 : decode b_Decimal_fractionDigit 17 = .ok (.isub, 1) := by decide +kernel
theorem d_Decimal_fractionDigit_18 : decode b_Decimal_fractionDigit 18 = .ok (.iload_n 1, 1) := by decide +kernel
theorem d_Decimal_fractionDigit_19 : decode b_Decimal_fractionDigit 19 = .ok (.isub, 1) := by decide +kernel
theorem d_Decimal_fractionDigit_20 : decode b_Decimal_fractionDigit 20 = .ok (.invokestatic 33, 3) := by decide +kernel
theorem d_Decimal_fractionDigit_23 : decode b_Decimal_fractionDigit 23 = .ok (.ldiv, 1) := by decide +kernel
theorem d_Decimal_fractionDigit_24 : decode b_Decimal_fractionDigit 24 = .ok (.ldc2_w 49, 3) := by decide +kernel
theorem d_Decimal_fractionDigit_27 : decode b_Decimal_fractionDigit 27 = .ok (.lrem, 1) := by decide +kernel
theorem d_Decimal_fractionDigit_28 : decode b_Decimal_fractionDigit 28 = .ok (.l2i, 1) := by decide +kernel
theorem d_Decimal_fractionDigit_29 : decode b_Decimal_fractionDigit 29 = .ok (.goto 4, 3) := by decide +kernel
theorem d_Decimal_fractionDigit_32 : decode b_Decimal_fractionDigit 32 = .ok (.iconst 0, 1) := by decide +kernel
theorem d_Decimal_fractionDigit_33 : decode b_Decimal_fractionDigit 33 = .ok (.ireturn, 1) := by decide +kernel
theorem d_NumberWriter_init_0 : decode b_NumberWriter_init 0 = .ok (.aload_n 0, 1) := by decide +kernel
theorem d_NumberWriter_init_1 : decode b_NumberWriter_init 1 = .ok (.invokespecial 3, 3) := by decide +kernel
theorem d_NumberWriter_init_4 : decode b_NumberWriter_init 4 = .ok (.aload_n 0, 1) := by decide +kernel
theorem d_NumberWriter_init_5 : decode b_NumberWriter_init 5 = .ok (.new 9, 3) := by decide +kernel
theorem d_NumberWriter_init_8 : decode b_NumberWriter_init 8 = .ok (.dup, 1) := by decide +kernel
theorem d_NumberWriter_init_9 : decode b_NumberWriter_init 9 = .ok (.invokespecial 11, 3) := by decide +kernel
theorem d_NumberWriter_init_12 : decode b_NumberWriter_init 12 = .ok (.putfield 12, 3) := by decide +kernel
theorem d_NumberWriter_init_15 : decode b_NumberWriter_init 15 = .ok (.aload_n 0, 1) := by decide +kernel
theorem d_NumberWriter_init_16 : decode b_NumberWriter_init 16 = .ok (.iconst 0, 1) := by decide +kernel
theorem d_NumberWriter_init_17 : decode b_NumberWriter_init 17 = .ok (.putfield 18, 3) := by decide +kernel
theorem d_NumberWriter_init_20 : decode b_NumberWriter_init 20 = .ok (.aload_n 0, 1) := by decide +kernel
theorem d_NumberWriter_init_21 : decode b_NumberWriter_init 21 = .ok (.bipush 6, 2) := by decide +kernel
theorem d_NumberWriter_init_23 : decode b_NumberWriter_init 23 = .ok (.newarray .int, 2) := by decide +kernel
theorem d_NumberWriter_init_25 : decode b_NumberWriter_init 25 = .ok (.putfield 22, 3) := by decide +kernel
theorem d_NumberWriter_init_28 : decode b_NumberWriter_init 28 = .ok (.aload_n 0, 1) := by decide +kernel
theorem d_NumberWriter_init_29 : decode b_NumberWriter_init 29 = .ok (.iconst 0, 1) := by decide +kernel
theorem d_NumberWriter_init_30 : decode b_NumberWriter_init 30 = .ok (.putfield 26, 3) := by decide +kernel
theorem d_NumberWriter_init_33 : decode b_NumberWriter_init 33 = .ok (.return_, 1) := by decide +kernel
theorem d_NumberWriter_forgetFields_0 : decode b_NumberWriter_forgetFields 0 = .ok (.aload_n 0, 1) := by decide +kernel
theorem d_NumberWriter_forgetFields_1 : decode b_NumberWriter_forgetFields 1 = .ok (.iconst 0, 1) := by decide +kernel
theorem d_NumberWriter_forgetFields_2 : decode b_NumberWriter_forgetFields 2 = .ok (.putfield 26, 3) := by decide +kernel
theorem d_NumberWriter_forgetFields_5 : decode b_NumberWriter_forgetFields 5 = .ok (.return_, 1) := by decide +kernel
theorem d_NumberWriter_fieldEdge_0 : decode b_NumberWriter_fieldEdge 0 = .ok (.aload_n 0, 1) := by decide +kernel
theorem d_NumberWriter_fieldEdge_1 : decode b_NumberWriter_fieldEdge 1 = .ok (.getfield 26, 3) := by decide +kernel
theorem d_NumberWriter_fieldEdge_4 : decode b_NumberWriter_fieldEdge 4 = .ok (.ifCond .eq 12, 3) := by decide +kernel
theorem d_NumberWriter_fieldEdge_7 : decode b_NumberWriter_fieldEdge 7 = .ok (.iload_n 1, 1) := by decide +kernel
theorem d_NumberWriter_fieldEdge_8 : decode b_NumberWriter_fieldEdge 8 = .ok (.ifCond .lt 8, 3) := by decide +kernel
theorem d_NumberWriter_fieldEdge_11 : decode b_NumberWriter_fieldEdge 11 = .ok (.iload_n 1, 1) := by decide +kernel
theorem d_NumberWriter_fieldEdge_12 : decode b_NumberWriter_fieldEdge 12 = .ok (.iconst 2, 1) := by decide +kernel
theorem d_NumberWriter_fieldEdge_13 : decode b_NumberWriter_fieldEdge 13 = .ok (.if_icmp .le 5, 3) := by decide +kernel
theorem d_NumberWriter_fieldEdge_16 : decode b_NumberWriter_fieldEdge 16 = .ok (.iconst (-1), 1) := by decide +kernel
theorem d_NumberWriter_fieldEdge_17 : decode b_NumberWriter_fieldEdge 17 = .ok (.ireturn, 1) := by decide +kernel
theorem d_NumberWriter_fieldEdge_18 : decode b_NumberWriter_fieldEdge 18 = .ok (.aload_n 0, 1) := by decide +kernel
theorem d_NumberWriter_fieldEdge_19 : decode b_NumberWriter_fieldEdge 19 = .ok (.getfield 22, 3) := by decide +kernel
theorem d_NumberWriter_fieldEdge_22 : decode b_NumberWriter_fieldEdge 22 = .ok (.iload_n 2, 1) := by decide +kernel
theorem d_NumberWriter_fieldEdge_23 : decode b_NumberWriter_fieldEdge 23 = .ok (.ifCond .eq 11, 3) := by decide +kernel
theorem d_NumberWriter_fieldEdge_26 : decode b_NumberWriter_fieldEdge 26 = .ok (.iconst 2, 1) := by decide +kernel
theorem d_NumberWriter_fieldEdge_27 : decode b_NumberWriter_fieldEdge 27 = .ok (.iload_n 1, 1) := by decide +kernel
theorem d_NumberWriter_fieldEdge_28 : decode b_NumberWriter_fieldEdge 28 = .ok (.imul, 1) := by decide +kernel
theorem d_NumberWriter_fieldEdge_29 : decode b_NumberWriter_fieldEdge 29 = .ok (.iconst 1, 1) := by decide +kernel
theorem d_NumberWriter_fieldEdge_30 : decode b_NumberWriter_fieldEdge 30 = .ok (.iadd, 1) := by decide +kernel
theorem d_NumberWriter_fieldEdge_31 : decode b_NumberWriter_fieldEdge 31 = .ok (.goto 6, 3) := by decide +kernel
theorem d_NumberWriter_fieldEdge_34 : decode b_NumberWriter_fieldEdge 34 = .ok (.iconst 2, 1) := by decide +kernel
theorem d_NumberWriter_fieldEdge_35 : decode b_NumberWriter_fieldEdge 35 = .ok (.iload_n 1, 1) := by decide +kernel
theorem d_NumberWriter_fieldEdge_36 : decode b_NumberWriter_fieldEdge 36 = .ok (.imul, 1) := by decide +kernel
theorem d_NumberWriter_fieldEdge_37 : decode b_NumberWriter_fieldEdge 37 = .ok (.iaload, 1) := by decide +kernel
theorem d_NumberWriter_fieldEdge_38 : decode b_NumberWriter_fieldEdge 38 = .ok (.ireturn, 1) := by decide +kernel
theorem d_NumberWriter_prepare_0 : decode b_NumberWriter_prepare 0 = .ok (.aload_n 0, 1) := by decide +kernel
theorem d_NumberWriter_prepare_1 : decode b_NumberWriter_prepare 1 = .ok (.getfield 12, 3) := by decide +kernel
theorem d_NumberWriter_prepare_4 : decode b_NumberWriter_prepare 4 = .ok (.lload_n 2, 1) := by decide +kernel
theorem d_NumberWriter_prepare_5 : decode b_NumberWriter_prepare 5 = .ok (.iload 4, 2) := by decide +kernel
theorem d_NumberWriter_prepare_7 : decode b_NumberWriter_prepare 7 = .ok (.invokevirtual 30, 3) := by decide +kernel
theorem d_NumberWriter_prepare_10 : decode b_NumberWriter_prepare 10 = .ok (.aload_n 0, 1) := by decide +kernel
theorem d_NumberWriter_prepare_11 : decode b_NumberWriter_prepare 11 = .ok (.iconst 0, 1) := by decide +kernel
theorem d_NumberWriter_prepare_12 : decode b_NumberWriter_prepare 12 = .ok (.putfield 18, 3) := by decide +kernel
theorem d_NumberWriter_prepare_15 : decode b_NumberWriter_prepare 15 = .ok (.aload_n 1, 1) := by decide +kernel
theorem d_NumberWriter_prepare_16 : decode b_NumberWriter_prepare 16 = .ok (.getfield 34, 3) := by decide +kernel
theorem d_NumberWriter_prepare_19 : decode b_NumberWriter_prepare 19 = .ok (.ifCond .eq 9, 3) := by decide +kernel
theorem d_NumberWriter_prepare_22 : decode b_NumberWriter_prepare 22 = .ok (.lload_n 2, 1) := by decide +kernel
theorem d_NumberWriter_prepare_23 : decode b_NumberWriter_prepare 23 = .ok (.lconst 0, 1) := by decide +kernel
theorem d_NumberWriter_prepare_24 : decode b_NumberWriter_prepare 24 = .ok (.lcmp, 1) := by decide +kernel
theorem d_NumberWriter_prepare_25 : decode b_NumberWriter_prepare 25 = .ok (.ifCond .ne 17, 3) := by decide +kernel
theorem d_NumberWriter_prepare_28 : decode b_NumberWriter_prepare 28 = .ok (.aload_n 0, 1) := by decide +kernel
theorem d_NumberWriter_prepare_29 : decode b_NumberWriter_prepare 29 = .ok (.getfield 12, 3) := by decide +kernel
theorem d_NumberWriter_prepare_32 : decode b_NumberWriter_prepare 32 = .ok (.aload_n 1, 1) := by decide +kernel
theorem d_NumberWriter_prepare_33 : decode b_NumberWriter_prepare 33 = .ok (.getfield 39, 3) := by decide +kernel
theorem d_NumberWriter_prepare_36 : decode b_NumberWriter_prepare 36 = .ok (.iload 5, 2) := by decide +kernel
theorem d_NumberWriter_prepare_38 : decode b_NumberWriter_prepare 38 = .ok (.invokevirtual 42, 3) := by decide +kernel
theorem d_NumberWriter_prepare_41 : decode b_NumberWriter_prepare 41 = .ok (.ireturn, 1) := by decide +kernel
theorem d_NumberWriter_prepare_42 : decode b_NumberWriter_prepare 42 = .ok (.aload_n 0, 1) := by decide +kernel
theorem d_NumberWriter_prepare_43 : decode b_NumberWriter_prepare 43 = .ok (.aload_n 1, 1) := by decide +kernel
theorem d_NumberWriter_prepare_44 : decode b_NumberWriter_prepare 44 = .ok (.getfield 46, 3) := by decide +kernel
theorem d_NumberWriter_prepare_47 : decode b_NumberWriter_prepare 47 = .ok (.invokevirtual 49, 3) := by decide +kernel
theorem d_NumberWriter_prepare_50 : decode b_NumberWriter_prepare 50 = .ok (.aload_n 0, 1) := by decide +kernel
theorem d_NumberWriter_prepare_51 : decode b_NumberWriter_prepare 51 = .ok (.getfield 12, 3) := by decide +kernel
theorem d_NumberWriter_prepare_54 : decode b_NumberWriter_prepare 54 = .ok (.aload_n 1, 1) := by decide +kernel
theorem d_NumberWriter_prepare_55 : decode b_NumberWriter_prepare 55 = .ok (.getfield 39, 3) := by decide +kernel
theorem d_NumberWriter_prepare_58 : decode b_NumberWriter_prepare 58 = .ok (.iload 5, 2) := by decide +kernel
theorem d_NumberWriter_prepare_60 : decode b_NumberWriter_prepare 60 = .ok (.invokevirtual 42, 3) := by decide +kernel
theorem d_NumberWriter_prepare_63 : decode b_NumberWriter_prepare 63 = .ok (.ifCond .ne 5, 3) := by decide +kernel
theorem d_NumberWriter_prepare_66 : decode b_NumberWriter_prepare 66 = .ok (.iconst 0, 1) := by decide +kernel
theorem d_NumberWriter_prepare_67 : decode b_NumberWriter_prepare 67 = .ok (.ireturn, 1) := by decide +kernel
theorem d_NumberWriter_prepare_68 : decode b_NumberWriter_prepare 68 = .ok (.aload_n 0, 1) := by decide +kernel
theorem d_NumberWriter_prepare_69 : decode b_NumberWriter_prepare 69 = .ok (.aload_n 1, 1) := by decide +kernel
theorem d_NumberWriter_prepare_70 : decode b_NumberWriter_prepare 70 = .ok (.getfield 46, 3) := by decide +kernel
theorem d_NumberWriter_prepare_73 : decode b_NumberWriter_prepare 73 = .ok (.invokevirtual 53, 3) := by decide +kernel
theorem d_NumberWriter_prepare_76 : decode b_NumberWriter_prepare 76 = .ok (.iconst 1, 1) := by decide +kernel
theorem d_NumberWriter_prepare_77 : decode b_NumberWriter_prepare 77 = .ok (.ireturn, 1) := by decide +kernel
theorem d_NumberWriter_takeExponent_0 : decode b_NumberWriter_takeExponent 0 = .ok (.aload_n 0, 1) := by decide +kernel
theorem d_NumberWriter_takeExponent_1 : decode b_NumberWriter_takeExponent 1 = .ok (.getfield 12, 3) := by decide +kernel
theorem d_NumberWriter_takeExponent_4 : decode b_NumberWriter_takeExponent 4 = .ok (.getfield 56, 3) := by decide +kernel
theorem d_NumberWriter_takeExponent_7 : decode b_NumberWriter_takeExponent 7 = .ok (.invokestatic 60, 3) := by decide +kernel
theorem d_NumberWriter_takeExponent_10 : decode b_NumberWriter_takeExponent 10 = .ok (.istore_n 2, 1) := by decide +kernel
theorem d_NumberWriter_takeExponent_11 : decode b_NumberWriter_takeExponent 11 = .ok (.aload_n 0, 1) := by decide +kernel
theorem d_NumberWriter_takeExponent_12 : decode b_NumberWriter_takeExponent 12 = .ok (.iload_n 2, 1) := by decide +kernel
theorem d_NumberWriter_takeExponent_13 : decode b_NumberWriter_takeExponent 13 = .ok (.aload_n 0, 1) := by decide +kernel
theorem d_NumberWriter_takeExponent_14 : decode b_NumberWriter_takeExponent 14 = .ok (.getfield 12, 3) := by decide +kernel
theorem d_NumberWriter_takeExponent_17 : decode b_NumberWriter_takeExponent 17 = .ok (.getfield 64, 3) := by decide +kernel
theorem d_NumberWriter_takeExponent_20 : decode b_NumberWriter_takeExponent 20 = .ok (.isub, 1) := by decide +kernel
theorem d_NumberWriter_takeExponent_21 : decode b_NumberWriter_takeExponent 21 = .ok (.iload_n 1, 1) := by decide +kernel
theorem d_NumberWriter_takeExponent_22 : decode b_NumberWriter_takeExponent 22 = .ok (.isub, 1) := by decide +kernel
theorem d_NumberWriter_takeExponent_23 : decode b_NumberWriter_takeExponent 23 = .ok (.putfield 18, 3) := by decide +kernel
theorem d_NumberWriter_takeExponent_26 : decode b_NumberWriter_takeExponent 26 = .ok (.iload_n 2, 1) := by decide +kernel
theorem d_NumberWriter_takeExponent_27 : decode b_NumberWriter_takeExponent 27 = .ok (.iload_n 1, 1) := by decide +kernel
theorem d_NumberWriter_takeExponent_28 : decode b_NumberWriter_takeExponent 28 = .ok (.if_icmp .ge 35, 3) := by decide +kernel
theorem d_NumberWriter_takeExponent_31 : decode b_NumberWriter_takeExponent 31 = .ok (.aload_n 0, 1) := by decide +kernel
theorem d_NumberWriter_takeExponent_32 : decode b_NumberWriter_takeExponent 32 = .ok (.getfield 12, 3) := by decide +kernel
theorem d_NumberWriter_takeExponent_35 : decode b_NumberWriter_takeExponent 35 = .ok (.aload_n 0, 1) := by decide +kernel
theorem d_NumberWriter_takeExponent_36 : decode b_NumberWriter_takeExponent 36 = .ok (.getfield 12, 3) := by decide +kernel
theorem d_NumberWriter_takeExponent_39 : decode b_NumberWriter_takeExponent 39 = .ok (.getfield 56, 3) := by decide +kernel
theorem d_NumberWriter_takeExponent_42 : decode b_NumberWriter_takeExponent 42 = .ok (.iload_n 1, 1) := by decide +kernel
theorem d_NumberWriter_takeExponent_43 : decode b_NumberWriter_takeExponent 43 = .ok (.iload_n 2, 1) := by decide +kernel
theorem d_NumberWriter_takeExponent_44 : decode b_NumberWriter_takeExponent 44 = .ok (.isub, 1) := by decide +kernel
theorem d_NumberWriter_takeExponent_45 : decode b_NumberWriter_takeExponent 45 = .ok (.invokestatic 67, 3) := by decide +kernel
theorem d_NumberWriter_takeExponent_48 : decode b_NumberWriter_takeExponent 48 = .ok (.lmul, 1) := by decide +kernel
theorem d_NumberWriter_takeExponent_49 : decode b_NumberWriter_takeExponent 49 = .ok (.putfield 56, 3) := by decide +kernel
theorem d_NumberWriter_takeExponent_52 : decode b_NumberWriter_takeExponent 52 = .ok (.aload_n 0, 1) := by decide +kernel
theorem d_NumberWriter_takeExponent_53 : decode b_NumberWriter_takeExponent 53 = .ok (.getfield 12, 3) := by decide +kernel
theorem d_NumberWriter_takeExponent_56 : decode b_NumberWriter_takeExponent 56 = .ok (.iconst 0, 1) := by decide +kernel
theorem d_NumberWriter_takeExponent_57 : decode b_NumberWriter_takeExponent 57 = .ok (.putfield 64, 3) := by decide +kernel
theorem d_NumberWriter_takeExponent_60 : decode b_NumberWriter_takeExponent 60 = .ok (.goto 13, 3) := by decide +kernel
theorem d_NumberWriter_takeExponent_63 : decode b_NumberWriter_takeExponent 63 = .ok (.aload_n 0, 1) := by decide +kernel
theorem d_NumberWriter_takeExponent_64 : decode b_NumberWriter_takeExponent 64 = .ok (.getfield 12, 3) := by decide +kernel
theorem d_NumberWriter_takeExponent_67 : decode b_NumberWriter_takeExponent 67 = .ok (.iload_n 2, 1) := by decide +kernel
theorem d_NumberWriter_takeExponent_68 : decode b_NumberWriter_takeExponent 68 = .ok (.iload_n 1, 1) := by decide +kernel
theorem d_NumberWriter_takeExponent_69 : decode b_NumberWriter_takeExponent 69 = .ok (.isub, 1) := by decide +kernel
theorem d_NumberWriter_takeExponent_70 : decode b_NumberWriter_takeExponent 70 = .ok (.putfield 64, 3) := by decide +kernel
theorem d_NumberWriter_takeExponent_73 : decode b_NumberWriter_takeExponent 73 = .ok (.return_, 1) := by decide +kernel
theorem d_NumberWriter_carryExponent_0 : decode b_NumberWriter_carryExponent 0 = .ok (.aload_n 0, 1) := by decide +kernel
theorem d_NumberWriter_carryExponent_1 : decode b_NumberWriter_carryExponent 1 = .ok (.getfield 12, 3) := by decide +kernel
theorem d_NumberWriter_carryExponent_4 : decode b_NumberWriter_carryExponent 4 = .ok (.invokevirtual 71, 3) := by decide +kernel
theorem d_NumberWriter_carryExponent_7 : decode b_NumberWriter_carryExponent 7 = .ok (.iload_n 1, 1) := by decide +kernel
theorem d_NumberWriter_carryExponent_8 : decode b_NumberWriter_carryExponent 8 = .ok (.invokestatic 67, 3) := by decide +kernel
theorem d_NumberWriter_carryExponent_11 : decode b_NumberWriter_carryExponent 11 = .ok (.lcmp, 1) := by decide +kernel
theorem d_NumberWriter_carryExponent_12 : decode b_NumberWriter_carryExponent 12 = .ok (.ifCond .lt 34, 3) := by decide +kernel
theorem d_NumberWriter_carryExponent_15 : decode b_NumberWriter_carryExponent 15 = .ok (.aload_n 0, 1) := by decide +kernel
theorem d_NumberWriter_carryExponent_16 : decode b_NumberWriter_carryExponent 16 = .ok (.getfield 12, 3) := by decide +kernel
theorem d_NumberWriter_carryExponent_19 : decode b_NumberWriter_carryExponent 19 = .ok (.iload_n 1, 1) := by decide +kernel
theorem d_NumberWriter_carryExponent_20 : decode b_NumberWriter_carryExponent 20 = .ok (.iconst 1, 1) := by decide +kernel
theorem d_NumberWriter_carryExponent_21 : decode b_NumberWriter_carryExponent 21 = .ok (.isub, 1) := by decide +kernel
theorem d_NumberWriter_carryExponent_22 : decode b_NumberWriter_carryExponent 22 = .ok (.invokestatic 67, 3) := by decide +kernel
theorem d_NumberWriter_carryExponent_25 : decode b_NumberWriter_carryExponent 25 = .ok (.putfield 56, 3) := by decide +kernel
theorem d_NumberWriter_carryExponent_28 : decode b_NumberWriter_carryExponent 28 = .ok (.aload_n 0, 1) := by decide +kernel
theorem d_NumberWriter_carryExponent_29 : decode b_NumberWriter_carryExponent 29 = .ok (.getfield 12, 3) := by decide +kernel
theorem d_NumberWriter_carryExponent_32 : decode b_NumberWriter_carryExponent 32 = .ok (.iconst 0, 1) := by decide +kernel
theorem d_NumberWriter_carryExponent_33 : decode b_NumberWriter_carryExponent 33 = .ok (.putfield 64, 3) := by decide +kernel
theorem d_NumberWriter_carryExponent_36 : decode b_NumberWriter_carryExponent 36 = .ok (.aload_n 0, 1) := by decide +kernel
theorem d_NumberWriter_carryExponent_37 : decode b_NumberWriter_carryExponent 37 = .ok (.dup, 1) := by decide +kernel
theorem d_NumberWriter_carryExponent_38 : decode b_NumberWriter_carryExponent 38 = .ok (.getfield 18, 3) := by decide +kernel
theorem d_NumberWriter_carryExponent_41 : decode b_NumberWriter_carryExponent 41 = .ok (.iconst 1, 1) := by decide +kernel
theorem d_NumberWriter_carryExponent_42 : decode b_NumberWriter_carryExponent 42 = .ok (.iadd, 1) := by decide +kernel
theorem d_NumberWriter_carryExponent_43 : decode b_NumberWriter_carryExponent 43 = .ok (.putfield 18, 3) := by decide +kernel
theorem d_NumberWriter_carryExponent_46 : decode b_NumberWriter_carryExponent 46 = .ok (.return_, 1) := by decide +kernel
theorem d_NumberWriter_write_0 : decode b_NumberWriter_write 0 = .ok (.aload_n 0, 1) := by decide +kernel
theorem d_NumberWriter_write_1 : decode b_NumberWriter_write 1 = .ok (.getfield 12, 3) := by decide +kernel
theorem d_NumberWriter_write_4 : decode b_NumberWriter_write 4 = .ok (.invokevirtual 75, 3) := by decide +kernel
theorem d_NumberWriter_write_7 : decode b_NumberWriter_write 7 = .ok (.ifCond .eq 10, 3) := by decide +kernel
theorem d_NumberWriter_write_10 : decode b_NumberWriter_write 10 = .ok (.aload_n 1, 1) := by decide +kernel
theorem d_NumberWriter_write_11 : decode b_NumberWriter_write 11 = .ok (.getfield 79, 3) := by decide +kernel
theorem d_NumberWriter_write_14 : decode b_NumberWriter_write 14 = .ok (.goto 7, 3) := by decide +kernel
theorem d_NumberWriter_write_17 : decode b_NumberWriter_write 17 = .ok (.aload_n 1, 1) := by decide +kernel
theorem d_NumberWriter_write_18 : decode b_NumberWriter_write 18 = .ok (.getfield 85, 3) := by decide +kernel
theorem d_NumberWriter_write_21 : decode b_NumberWriter_write 21 = .ok (.astore_n 3, 1) := by decide +kernel
theorem d_NumberWriter_write_22 : decode b_NumberWriter_write 22 = .ok (.aload_n 1, 1) := by decide +kernel
theorem d_NumberWriter_write_23 : decode b_NumberWriter_write 23 = .ok (.getfield 85, 3) := by decide +kernel
theorem d_NumberWriter_write_26 : decode b_NumberWriter_write 26 = .ok (.getfield 88, 3) := by decide +kernel
theorem d_NumberWriter_write_29 : decode b_NumberWriter_write 29 = .ok (.astore 4, 2) := by decide +kernel
theorem d_NumberWriter_write_31 : decode b_NumberWriter_write 31 = .ok (.aload_n 2, 1) := by decide +kernel
theorem d_NumberWriter_write_32 : decode b_NumberWriter_write 32 = .ok (.invokevirtual 94, 3) := by decide +kernel
theorem d_NumberWriter_write_35 : decode b_NumberWriter_write 35 = .ok (.aload_n 3, 1) := by decide +kernel
theorem d_NumberWriter_write_36 : decode b_NumberWriter_write 36 = .ok (.getfield 99, 3) := by decide +kernel
theorem d_NumberWriter_write_39 : decode b_NumberWriter_write 39 = .ok (.aload_n 2, 1) := by decide +kernel
theorem d_NumberWriter_write_40 : decode b_NumberWriter_write 40 = .ok (.invokevirtual 103, 3) := by decide +kernel
theorem d_NumberWriter_write_43 : decode b_NumberWriter_write 43 = .ok (.aload_n 0, 1) := by decide +kernel
theorem d_NumberWriter_write_44 : decode b_NumberWriter_write 44 = .ok (.aload 4, 2) := by decide +kernel
theorem d_NumberWriter_write_46 : decode b_NumberWriter_write 46 = .ok (.aload_n 2, 1) := by decide +kernel
theorem d_NumberWriter_write_47 : decode b_NumberWriter_write 47 = .ok (.invokevirtual 109, 3) := by decide +kernel
theorem d_NumberWriter_write_50 : decode b_NumberWriter_write 50 = .ok (.aload_n 0, 1) := by decide +kernel
theorem d_NumberWriter_write_51 : decode b_NumberWriter_write 51 = .ok (.aload 4, 2) := by decide +kernel
theorem d_NumberWriter_write_53 : decode b_NumberWriter_write 53 = .ok (.aload_n 2, 1) := by decide +kernel
theorem d_NumberWriter_write_54 : decode b_NumberWriter_write 54 = .ok (.invokevirtual 113, 3) := by decide +kernel
theorem d_NumberWriter_write_57 : decode b_NumberWriter_write 57 = .ok (.aload_n 0, 1) := by decide +kernel
theorem d_NumberWriter_write_58 : decode b_NumberWriter_write 58 = .ok (.aload 4, 2) := by decide +kernel
theorem d_NumberWriter_write_60 : decode b_NumberWriter_write 60 = .ok (.aload_n 2, 1) := by decide +kernel
theorem d_NumberWriter_write_61 : decode b_NumberWriter_write 61 = .ok (.invokevirtual 116, 3) := by decide +kernel
theorem d_NumberWriter_write_64 : decode b_NumberWriter_write 64 = .ok (.aload_n 3, 1) := by decide +kernel
theorem d_NumberWriter_write_65 : decode b_NumberWriter_write 65 = .ok (.getfield 119, 3) := by decide +kernel
theorem d_NumberWriter_write_68 : decode b_NumberWriter_write 68 = .ok (.aload_n 2, 1) := by decide +kernel
theorem d_NumberWriter_write_69 : decode b_NumberWriter_write 69 = .ok (.invokevirtual 103, 3) := by decide +kernel
theorem d_NumberWriter_write_72 : decode b_NumberWriter_write 72 = .ok (.aload_n 0, 1) := by decide +kernel
theorem d_NumberWriter_write_73 : decode b_NumberWriter_write 73 = .ok (.iconst 1, 1) := by decide +kernel
theorem d_NumberWriter_write_74 : decode b_NumberWriter_write 74 = .ok (.putfield 26, 3) := by decide +kernel
theorem d_NumberWriter_write_77 : decode b_NumberWriter_write 77 = .ok (.return_, 1) := by decide +kernel
theorem d_NumberWriter_shownFraction_0 : decode b_NumberWriter_shownFraction 0 = .ok (.aload_n 0, 1) := by decide +kernel
theorem d_NumberWriter_shownFraction_1 : decode b_NumberWriter_shownFraction 1 = .ok (.getfield 12, 3) := by decide +kernel
theorem d_NumberWriter_shownFraction_4 : decode b_NumberWriter_shownFraction 4 = .ok (.invokevirtual 122, 3) := by decide +kernel
theorem d_NumberWriter_shownFraction_7 : decode b_NumberWriter_shownFraction 7 = .ok (.aload_n 1, 1) := by decide +kernel
theorem d_NumberWriter_shownFraction_8 : decode b_NumberWriter_shownFraction 8 = .ok (.getfield 126, 3) := by decide +kernel
theorem d_NumberWriter_shownFraction_11 : decode b_NumberWriter_shownFraction 11 = .ok (.invokestatic 129, 3) := by decide +kernel
theorem d_NumberWriter_shownFraction_14 : decode b_NumberWriter_shownFraction 14 = .ok (.ireturn, 1) := by decide +kernel
theorem d_NumberWriter_writeInteger_0 : decode b_NumberWriter_writeInteger 0 = .ok (.aload_n 0, 1) := by decide +kernel
theorem d_NumberWriter_writeInteger_1 : decode b_NumberWriter_writeInteger 1 = .ok (.getfield 22, 3) := by decide +kernel
theorem d_NumberWriter_writeInteger_4 : decode b_NumberWriter_writeInteger 4 = .ok (.iconst 0, 1) := by decide +kernel
theorem d_NumberWriter_writeInteger_5 : decode b_NumberWriter_writeInteger 5 = .ok (.aload_n 2, 1) := by decide +kernel
theorem d_NumberWriter_writeInteger_6 : decode b_NumberWriter_writeInteger 6 = .ok (.invokevirtual 135, 3) := by decide +kernel
theorem d_NumberWriter_writeInteger_9 : decode b_NumberWriter_writeInteger 9 = .ok (.iastore, 1) := by decide +kernel
theorem d_NumberWriter_writeInteger_10 : decode b_NumberWriter_writeInteger 10 = .ok (.aload_n 0, 1) := by decide +kernel
theorem d_NumberWriter_writeInteger_11 : decode b_NumberWriter_writeInteger 11 = .ok (.getfield 12, 3) := by decide +kernel
theorem d_NumberWriter_writeInteger_14 : decode b_NumberWriter_writeInteger 14 = .ok (.invokevirtual 71, 3) := by decide +kernel
theorem d_NumberWriter_writeInteger_17 : decode b_NumberWriter_writeInteger 17 = .ok (.invokestatic 60, 3) := by decide +kernel
theorem d_NumberWriter_writeInteger_20 : decode b_NumberWriter_writeInteger 20 = .ok (.aload_n 1, 1) := by decide +kernel
theorem d_NumberWriter_writeInteger_21 : decode b_NumberWriter_writeInteger 21 = .ok (.getfield 46, 3) := by decide +kernel
theorem d_NumberWriter_writeInteger_24 : decode b_NumberWriter_writeInteger 24 = .ok (.invokestatic 129, 3) := by decide +kernel
theorem d_NumberWriter_writeInteger_27 : decode b_NumberWriter_writeInteger 27 = .ok (.istore_n 3, 1) := by decide +kernel
theorem d_NumberWriter_writeInteger_28 : decode b_NumberWriter_writeInteger 28 = .ok (.iload_n 3, 1) := by decide +kernel
theorem d_NumberWriter_writeInteger_29 : decode b_NumberWriter_writeInteger 29 = .ok (.ifCond .ne 13, 3) := by decide +kernel
theorem d_NumberWriter_writeInteger_32 : decode b_NumberWriter_writeInteger 32 = .ok (.aload_n 0, 1) := by decide +kernel
theorem d_NumberWriter_writeInteger_33 : decode b_NumberWriter_writeInteger 33 = .ok (.aload_n 1, 1) := by decide +kernel
theorem d_NumberWriter_writeInteger_34 : decode b_NumberWriter_writeInteger 34 = .ok (.invokevirtual 138, 3) := by decide +kernel
theorem d_NumberWriter_writeInteger_37 : decode b_NumberWriter_writeInteger 37 = .ok (.ifCond .ne 5, 3) := by decide +kernel
theorem d_NumberWriter_writeInteger_40 : decode b_NumberWriter_writeInteger 40 = .ok (.iconst 1, 1) := by decide +kernel
theorem d_NumberWriter_writeInteger_41 : decode b_NumberWriter_writeInteger 41 = .ok (.istore_n 3, 1) := by decide +kernel
theorem d_NumberWriter_writeInteger_42 : decode b_NumberWriter_writeInteger 42 = .ok (.aload_n 0, 1) := by decide +kernel
theorem d_NumberWriter_writeInteger_43 : decode b_NumberWriter_writeInteger 43 = .ok (.getfield 12, 3) := by decide +kernel
theorem d_NumberWriter_writeInteger_46 : decode b_NumberWriter_writeInteger 46 = .ok (.invokevirtual 71, 3) := by decide +kernel
theorem d_NumberWriter_writeInteger_49 : decode b_NumberWriter_writeInteger 49 = .ok (.iload_n 3, 1) := by decide +kernel
theorem d_NumberWriter_writeInteger_50 : decode b_NumberWriter_writeInteger 50 = .ok (.aload_n 1, 1) := by decide +kernel
theorem d_NumberWriter_writeInteger_51 : decode b_NumberWriter_writeInteger 51 = .ok (.getfield 142, 3) := by decide +kernel
theorem d_NumberWriter_writeInteger_54 : decode b_NumberWriter_writeInteger 54 = .ok (.aload_n 2, 1) := by decide +kernel
theorem d_NumberWriter_writeInteger_55 : decode b_NumberWriter_writeInteger 55 = .ok (.invokestatic 145, 3) := by decide +kernel
theorem d_NumberWriter_writeInteger_58 : decode b_NumberWriter_writeInteger 58 = .ok (.aload_n 0, 1) := by decide +kernel
theorem d_NumberWriter_writeInteger_59 : decode b_NumberWriter_writeInteger 59 = .ok (.getfield 22, 3) := by decide +kernel
theorem d_NumberWriter_writeInteger_62 : decode b_NumberWriter_writeInteger 62 = .ok (.iconst 1, 1) := by decide +kernel
theorem d_NumberWriter_writeInteger_63 : decode b_NumberWriter_writeInteger 63 = .ok (.aload_n 2, 1) := by decide +kernel
theorem d_NumberWriter_writeInteger_64 : decode b_NumberWriter_writeInteger 64 = .ok (.invokevirtual 135, 3) := by decide +kernel
theorem d_NumberWriter_writeInteger_67 : decode b_NumberWriter_writeInteger 67 = .ok (.iastore, 1) := by decide +kernel
theorem d_NumberWriter_writeInteger_68 : decode b_NumberWriter_writeInteger 68 = .ok (.return_, 1) := by decide +kernel
theorem d_NumberWriter_writeFraction_0 : decode b_NumberWriter_writeFraction 0 = .ok (.aload_n 0, 1) := by decide +kernel
theorem d_NumberWriter_writeFraction_1 : decode b_NumberWriter_writeFraction 1 = .ok (.aload_n 1, 1) := by decide +kernel
theorem d_NumberWriter_writeFraction_2 : decode b_NumberWriter_writeFraction 2 = .ok (.invokevirtual 138, 3) := by decide +kernel
theorem d_NumberWriter_writeFraction_5 : decode b_NumberWriter_writeFraction 5 = .ok (.istore_n 3, 1) := by decide +kernel
theorem d_NumberWriter_writeFraction_6 : decode b_NumberWriter_writeFraction 6 = .ok (.iload_n 3, 1) := by decide +kernel
theorem d_NumberWriter_writeFraction_7 : decode b_NumberWriter_writeFraction 7 = .ok (.ifCond .le 10, 3) := by decide +kernel
theorem d_NumberWriter_writeFraction_10 : decode b_NumberWriter_writeFraction 10 = .ok (.aload_n 2, 1) := by decide +kernel
theorem d_NumberWriter_writeFraction_11 : decode b_NumberWriter_writeFraction 11 = .ok (.bipush 46, 2) := by decide +kernel
theorem d_NumberWriter_writeFraction_13 : decode b_NumberWriter_writeFraction 13 = .ok (.invokevirtual 149, 3) := by decide +kernel
theorem d_NumberWriter_writeFraction_16 : decode b_NumberWriter_writeFraction 16 = .ok (.pop, 1) := by decide +kernel
theorem d_NumberWriter_writeFraction_17 : decode b_NumberWriter_writeFraction 17 = .ok (.aload_n 0, 1) := by decide +kernel
theorem d_NumberWriter_writeFraction_18 : decode b_NumberWriter_writeFraction 18 = .ok (.getfield 22, 3) := by decide +kernel
theorem d_NumberWriter_writeFraction_21 : decode b_NumberWriter_writeFraction 21 = .ok (.iconst 2, 1) := by decide +kernel
theorem d_NumberWriter_writeFraction_22 : decode b_NumberWriter_writeFraction 22 = .ok (.aload_n 2, 1) := by decide +kernel
theorem d_NumberWriter_writeFraction_23 : decode b_NumberWriter_writeFraction 23 = .ok (.invokevirtual 135, 3) := by decide +kernel
theorem d_NumberWriter_writeFraction_26 : decode b_NumberWriter_writeFraction 26 = .ok (.iastore, 1) := by decide +kernel
theorem d_NumberWriter_writeFraction_27 : decode b_NumberWriter_writeFraction 27 = .ok (.iconst 0, 1) := by decide +kernel
theorem d_NumberWriter_writeFraction_28 : decode b_NumberWriter_writeFraction 28 = .ok (.istore 4, 2) := by decide +kernel
theorem d_NumberWriter_writeFraction_30 : decode b_NumberWriter_writeFraction 30 = .ok (.iload 4, 2) := by decide +kernel
theorem d_NumberWriter_writeFraction_32 : decode b_NumberWriter_writeFraction 32 = .ok (.iload_n 3, 1) := by decide +kernel
theorem d_NumberWriter_writeFraction_33 : decode b_NumberWriter_writeFraction 33 = .ok (.if_icmp .ge 27, 3) := by decide +kernel
theorem d_NumberWriter_writeFraction_36 : decode b_NumberWriter_writeFraction 36 = .ok (.aload_n 2, 1) := by decide +kernel
theorem d_NumberWriter_writeFraction_37 : decode b_NumberWriter_writeFraction 37 = .ok (.bipush 48, 2) := by decide +kernel
theorem d_NumberWriter_writeFraction_39 : decode b_NumberWriter_writeFraction 39 = .ok (.aload_n 0, 1) := by decide +kernel
theorem d_NumberWriter_writeFraction_40 : decode b_NumberWriter_writeFraction 40 = .ok (.getfield 12, 3) := by decide +kernel
theorem d_NumberWriter_writeFraction_43 : decode b_NumberWriter_writeFraction 43 = .ok (.iload 4, 2) := by decide +kernel
theorem d_NumberWriter_writeFraction_45 : decode b_NumberWriter_writeFraction 45 = .ok (.invokevirtual 153, 3) := by decide +kernel
theorem d_NumberWriter_writeFraction_48 : decode b_NumberWriter_writeFraction 48 = .ok (.iadd, 1) := by decide +kernel
theorem d_NumberWriter_writeFraction_49 : decode b_NumberWriter_writeFraction 49 = .ok (.i2c, 1) := by decide +kernel
theorem d_NumberWriter_writeFraction_50 : decode b_NumberWriter_writeFraction 50 = .ok (.invokevirtual 149, 3) := by decide +kernel
theorem d_NumberWriter_writeFraction_53 : decode b_NumberWriter_writeFraction 53 = .ok (.pop, 1) := by decide +kernel
theorem d_NumberWriter_writeFraction_54 : decode b_NumberWriter_writeFraction 54 = .ok (.iinc 4 1, 3) := by decide +kernel
theorem d_NumberWriter_writeFraction_57 : decode b_NumberWriter_writeFraction 57 = .ok (.goto (-27), 3) := by decide +kernel
theorem d_NumberWriter_writeFraction_60 : decode b_NumberWriter_writeFraction 60 = .ok (.aload_n 0, 1) := by decide +kernel
theorem d_NumberWriter_writeFraction_61 : decode b_NumberWriter_writeFraction 61 = .ok (.getfield 22, 3) := by decide +kernel
theorem d_NumberWriter_writeFraction_64 : decode b_NumberWriter_writeFraction 64 = .ok (.iconst 3, 1) := by decide +kernel
theorem d_NumberWriter_writeFraction_65 : decode b_NumberWriter_writeFraction 65 = .ok (.aload_n 2, 1) := by decide +kernel
theorem d_NumberWriter_writeFraction_66 : decode b_NumberWriter_writeFraction 66 = .ok (.invokevirtual 135, 3) := by decide +kernel
theorem d_NumberWriter_writeFraction_69 : decode b_NumberWriter_writeFraction 69 = .ok (.iastore, 1) := by decide +kernel
theorem d_NumberWriter_writeFraction_70 : decode b_NumberWriter_writeFraction 70 = .ok (.return_, 1) := by decide +kernel
