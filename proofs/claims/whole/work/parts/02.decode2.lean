theorem d_NumberWriter_writeExponent_0 : decode b_NumberWriter_writeExponent 0 = .ok (.aload_n 1, 1) := by decide +kernel
theorem d_NumberWriter_writeExponent_1 : decode b_NumberWriter_writeExponent 1 = .ok (.getfield 34, 3) := by decide +kernel
theorem d_NumberWriter_writeExponent_4 : decode b_NumberWriter_writeExponent 4 = .ok (.ifCond .le 10, 3) := by decide +kernel
theorem d_NumberWriter_writeExponent_7 : decode b_NumberWriter_writeExponent 7 = .ok (.aload_n 2, 1) := by decide +kernel
theorem d_NumberWriter_writeExponent_8 : decode b_NumberWriter_writeExponent 8 = .ok (.bipush 69, 2) := by decide +kernel
theorem d_NumberWriter_writeExponent_10 : decode b_NumberWriter_writeExponent 10 = .ok (.invokevirtual 149, 3) := by decide +kernel
theorem d_NumberWriter_writeExponent_13 : decode b_NumberWriter_writeExponent 13 = .ok (.pop, 1) := by decide +kernel
theorem d_NumberWriter_writeExponent_14 : decode b_NumberWriter_writeExponent 14 = .ok (.aload_n 0, 1) := by decide +kernel
theorem d_NumberWriter_writeExponent_15 : decode b_NumberWriter_writeExponent 15 = .ok (.getfield 22, 3) := by decide +kernel
theorem d_NumberWriter_writeExponent_18 : decode b_NumberWriter_writeExponent 18 = .ok (.iconst 4, 1) := by decide +kernel
theorem d_NumberWriter_writeExponent_19 : decode b_NumberWriter_writeExponent 19 = .ok (.aload_n 2, 1) := by decide +kernel
theorem d_NumberWriter_writeExponent_20 : decode b_NumberWriter_writeExponent 20 = .ok (.invokevirtual 135, 3) := by decide +kernel
theorem d_NumberWriter_writeExponent_23 : decode b_NumberWriter_writeExponent 23 = .ok (.iastore, 1) := by decide +kernel
theorem d_NumberWriter_writeExponent_24 : decode b_NumberWriter_writeExponent 24 = .ok (.aload_n 1, 1) := by decide +kernel
theorem d_NumberWriter_writeExponent_25 : decode b_NumberWriter_writeExponent 25 = .ok (.getfield 34, 3) := by decide +kernel
theorem d_NumberWriter_writeExponent_28 : decode b_NumberWriter_writeExponent 28 = .ok (.ifCond .le 43, 3) := by decide +kernel
theorem d_NumberWriter_writeExponent_31 : decode b_NumberWriter_writeExponent 31 = .ok (.aload_n 0, 1) := by decide +kernel
theorem d_NumberWriter_writeExponent_32 : decode b_NumberWriter_writeExponent 32 = .ok (.getfield 18, 3) := by decide +kernel
theorem d_NumberWriter_writeExponent_35 : decode b_NumberWriter_writeExponent 35 = .ok (.ifCond .ge 10, 3) := by decide +kernel
theorem d_NumberWriter_writeExponent_38 : decode b_NumberWriter_writeExponent 38 = .ok (.aload_n 2, 1) := by decide +kernel
theorem d_NumberWriter_writeExponent_39 : decode b_NumberWriter_writeExponent 39 = .ok (.bipush 45, 2) := by decide +kernel
theorem d_NumberWriter_writeExponent_41 : decode b_NumberWriter_writeExponent 41 = .ok (.invokevirtual 149, 3) := by decide +kernel
theorem d_NumberWriter_writeExponent_44 : decode b_NumberWriter_writeExponent 44 = .ok (.pop, 1) := by decide +kernel
theorem d_NumberWriter_writeExponent_45 : decode b_NumberWriter_writeExponent 45 = .ok (.aload_n 0, 1) := by decide +kernel
theorem d_NumberWriter_writeExponent_46 : decode b_NumberWriter_writeExponent 46 = .ok (.getfield 18, 3) := by decide +kernel
theorem d_NumberWriter_writeExponent_49 : decode b_NumberWriter_writeExponent 49 = .ok (.invokestatic 157, 3) := by decide +kernel
theorem d_NumberWriter_writeExponent_52 : decode b_NumberWriter_writeExponent 52 = .ok (.i2l, 1) := by decide +kernel
theorem d_NumberWriter_writeExponent_53 : decode b_NumberWriter_writeExponent 53 = .ok (.lstore_n 3, 1) := by decide +kernel
theorem d_NumberWriter_writeExponent_54 : decode b_NumberWriter_writeExponent 54 = .ok (.lload_n 3, 1) := by decide +kernel
theorem d_NumberWriter_writeExponent_55 : decode b_NumberWriter_writeExponent 55 = .ok (.lload_n 3, 1) := by decide +kernel
theorem d_NumberWriter_writeExponent_56 : decode b_NumberWriter_writeExponent 56 = .ok (.invokestatic 60, 3) := by decide +kernel
theorem d_NumberWriter_writeExponent_59 : decode b_NumberWriter_writeExponent 59 = .ok (.aload_n 1, 1) := by decide +kernel
theorem d_NumberWriter_writeExponent_60 : decode b_NumberWriter_writeExponent 60 = .ok (.getfield 34, 3) := by decide +kernel
theorem d_NumberWriter_writeExponent_63 : decode b_NumberWriter_writeExponent 63 = .ok (.invokestatic 129, 3) := by decide +kernel
theorem d_NumberWriter_writeExponent_66 : decode b_NumberWriter_writeExponent 66 = .ok (.iconst 0, 1) := by decide +kernel
theorem d_NumberWriter_writeExponent_67 : decode b_NumberWriter_writeExponent 67 = .ok (.aload_n 2, 1) := by decide +kernel
theorem d_NumberWriter_writeExponent_68 : decode b_NumberWriter_writeExponent 68 = .ok (.invokestatic 145, 3) := by decide +kernel
theorem d_NumberWriter_writeExponent_71 : decode b_NumberWriter_writeExponent 71 = .ok (.aload_n 0, 1) := by decide +kernel
theorem d_NumberWriter_writeExponent_72 : decode b_NumberWriter_writeExponent 72 = .ok (.getfield 22, 3) := by decide +kernel
theorem d_NumberWriter_writeExponent_75 : decode b_NumberWriter_writeExponent 75 = .ok (.iconst 5, 1) := by decide +kernel
theorem d_NumberWriter_writeExponent_76 : decode b_NumberWriter_writeExponent 76 = .ok (.aload_n 2, 1) := by decide +kernel
theorem d_NumberWriter_writeExponent_77 : decode b_NumberWriter_writeExponent 77 = .ok (.invokevirtual 135, 3) := by decide +kernel
theorem d_NumberWriter_writeExponent_80 : decode b_NumberWriter_writeExponent 80 = .ok (.iastore, 1) := by decide +kernel
theorem d_NumberWriter_writeExponent_81 : decode b_NumberWriter_writeExponent 81 = .ok (.return_, 1) := by decide +kernel
theorem d_NumberWriter_writeDigits_0 : decode b_NumberWriter_writeDigits 0 = .ok (.iload_n 2, 1) := by decide +kernel
theorem d_NumberWriter_writeDigits_1 : decode b_NumberWriter_writeDigits 1 = .ok (.istore 5, 2) := by decide +kernel
theorem d_NumberWriter_writeDigits_3 : decode b_NumberWriter_writeDigits 3 = .ok (.iload 5, 2) := by decide +kernel
theorem d_NumberWriter_writeDigits_5 : decode b_NumberWriter_writeDigits 5 = .ok (.ifCond .le 58, 3) := by decide +kernel
theorem d_NumberWriter_writeDigits_8 : decode b_NumberWriter_writeDigits 8 = .ok (.iload_n 3, 1) := by decide +kernel
theorem d_NumberWriter_writeDigits_9 : decode b_NumberWriter_writeDigits 9 = .ok (.ifCond .le 24, 3) := by decide +kernel
theorem d_NumberWriter_writeDigits_12 : decode b_NumberWriter_writeDigits 12 = .ok (.iload 5, 2) := by decide +kernel
theorem d_NumberWriter_writeDigits_14 : decode b_NumberWriter_writeDigits 14 = .ok (.iload_n 2, 1) := by decide +kernel
theorem d_NumberWriter_writeDigits_15 : decode b_NumberWriter_writeDigits 15 = .ok (.if_icmp .ge 18, 3) := by decide +kernel
theorem d_NumberWriter_writeDigits_18 : decode b_NumberWriter_writeDigits 18 = .ok (.iload 5, 2) := by decide +kernel
theorem d_NumberWriter_writeDigits_20 : decode b_NumberWriter_writeDigits 20 = .ok (.iload_n 3, 1) := by decide +kernel
theorem d_NumberWriter_writeDigits_21 : decode b_NumberWriter_writeDigits 21 = .ok (.irem, 1) := by decide +kernel
theorem d_NumberWriter_writeDigits_22 : decode b_NumberWriter_writeDigits 22 = .ok (.ifCond .ne 11, 3) := by decide +kernel
theorem d_NumberWriter_writeDigits_25 : decode b_NumberWriter_writeDigits 25 = .ok (.aload 4, 2) := by decide +kernel
theorem d_NumberWriter_writeDigits_27 : decode b_NumberWriter_writeDigits 27 = .ok (.bipush 44, 2) := by decide +kernel
theorem d_NumberWriter_writeDigits_29 : decode b_NumberWriter_writeDigits 29 = .ok (.invokevirtual 149, 3) := by decide +kernel
theorem d_NumberWriter_writeDigits_32 : decode b_NumberWriter_writeDigits 32 = .ok (.pop, 1) := by decide +kernel
theorem d_NumberWriter_writeDigits_33 : decode b_NumberWriter_writeDigits 33 = .ok (.aload 4, 2) := by decide +kernel
theorem d_NumberWriter_writeDigits_35 : decode b_NumberWriter_writeDigits 35 = .ok (.bipush 48, 2) := by decide +kernel
theorem d_NumberWriter_writeDigits_37 : decode b_NumberWriter_writeDigits 37 = .ok (.lload_n 0, 1) := by decide +kernel
theorem d_NumberWriter_writeDigits_38 : decode b_NumberWriter_writeDigits 38 = .ok (.iload 5, 2) := by decide +kernel
theorem d_NumberWriter_writeDigits_40 : decode b_NumberWriter_writeDigits 40 = .ok (.iconst 1, 1) := by decide +kernel
theorem d_NumberWriter_writeDigits_41 : decode b_NumberWriter_writeDigits 41 = .ok (.isub, 1) := by decide +kernel
theorem d_NumberWriter_writeDigits_42 : decode b_NumberWriter_writeDigits 42 = .ok (.invokestatic 67, 3) := by decide +kernel
theorem d_NumberWriter_writeDigits_45 : decode b_NumberWriter_writeDigits 45 = .ok (.ldiv, 1) := by decide +kernel
theorem d_NumberWriter_writeDigits_46 : decode b_NumberWriter_writeDigits 46 = .ok (.ldc2_w 160, 3) := by decide +kernel
theorem d_NumberWriter_writeDigits_49 : decode b_NumberWriter_writeDigits 49 = .ok (.lrem, 1) := by decide +kernel
theorem d_NumberWriter_writeDigits_50 : decode b_NumberWriter_writeDigits 50 = .ok (.l2i, 1) := by decide +kernel
theorem d_NumberWriter_writeDigits_51 : decode b_NumberWriter_writeDigits 51 = .ok (.iadd, 1) := by decide +kernel
theorem d_NumberWriter_writeDigits_52 : decode b_NumberWriter_writeDigits 52 = .ok (.i2c, 1) := by decide +kernel
theorem d_NumberWriter_writeDigits_53 : decode b_NumberWriter_writeDigits 53 = .ok (.invokevirtual 149, 3) := by decide +kernel
theorem d_NumberWriter_writeDigits_56 : decode b_NumberWriter_writeDigits 56 = .ok (.pop, 1) := by decide +kernel
theorem d_NumberWriter_writeDigits_57 : decode b_NumberWriter_writeDigits 57 = .ok (.iinc 5 (-1), 3) := by decide +kernel
theorem d_NumberWriter_writeDigits_60 : decode b_NumberWriter_writeDigits 60 = .ok (.goto (-57), 3) := by decide +kernel
theorem d_NumberWriter_writeDigits_63 : decode b_NumberWriter_writeDigits 63 = .ok (.return_, 1) := by decide +kernel
theorem d_NumberReader_init_0 : decode b_NumberReader_init 0 = .ok (.aload_n 0, 1) := by decide +kernel
theorem d_NumberReader_init_1 : decode b_NumberReader_init 1 = .ok (.invokespecial 3, 3) := by decide +kernel
theorem d_NumberReader_init_4 : decode b_NumberReader_init 4 = .ok (.aload_n 0, 1) := by decide +kernel
theorem d_NumberReader_init_5 : decode b_NumberReader_init 5 = .ok (.iconst 0, 1) := by decide +kernel
theorem d_NumberReader_init_6 : decode b_NumberReader_init 6 = .ok (.putfield 9, 3) := by decide +kernel
theorem d_NumberReader_init_9 : decode b_NumberReader_init 9 = .ok (.aload_n 0, 1) := by decide +kernel
theorem d_NumberReader_init_10 : decode b_NumberReader_init 10 = .ok (.iconst 0, 1) := by decide +kernel
theorem d_NumberReader_init_11 : decode b_NumberReader_init 11 = .ok (.putfield 15, 3) := by decide +kernel
theorem d_NumberReader_init_14 : decode b_NumberReader_init 14 = .ok (.aload_n 0, 1) := by decide +kernel
theorem d_NumberReader_init_15 : decode b_NumberReader_init 15 = .ok (.iconst 0, 1) := by decide +kernel
theorem d_NumberReader_init_16 : decode b_NumberReader_init 16 = .ok (.putfield 18, 3) := by decide +kernel
theorem d_NumberReader_init_19 : decode b_NumberReader_init 19 = .ok (.aload_n 0, 1) := by decide +kernel
theorem d_NumberReader_init_20 : decode b_NumberReader_init 20 = .ok (.iconst 0, 1) := by decide +kernel
theorem d_NumberReader_init_21 : decode b_NumberReader_init 21 = .ok (.putfield 21, 3) := by decide +kernel
theorem d_NumberReader_init_24 : decode b_NumberReader_init 24 = .ok (.aload_n 0, 1) := by decide +kernel
theorem d_NumberReader_init_25 : decode b_NumberReader_init 25 = .ok (.iconst 0, 1) := by decide +kernel
theorem d_NumberReader_init_26 : decode b_NumberReader_init 26 = .ok (.iconst 0, 1) := by decide +kernel
theorem d_NumberReader_init_27 : decode b_NumberReader_init 27 = .ok (.invokevirtual 25, 3) := by decide +kernel
theorem d_NumberReader_init_30 : decode b_NumberReader_init 30 = .ok (.return_, 1) := by decide +kernel
theorem d_NumberReader_signedDigits_0 : decode b_NumberReader_signedDigits 0 = .ok (.aload_n 0, 1) := by decide +kernel
theorem d_NumberReader_signedDigits_1 : decode b_NumberReader_signedDigits 1 = .ok (.getfield 21, 3) := by decide +kernel
theorem d_NumberReader_signedDigits_4 : decode b_NumberReader_signedDigits 4 = .ok (.ifCond .eq 11, 3) := by decide +kernel
theorem d_NumberReader_signedDigits_7 : decode b_NumberReader_signedDigits 7 = .ok (.aload_n 0, 1) := by decide +kernel
theorem d_NumberReader_signedDigits_8 : decode b_NumberReader_signedDigits 8 = .ok (.getfield 29, 3) := by decide +kernel
theorem d_NumberReader_signedDigits_11 : decode b_NumberReader_signedDigits 11 = .ok (.lneg, 1) := by decide +kernel
theorem d_NumberReader_signedDigits_12 : decode b_NumberReader_signedDigits 12 = .ok (.goto 7, 3) := by decide +kernel
theorem d_NumberReader_signedDigits_15 : decode b_NumberReader_signedDigits 15 = .ok (.aload_n 0, 1) := by decide +kernel
theorem d_NumberReader_signedDigits_16 : decode b_NumberReader_signedDigits 16 = .ok (.getfield 29, 3) := by decide +kernel
theorem d_NumberReader_signedDigits_19 : decode b_NumberReader_signedDigits 19 = .ok (.lreturn, 1) := by decide +kernel
theorem d_NumberReader_places_0 : decode b_NumberReader_places 0 = .ok (.aload_n 0, 1) := by decide +kernel
theorem d_NumberReader_places_1 : decode b_NumberReader_places 1 = .ok (.getfield 29, 3) := by decide +kernel
theorem d_NumberReader_places_4 : decode b_NumberReader_places 4 = .ok (.lconst 0, 1) := by decide +kernel
theorem d_NumberReader_places_5 : decode b_NumberReader_places 5 = .ok (.lcmp, 1) := by decide +kernel
theorem d_NumberReader_places_6 : decode b_NumberReader_places 6 = .ok (.ifCond .ne 7, 3) := by decide +kernel
theorem d_NumberReader_places_9 : decode b_NumberReader_places 9 = .ok (.iconst 0, 1) := by decide +kernel
theorem d_NumberReader_places_10 : decode b_NumberReader_places 10 = .ok (.goto 22, 3) := by decide +kernel
theorem d_NumberReader_places_13 : decode b_NumberReader_places 13 = .ok (.aload_n 0, 1) := by decide +kernel
theorem d_NumberReader_places_14 : decode b_NumberReader_places 14 = .ok (.getfield 33, 3) := by decide +kernel
theorem d_NumberReader_places_17 : decode b_NumberReader_places 17 = .ok (.aload_n 0, 1) := by decide +kernel
theorem d_NumberReader_places_18 : decode b_NumberReader_places 18 = .ok (.getfield 36, 3) := by decide +kernel
theorem d_NumberReader_places_21 : decode b_NumberReader_places 21 = .ok (.isub, 1) := by decide +kernel
theorem d_NumberReader_places_22 : decode b_NumberReader_places 22 = .ok (.aload_n 0, 1) := by decide +kernel
theorem d_NumberReader_places_23 : decode b_NumberReader_places 23 = .ok (.getfield 39, 3) := by decide +kernel
theorem d_NumberReader_places_26 : decode b_NumberReader_places 26 = .ok (.isub, 1) := by decide +kernel
theorem d_NumberReader_places_27 : decode b_NumberReader_places 27 = .ok (.aload_n 0, 1) := by decide +kernel
theorem d_NumberReader_places_28 : decode b_NumberReader_places 28 = .ok (.getfield 18, 3) := by decide +kernel
theorem d_NumberReader_places_31 : decode b_NumberReader_places 31 = .ok (.iadd, 1) := by decide +kernel
theorem d_NumberReader_places_32 : decode b_NumberReader_places 32 = .ok (.ireturn, 1) := by decide +kernel
theorem d_NumberReader_read_0 : decode b_NumberReader_read 0 = .ok (.aload_n 2, 1) := by decide +kernel
theorem d_NumberReader_read_1 : decode b_NumberReader_read 1 = .ok (.getfield 42, 3) := by decide +kernel
theorem d_NumberReader_read_4 : decode b_NumberReader_read 4 = .ok (.getfield 48, 3) := by decide +kernel
theorem d_NumberReader_read_7 : decode b_NumberReader_read 7 = .ok (.astore_n 3, 1) := by decide +kernel
theorem d_NumberReader_read_8 : decode b_NumberReader_read 8 = .ok (.aload_n 0, 1) := by decide +kernel
theorem d_NumberReader_read_9 : decode b_NumberReader_read 9 = .ok (.aload_n 2, 1) := by decide +kernel
theorem d_NumberReader_read_10 : decode b_NumberReader_read 10 = .ok (.getfield 54, 3) := by decide +kernel
theorem d_NumberReader_read_13 : decode b_NumberReader_read 13 = .ok (.ifCond .eq 7, 3) := by decide +kernel
theorem d_NumberReader_read_16 : decode b_NumberReader_read 16 = .ok (.iconst 2, 1) := by decide +kernel
theorem d_NumberReader_read_17 : decode b_NumberReader_read 17 = .ok (.goto 4, 3) := by decide +kernel
theorem d_NumberReader_read_20 : decode b_NumberReader_read 20 = .ok (.iconst 0, 1) := by decide +kernel
theorem d_NumberReader_read_21 : decode b_NumberReader_read 21 = .ok (.putfield 18, 3) := by decide +kernel
theorem d_NumberReader_read_24 : decode b_NumberReader_read 24 = .ok (.aload_n 0, 1) := by decide +kernel
theorem d_NumberReader_read_25 : decode b_NumberReader_read 25 = .ok (.iconst 0, 1) := by decide +kernel
theorem d_NumberReader_read_26 : decode b_NumberReader_read 26 = .ok (.putfield 21, 3) := by decide +kernel
theorem d_NumberReader_read_29 : decode b_NumberReader_read 29 = .ok (.aload_n 0, 1) := by decide +kernel
theorem d_NumberReader_read_30 : decode b_NumberReader_read 30 = .ok (.aload_n 1, 1) := by decide +kernel
theorem d_NumberReader_read_31 : decode b_NumberReader_read 31 = .ok (.aload_n 2, 1) := by decide +kernel
theorem d_NumberReader_read_32 : decode b_NumberReader_read 32 = .ok (.getfield 42, 3) := by decide +kernel
theorem d_NumberReader_read_35 : decode b_NumberReader_read 35 = .ok (.invokevirtual 57, 3) := by decide +kernel
theorem d_NumberReader_read_38 : decode b_NumberReader_read 38 = .ok (.ifCond .eq 12, 3) := by decide +kernel
theorem d_NumberReader_read_41 : decode b_NumberReader_read 41 = .ok (.aload_n 0, 1) := by decide +kernel
theorem d_NumberReader_read_42 : decode b_NumberReader_read 42 = .ok (.aload_n 1, 1) := by decide +kernel
theorem d_NumberReader_read_43 : decode b_NumberReader_read 43 = .ok (.aload_n 3, 1) := by decide +kernel
theorem d_NumberReader_read_44 : decode b_NumberReader_read 44 = .ok (.invokevirtual 61, 3) := by decide +kernel
theorem d_NumberReader_read_47 : decode b_NumberReader_read 47 = .ok (.ifCond .ne 31, 3) := by decide +kernel
theorem d_NumberReader_read_50 : decode b_NumberReader_read 50 = .ok (.aload_n 0, 1) := by decide +kernel
theorem d_NumberReader_read_51 : decode b_NumberReader_read 51 = .ok (.iconst 1, 1) := by decide +kernel
theorem d_NumberReader_read_52 : decode b_NumberReader_read 52 = .ok (.putfield 21, 3) := by decide +kernel
theorem d_NumberReader_read_55 : decode b_NumberReader_read 55 = .ok (.aload_n 0, 1) := by decide +kernel
theorem d_NumberReader_read_56 : decode b_NumberReader_read 56 = .ok (.aload_n 1, 1) := by decide +kernel
theorem d_NumberReader_read_57 : decode b_NumberReader_read 57 = .ok (.aload_n 2, 1) := by decide +kernel
theorem d_NumberReader_read_58 : decode b_NumberReader_read 58 = .ok (.getfield 65, 3) := by decide +kernel
theorem d_NumberReader_read_61 : decode b_NumberReader_read 61 = .ok (.invokevirtual 57, 3) := by decide +kernel
theorem d_NumberReader_read_64 : decode b_NumberReader_read 64 = .ok (.ifCond .eq 12, 3) := by decide +kernel
theorem d_NumberReader_read_67 : decode b_NumberReader_read 67 = .ok (.aload_n 0, 1) := by decide +kernel
theorem d_NumberReader_read_68 : decode b_NumberReader_read 68 = .ok (.aload_n 1, 1) := by decide +kernel
theorem d_NumberReader_read_69 : decode b_NumberReader_read 69 = .ok (.aload_n 3, 1) := by decide +kernel
theorem d_NumberReader_read_70 : decode b_NumberReader_read 70 = .ok (.invokevirtual 61, 3) := by decide +kernel
theorem d_NumberReader_read_73 : decode b_NumberReader_read 73 = .ok (.ifCond .ne 5, 3) := by decide +kernel
theorem d_NumberReader_read_76 : decode b_NumberReader_read 76 = .ok (.iconst 0, 1) := by decide +kernel
theorem d_NumberReader_read_77 : decode b_NumberReader_read 77 = .ok (.ireturn, 1) := by decide +kernel
theorem d_NumberReader_read_78 : decode b_NumberReader_read 78 = .ok (.aload_n 0, 1) := by decide +kernel
theorem d_NumberReader_read_79 : decode b_NumberReader_read 79 = .ok (.getfield 68, 3) := by decide +kernel
theorem d_NumberReader_read_82 : decode b_NumberReader_read 82 = .ok (.bipush 17, 2) := by decide +kernel
theorem d_NumberReader_read_84 : decode b_NumberReader_read 84 = .ok (.if_icmp .gt 7, 3) := by decide +kernel
theorem d_NumberReader_read_87 : decode b_NumberReader_read 87 = .ok (.iconst 1, 1) := by decide +kernel
theorem d_NumberReader_read_88 : decode b_NumberReader_read 88 = .ok (.goto 4, 3) := by decide +kernel
theorem d_NumberReader_read_91 : decode b_NumberReader_read 91 = .ok (.iconst 0, 1) := by decide +kernel
theorem d_NumberReader_read_92 : decode b_NumberReader_read 92 = .ok (.ireturn, 1) := by decide +kernel
theorem d_NumberReader_startBetween_0 : decode b_NumberReader_startBetween 0 = .ok (.aload_n 2, 1) := by decide +kernel
theorem d_NumberReader_startBetween_1 : decode b_NumberReader_startBetween 1 = .ok (.getfield 71, 3) := by decide +kernel
theorem d_NumberReader_startBetween_4 : decode b_NumberReader_startBetween 4 = .ok (.invokevirtual 75, 3) := by decide +kernel
theorem d_NumberReader_startBetween_7 : decode b_NumberReader_startBetween 7 = .ok (.istore_n 3, 1) := by decide +kernel
theorem d_NumberReader_startBetween_8 : decode b_NumberReader_startBetween 8 = .ok (.aload_n 1, 1) := by decide +kernel
theorem d_NumberReader_startBetween_9 : decode b_NumberReader_startBetween 9 = .ok (.invokevirtual 81, 3) := by decide +kernel
theorem d_NumberReader_startBetween_12 : decode b_NumberReader_startBetween 12 = .ok (.aload_n 2, 1) := by decide +kernel
theorem d_NumberReader_startBetween_13 : decode b_NumberReader_startBetween 13 = .ok (.getfield 84, 3) := by decide +kernel
theorem d_NumberReader_startBetween_16 : decode b_NumberReader_startBetween 16 = .ok (.invokevirtual 75, 3) := by decide +kernel
theorem d_NumberReader_startBetween_19 : decode b_NumberReader_startBetween 19 = .ok (.isub, 1) := by decide +kernel
theorem d_NumberReader_startBetween_20 : decode b_NumberReader_startBetween 20 = .ok (.istore 4, 2) := by decide +kernel
theorem d_NumberReader_startBetween_22 : decode b_NumberReader_startBetween 22 = .ok (.aload_n 0, 1) := by decide +kernel
theorem d_NumberReader_startBetween_23 : decode b_NumberReader_startBetween 23 = .ok (.iload_n 3, 1) := by decide +kernel
theorem d_NumberReader_startBetween_24 : decode b_NumberReader_startBetween 24 = .ok (.iload 4, 2) := by decide +kernel
theorem d_NumberReader_startBetween_26 : decode b_NumberReader_startBetween 26 = .ok (.invokevirtual 25, 3) := by decide +kernel
theorem d_NumberReader_startBetween_29 : decode b_NumberReader_startBetween 29 = .ok (.iload_n 3, 1) := by decide +kernel
theorem d_NumberReader_startBetween_30 : decode b_NumberReader_startBetween 30 = .ok (.iload 4, 2) := by decide +kernel
theorem d_NumberReader_startBetween_32 : decode b_NumberReader_startBetween 32 = .ok (.if_icmp .gt 32, 3) := by decide +kernel
theorem d_NumberReader_startBetween_35 : decode b_NumberReader_startBetween 35 = .ok (.aload_n 2, 1) := by decide +kernel
theorem d_NumberReader_startBetween_36 : decode b_NumberReader_startBetween 36 = .ok (.getfield 71, 3) := by decide +kernel
theorem d_NumberReader_startBetween_39 : decode b_NumberReader_startBetween 39 = .ok (.aload_n 1, 1) := by decide +kernel
theorem d_NumberReader_startBetween_40 : decode b_NumberReader_startBetween 40 = .ok (.iconst 0, 1) := by decide +kernel
theorem d_NumberReader_startBetween_41 : decode b_NumberReader_startBetween 41 = .ok (.invokevirtual 87, 3) := by decide +kernel
theorem d_NumberReader_startBetween_44 : decode b_NumberReader_startBetween 44 = .ok (.ifCond .eq 20, 3) := by decide +kernel
theorem d_NumberReader_startBetween_47 : decode b_NumberReader_startBetween 47 = .ok (.aload_n 2, 1) := by decide +kernel
theorem d_NumberReader_startBetween_48 : decode b_NumberReader_startBetween 48 = .ok (.getfield 84, 3) := by decide +kernel
theorem d_NumberReader_startBetween_51 : decode b_NumberReader_startBetween 51 = .ok (.aload_n 1, 1) := by decide +kernel
theorem d_NumberReader_startBetween_52 : decode b_NumberReader_startBetween 52 = .ok (.iload 4, 2) := by decide +kernel
theorem d_NumberReader_startBetween_54 : decode b_NumberReader_startBetween 54 = .ok (.invokevirtual 87, 3) := by decide +kernel
theorem d_NumberReader_startBetween_57 : decode b_NumberReader_startBetween 57 = .ok (.ifCond .eq 7, 3) := by decide +kernel
theorem d_NumberReader_startBetween_60 : decode b_NumberReader_startBetween 60 = .ok (.iconst 1, 1) := by decide +kernel
theorem d_NumberReader_startBetween_61 : decode b_NumberReader_startBetween 61 = .ok (.goto 4, 3) := by decide +kernel
theorem d_NumberReader_startBetween_64 : decode b_NumberReader_startBetween 64 = .ok (.iconst 0, 1) := by decide +kernel
theorem d_NumberReader_startBetween_65 : decode b_NumberReader_startBetween 65 = .ok (.ireturn, 1) := by decide +kernel
theorem d_NumberReader_startBody_0 : decode b_NumberReader_startBody 0 = .ok (.aload_n 0, 1) := by decide +kernel
theorem d_NumberReader_startBody_1 : decode b_NumberReader_startBody 1 = .ok (.iload_n 1, 1) := by decide +kernel
theorem d_NumberReader_startBody_2 : decode b_NumberReader_startBody 2 = .ok (.putfield 9, 3) := by decide +kernel
theorem d_NumberReader_startBody_5 : decode b_NumberReader_startBody 5 = .ok (.aload_n 0, 1) := by decide +kernel
theorem d_NumberReader_startBody_6 : decode b_NumberReader_startBody 6 = .ok (.iload_n 2, 1) := by decide +kernel
theorem d_NumberReader_startBody_7 : decode b_NumberReader_startBody 7 = .ok (.putfield 15, 3) := by decide +kernel
theorem d_NumberReader_startBody_10 : decode b_NumberReader_startBody 10 = .ok (.aload_n 0, 1) := by decide +kernel
theorem d_NumberReader_startBody_11 : decode b_NumberReader_startBody 11 = .ok (.iload_n 1, 1) := by decide +kernel
theorem d_NumberReader_startBody_12 : decode b_NumberReader_startBody 12 = .ok (.putfield 91, 3) := by decide +kernel
theorem d_NumberReader_startBody_15 : decode b_NumberReader_startBody 15 = .ok (.aload_n 0, 1) := by decide +kernel
theorem d_NumberReader_startBody_16 : decode b_NumberReader_startBody 16 = .ok (.iconst 0, 1) := by decide +kernel
theorem d_NumberReader_startBody_17 : decode b_NumberReader_startBody 17 = .ok (.putfield 94, 3) := by decide +kernel
theorem d_NumberReader_startBody_20 : decode b_NumberReader_startBody 20 = .ok (.aload_n 0, 1) := by decide +kernel
theorem d_NumberReader_startBody_21 : decode b_NumberReader_startBody 21 = .ok (.iconst 0, 1) := by decide +kernel
theorem d_NumberReader_startBody_22 : decode b_NumberReader_startBody 22 = .ok (.putfield 33, 3) := by decide +kernel
theorem d_NumberReader_startBody_25 : decode b_NumberReader_startBody 25 = .ok (.aload_n 0, 1) := by decide +kernel
theorem d_NumberReader_startBody_26 : decode b_NumberReader_startBody 26 = .ok (.iconst 0, 1) := by decide +kernel
theorem d_NumberReader_startBody_27 : decode b_NumberReader_startBody 27 = .ok (.putfield 39, 3) := by decide +kernel
theorem d_NumberReader_startBody_30 : decode b_NumberReader_startBody 30 = .ok (.aload_n 0, 1) := by decide +kernel
theorem d_NumberReader_startBody_31 : decode b_NumberReader_startBody 31 = .ok (.lconst 0, 1) := by decide +kernel
theorem d_NumberReader_startBody_32 : decode b_NumberReader_startBody 32 = .ok (.putfield 29, 3) := by decide +kernel
theorem d_NumberReader_startBody_35 : decode b_NumberReader_startBody 35 = .ok (.aload_n 0, 1) := by decide +kernel
theorem d_NumberReader_startBody_36 : decode b_NumberReader_startBody 36 = .ok (.iconst 0, 1) := by decide +kernel
theorem d_NumberReader_startBody_37 : decode b_NumberReader_startBody 37 = .ok (.putfield 68, 3) := by decide +kernel
theorem d_NumberReader_startBody_40 : decode b_NumberReader_startBody 40 = .ok (.aload_n 0, 1) := by decide +kernel
theorem d_NumberReader_startBody_41 : decode b_NumberReader_startBody 41 = .ok (.iconst 0, 1) := by decide +kernel
theorem d_NumberReader_startBody_42 : decode b_NumberReader_startBody 42 = .ok (.putfield 36, 3) := by decide +kernel
theorem d_NumberReader_startBody_45 : decode b_NumberReader_startBody 45 = .ok (.return_, 1) := by decide +kernel
theorem d_NumberReader_bodyAt_0 : decode b_NumberReader_bodyAt 0 = .ok (.iload_n 2, 1) := by decide +kernel
theorem d_NumberReader_bodyAt_1 : decode b_NumberReader_bodyAt 1 = .ok (.aload_n 0, 1) := by decide +kernel
theorem d_NumberReader_bodyAt_2 : decode b_NumberReader_bodyAt 2 = .ok (.getfield 9, 3) := by decide +kernel
theorem d_NumberReader_bodyAt_5 : decode b_NumberReader_bodyAt 5 = .ok (.if_icmp .lt 19, 3) := by decide +kernel
theorem d_NumberReader_bodyAt_8 : decode b_NumberReader_bodyAt 8 = .ok (.iload_n 2, 1) := by decide +kernel
theorem d_NumberReader_bodyAt_9 : decode b_NumberReader_bodyAt 9 = .ok (.aload_n 0, 1) := by decide +kernel
theorem d_NumberReader_bodyAt_10 : decode b_NumberReader_bodyAt 10 = .ok (.getfield 15, 3) := by decide +kernel
theorem d_NumberReader_bodyAt_13 : decode b_NumberReader_bodyAt 13 = .ok (.if_icmp .ge 11, 3) := by decide +kernel
theorem d_NumberReader_bodyAt_16 : decode b_NumberReader_bodyAt 16 = .ok (.aload_n 1, 1) := by decide +kernel
theorem d_NumberReader_bodyAt_17 : decode b_NumberReader_bodyAt 17 = .ok (.iload_n 2, 1) := by decide +kernel
theorem d_NumberReader_bodyAt_18 : decode b_NumberReader_bodyAt 18 = .ok (.invokevirtual 97, 3) := by decide +kernel
theorem d_NumberReader_bodyAt_21 : decode b_NumberReader_bodyAt 21 = .ok (.goto 4, 3) := by decide +kernel
theorem d_NumberReader_bodyAt_24 : decode b_NumberReader_bodyAt 24 = .ok (.iconst (-1), 1) := by decide +kernel
theorem d_NumberReader_bodyAt_25 : decode b_NumberReader_bodyAt 25 = .ok (.ireturn, 1) := by decide +kernel
theorem d_NumberReader_readBody_0 : decode b_NumberReader_readBody 0 = .ok (.aload_n 0, 1) := by decide +kernel
theorem d_NumberReader_readBody_1 : decode b_NumberReader_readBody 1 = .ok (.aload_n 1, 1) := by decide +kernel
theorem d_NumberReader_readBody_2 : decode b_NumberReader_readBody 2 = .ok (.aload_n 2, 1) := by decide +kernel
theorem d_NumberReader_readBody_3 : decode b_NumberReader_readBody 3 = .ok (.getfield 101, 3) := by decide +kernel
theorem d_NumberReader_readBody_6 : decode b_NumberReader_readBody 6 = .ok (.ifCond .le 7, 3) := by decide +kernel
theorem d_NumberReader_readBody_9 : decode b_NumberReader_readBody 9 = .ok (.iconst 1, 1) := by decide +kernel
theorem d_NumberReader_readBody_10 : decode b_NumberReader_readBody 10 = .ok (.goto 4, 3) := by decide +kernel
theorem d_NumberReader_readBody_13 : decode b_NumberReader_readBody 13 = .ok (.iconst 0, 1) := by decide +kernel
theorem d_NumberReader_readBody_14 : decode b_NumberReader_readBody 14 = .ok (.invokevirtual 106, 3) := by decide +kernel
theorem d_NumberReader_readBody_17 : decode b_NumberReader_readBody 17 = .ok (.aload_n 0, 1) := by decide +kernel
theorem d_NumberReader_readBody_18 : decode b_NumberReader_readBody 18 = .ok (.aload_n 1, 1) := by decide +kernel
theorem d_NumberReader_readBody_19 : decode b_NumberReader_readBody 19 = .ok (.aload_n 0, 1) := by decide +kernel
theorem d_NumberReader_readBody_20 : decode b_NumberReader_readBody 20 = .ok (.getfield 91, 3) := by decide +kernel
theorem d_NumberReader_readBody_23 : decode b_NumberReader_readBody 23 = .ok (.invokevirtual 110, 3) := by decide +kernel
theorem d_NumberReader_readBody_26 : decode b_NumberReader_readBody 26 = .ok (.bipush 46, 2) := by decide +kernel
theorem d_NumberReader_readBody_28 : decode b_NumberReader_readBody 28 = .ok (.if_icmp .ne 18, 3) := by decide +kernel
theorem d_NumberReader_readBody_31 : decode b_NumberReader_readBody 31 = .ok (.aload_n 0, 1) := by decide +kernel
theorem d_NumberReader_readBody_32 : decode b_NumberReader_readBody 32 = .ok (.dup, 1) := by decide +kernel
theorem d_NumberReader_readBody_33 : decode b_NumberReader_readBody 33 = .ok (.getfield 91, 3) := by decide +kernel
theorem d_NumberReader_readBody_36 : decode b_NumberReader_readBody 36 = .ok (.iconst 1, 1) := by decide +kernel
theorem d_NumberReader_readBody_37 : decode b_NumberReader_readBody 37 = .ok (.iadd, 1) := by decide +kernel
theorem d_NumberReader_readBody_38 : decode b_NumberReader_readBody 38 = .ok (.putfield 91, 3) := by decide +kernel
theorem d_NumberReader_readBody_41 : decode b_NumberReader_readBody 41 = .ok (.aload_n 0, 1) := by decide +kernel
theorem d_NumberReader_readBody_42 : decode b_NumberReader_readBody 42 = .ok (.aload_n 1, 1) := by decide +kernel
theorem d_NumberReader_readBody_43 : decode b_NumberReader_readBody 43 = .ok (.invokevirtual 114, 3) := by decide +kernel
theorem d_NumberReader_readBody_46 : decode b_NumberReader_readBody 46 = .ok (.aload_n 0, 1) := by decide +kernel
theorem d_NumberReader_readBody_47 : decode b_NumberReader_readBody 47 = .ok (.getfield 94, 3) := by decide +kernel
theorem d_NumberReader_readBody_50 : decode b_NumberReader_readBody 50 = .ok (.ifCond .ne 5, 3) := by decide +kernel
theorem d_NumberReader_readBody_53 : decode b_NumberReader_readBody 53 = .ok (.iconst 0, 1) := by decide +kernel
theorem d_NumberReader_readBody_54 : decode b_NumberReader_readBody 54 = .ok (.ireturn, 1) := by decide +kernel
theorem d_NumberReader_readBody_55 : decode b_NumberReader_readBody 55 = .ok (.aload_n 2, 1) := by decide +kernel
theorem d_NumberReader_readBody_56 : decode b_NumberReader_readBody 56 = .ok (.getfield 118, 3) := by decide +kernel
theorem d_NumberReader_readBody_59 : decode b_NumberReader_readBody 59 = .ok (.ifCond .le 13, 3) := by decide +kernel
theorem d_NumberReader_readBody_62 : decode b_NumberReader_readBody 62 = .ok (.aload_n 0, 1) := by decide +kernel
theorem d_NumberReader_readBody_63 : decode b_NumberReader_readBody 63 = .ok (.aload_n 1, 1) := by decide +kernel
theorem d_NumberReader_readBody_64 : decode b_NumberReader_readBody 64 = .ok (.invokevirtual 121, 3) := by decide +kernel
theorem d_NumberReader_readBody_67 : decode b_NumberReader_readBody 67 = .ok (.ifCond .ne 5, 3) := by decide +kernel
theorem d_NumberReader_readBody_70 : decode b_NumberReader_readBody 70 = .ok (.iconst 0, 1) := by decide +kernel
theorem d_NumberReader_readBody_71 : decode b_NumberReader_readBody 71 = .ok (.ireturn, 1) := by decide +kernel
theorem d_NumberReader_readBody_72 : decode b_NumberReader_readBody 72 = .ok (.aload_n 0, 1) := by decide +kernel
theorem d_NumberReader_readBody_73 : decode b_NumberReader_readBody 73 = .ok (.getfield 91, 3) := by decide +kernel
theorem d_NumberReader_readBody_76 : decode b_NumberReader_readBody 76 = .ok (.aload_n 0, 1) := by decide +kernel
theorem d_NumberReader_readBody_77 : decode b_NumberReader_readBody 77 = .ok (.getfield 15, 3) := by decide +kernel
theorem d_NumberReader_readBody_80 : decode b_NumberReader_readBody 80 = .ok (.if_icmp .ne 7, 3) := by decide +kernel
theorem d_NumberReader_readBody_83 : decode b_NumberReader_readBody 83 = .ok (.iconst 1, 1) := by decide +kernel
theorem d_NumberReader_readBody_84 : decode b_NumberReader_readBody 84 = .ok (.goto 4, 3) := by decide +kernel
theorem d_NumberReader_readBody_87 : decode b_NumberReader_readBody 87 = .ok (.iconst 0, 1) := by decide +kernel
theorem d_NumberReader_readBody_88 : decode b_NumberReader_readBody 88 = .ok (.ireturn, 1) := by decide +kernel
theorem d_NumberReader_readInteger_0 : decode b_NumberReader_readInteger 0 = .ok (.aload_n 0, 1) := by decide +kernel
theorem d_NumberReader_readInteger_1 : decode b_NumberReader_readInteger 1 = .ok (.getfield 91, 3) := by decide +kernel
theorem d_NumberReader_readInteger_4 : decode b_NumberReader_readInteger 4 = .ok (.aload_n 0, 1) := by decide +kernel
theorem d_NumberReader_readInteger_5 : decode b_NumberReader_readInteger 5 = .ok (.getfield 15, 3) := by decide +kernel
theorem d_NumberReader_readInteger_8 : decode b_NumberReader_readInteger 8 = .ok (.if_icmp .ge 63, 3) := by decide +kernel
theorem d_NumberReader_readInteger_11 : decode b_NumberReader_readInteger 11 = .ok (.aload_n 0, 1) := by decide +kernel
theorem d_NumberReader_readInteger_12 : decode b_NumberReader_readInteger 12 = .ok (.aload_n 1, 1) := by decide +kernel
theorem d_NumberReader_readInteger_13 : decode b_NumberReader_readInteger 13 = .ok (.aload_n 0, 1) := by decide +kernel
theorem d_NumberReader_readInteger_14 : decode b_NumberReader_readInteger 14 = .ok (.getfield 91, 3) := by decide +kernel
theorem d_NumberReader_readInteger_17 : decode b_NumberReader_readInteger 17 = .ok (.invokevirtual 110, 3) := by decide +kernel
theorem d_NumberReader_readInteger_20 : decode b_NumberReader_readInteger 20 = .ok (.istore_n 3, 1) := by decide +kernel
theorem d_NumberReader_readInteger_21 : decode b_NumberReader_readInteger 21 = .ok (.iload_n 3, 1) := by decide +kernel
theorem d_NumberReader_readInteger_22 : decode b_NumberReader_readInteger 22 = .ok (.invokestatic 125, 3) := by decide +kernel
theorem d_NumberReader_readInteger_25 : decode b_NumberReader_readInteger 25 = .ok (.ifCond .eq 14, 3) := by decide +kernel
theorem d_NumberReader_readInteger_28 : decode b_NumberReader_readInteger 28 = .ok (.aload_n 0, 1) := by decide +kernel
theorem d_NumberReader_readInteger_29 : decode b_NumberReader_readInteger 29 = .ok (.iload_n 3, 1) := by decide +kernel
theorem d_NumberReader_readInteger_30 : decode b_NumberReader_readInteger 30 = .ok (.bipush 48, 2) := by decide +kernel
theorem d_NumberReader_readInteger_32 : decode b_NumberReader_readInteger 32 = .ok (.isub, 1) := by decide +kernel
theorem d_NumberReader_readInteger_33 : decode b_NumberReader_readInteger 33 = .ok (.invokevirtual 129, 3) := by decide +kernel
theorem d_NumberReader_readInteger_36 : decode b_NumberReader_readInteger 36 = .ok (.goto 22, 3) := by decide +kernel
theorem d_NumberReader_readInteger_39 : decode b_NumberReader_readInteger 39 = .ok (.iload_n 2, 1) := by decide +kernel
theorem d_NumberReader_readInteger_40 : decode b_NumberReader_readInteger 40 = .ok (.ifCond .eq 17, 3) := by decide +kernel
theorem d_NumberReader_readInteger_43 : decode b_NumberReader_readInteger 43 = .ok (.iload_n 3, 1) := by decide +kernel
theorem d_NumberReader_readInteger_44 : decode b_NumberReader_readInteger 44 = .ok (.bipush 44, 2) := by decide +kernel
theorem d_NumberReader_readInteger_46 : decode b_NumberReader_readInteger 46 = .ok (.if_icmp .ne 11, 3) := by decide +kernel
theorem d_NumberReader_readInteger_49 : decode b_NumberReader_readInteger 49 = .ok (.aload_n 0, 1) := by decide +kernel
theorem d_NumberReader_readInteger_50 : decode b_NumberReader_readInteger 50 = .ok (.aload_n 1, 1) := by decide +kernel
theorem d_NumberReader_readInteger_51 : decode b_NumberReader_readInteger 51 = .ok (.invokevirtual 133, 3) := by decide +kernel
theorem d_NumberReader_readInteger_54 : decode b_NumberReader_readInteger 54 = .ok (.ifCond .ne 4, 3) := by decide +kernel
theorem d_NumberReader_readInteger_57 : decode b_NumberReader_readInteger 57 = .ok (.return_, 1) := by decide +kernel
theorem d_NumberReader_readInteger_58 : decode b_NumberReader_readInteger 58 = .ok (.aload_n 0, 1) := by decide +kernel
theorem d_NumberReader_readInteger_59 : decode b_NumberReader_readInteger 59 = .ok (.dup, 1) := by decide +kernel
theorem d_NumberReader_readInteger_60 : decode b_NumberReader_readInteger 60 = .ok (.getfield 91, 3) := by decide +kernel
theorem d_NumberReader_readInteger_63 : decode b_NumberReader_readInteger 63 = .ok (.iconst 1, 1) := by decide +kernel
theorem d_NumberReader_readInteger_64 : decode b_NumberReader_readInteger 64 = .ok (.iadd, 1) := by decide +kernel
theorem d_NumberReader_readInteger_65 : decode b_NumberReader_readInteger 65 = .ok (.putfield 91, 3) := by decide +kernel
theorem d_NumberReader_readInteger_68 : decode b_NumberReader_readInteger 68 = .ok (.goto (-68), 3) := by decide +kernel
theorem d_NumberReader_readInteger_71 : decode b_NumberReader_readInteger 71 = .ok (.return_, 1) := by decide +kernel
theorem d_NumberReader_isBetweenDigits_0 : decode b_NumberReader_isBetweenDigits 0 = .ok (.aload_n 0, 1) := by decide +kernel
theorem d_NumberReader_isBetweenDigits_1 : decode b_NumberReader_isBetweenDigits 1 = .ok (.aload_n 1, 1) := by decide +kernel
theorem d_NumberReader_isBetweenDigits_2 : decode b_NumberReader_isBetweenDigits 2 = .ok (.aload_n 0, 1) := by decide +kernel
theorem d_NumberReader_isBetweenDigits_3 : decode b_NumberReader_isBetweenDigits 3 = .ok (.getfield 91, 3) := by decide +kernel
theorem d_NumberReader_isBetweenDigits_6 : decode b_NumberReader_isBetweenDigits 6 = .ok (.iconst 1, 1) := by decide +kernel
theorem d_NumberReader_isBetweenDigits_7 : decode b_NumberReader_isBetweenDigits 7 = .ok (.isub, 1) := by decide +kernel
theorem d_NumberReader_isBetweenDigits_8 : decode b_NumberReader_isBetweenDigits 8 = .ok (.invokevirtual 110, 3) := by decide +kernel
theorem d_NumberReader_isBetweenDigits_11 : decode b_NumberReader_isBetweenDigits 11 = .ok (.invokestatic 125, 3) := by decide +kernel
theorem d_NumberReader_isBetweenDigits_14 : decode b_NumberReader_isBetweenDigits 14 = .ok (.ifCond .eq 24, 3) := by decide +kernel
theorem d_NumberReader_isBetweenDigits_17 : decode b_NumberReader_isBetweenDigits 17 = .ok (.aload_n 0, 1) := by decide +kernel
theorem d_NumberReader_isBetweenDigits_18 : decode b_NumberReader_isBetweenDigits 18 = .ok (.aload_n 1, 1) := by decide +kernel
theorem d_NumberReader_isBetweenDigits_19 : decode b_NumberReader_isBetweenDigits 19 = .ok (.aload_n 0, 1) := by decide +kernel
theorem d_NumberReader_isBetweenDigits_20 : decode b_NumberReader_isBetweenDigits 20 = .ok (.getfield 91, 3) := by decide +kernel
theorem d_NumberReader_isBetweenDigits_23 : decode b_NumberReader_isBetweenDigits 23 = .ok (.iconst 1, 1) := by decide +kernel
theorem d_NumberReader_isBetweenDigits_24 : decode b_NumberReader_isBetweenDigits 24 = .ok (.iadd, 1) := by decide +kernel
theorem d_NumberReader_isBetweenDigits_25 : decode b_NumberReader_isBetweenDigits 25 = .ok (.invokevirtual 110, 3) := by decide +kernel
theorem d_NumberReader_isBetweenDigits_28 : decode b_NumberReader_isBetweenDigits 28 = .ok (.invokestatic 125, 3) := by decide +kernel
theorem d_NumberReader_isBetweenDigits_31 : decode b_NumberReader_isBetweenDigits 31 = .ok (.ifCond .eq 7, 3) := by decide +kernel
theorem d_NumberReader_isBetweenDigits_34 : decode b_NumberReader_isBetweenDigits 34 = .ok (.iconst 1, 1) := by decide +kernel
theorem d_NumberReader_isBetweenDigits_35 : decode b_NumberReader_isBetweenDigits 35 = .ok (.goto 4, 3) := by decide +kernel
theorem d_NumberReader_isBetweenDigits_38 : decode b_NumberReader_isBetweenDigits 38 = .ok (.iconst 0, 1) := by decide +kernel
theorem d_NumberReader_isBetweenDigits_39 : decode b_NumberReader_isBetweenDigits 39 = .ok (.ireturn, 1) := by decide +kernel
theorem d_NumberReader_readFraction_0 : decode b_NumberReader_readFraction 0 = .ok (.aload_n 0, 1) := by decide +kernel
theorem d_NumberReader_readFraction_1 : decode b_NumberReader_readFraction 1 = .ok (.getfield 91, 3) := by decide +kernel
theorem d_NumberReader_readFraction_4 : decode b_NumberReader_readFraction 4 = .ok (.aload_n 0, 1) := by decide +kernel
theorem d_NumberReader_readFraction_5 : decode b_NumberReader_readFraction 5 = .ok (.getfield 15, 3) := by decide +kernel
theorem d_NumberReader_readFraction_8 : decode b_NumberReader_readFraction 8 = .ok (.if_icmp .ge 57, 3) := by decide +kernel
theorem d_NumberReader_readFraction_11 : decode b_NumberReader_readFraction 11 = .ok (.aload_n 0, 1) := by decide +kernel
theorem d_NumberReader_readFraction_12 : decode b_NumberReader_readFraction 12 = .ok (.aload_n 1, 1) := by decide +kernel
theorem d_NumberReader_readFraction_13 : decode b_NumberReader_readFraction 13 = .ok (.aload_n 0, 1) := by decide +kernel
theorem d_NumberReader_readFraction_14 : decode b_NumberReader_readFraction 14 = .ok (.getfield 91, 3) := by decide +kernel
theorem d_NumberReader_readFraction_17 : decode b_NumberReader_readFraction 17 = .ok (.invokevirtual 110, 3) := by decide +kernel
theorem d_NumberReader_readFraction_20 : decode b_NumberReader_readFraction 20 = .ok (.invokestatic 125, 3) := by decide +kernel
theorem d_NumberReader_readFraction_23 : decode b_NumberReader_readFraction 23 = .ok (.ifCond .eq 42, 3) := by decide +kernel
theorem d_NumberReader_readFraction_26 : decode b_NumberReader_readFraction 26 = .ok (.aload_n 0, 1) := by decide +kernel
theorem d_NumberReader_readFraction_27 : decode b_NumberReader_readFraction 27 = .ok (.aload_n 0, 1) := by decide +kernel
theorem d_NumberReader_readFraction_28 : decode b_NumberReader_readFraction 28 = .ok (.aload_n 1, 1) := by decide +kernel
theorem d_NumberReader_readFraction_29 : decode b_NumberReader_readFraction 29 = .ok (.aload_n 0, 1) := by decide +kernel
theorem d_NumberReader_readFraction_30 : decode b_NumberReader_readFraction 30 = .ok (.getfield 91, 3) := by decide +kernel
theorem d_NumberReader_readFraction_33 : decode b_NumberReader_readFraction 33 = .ok (.invokevirtual 110, 3) := by decide +kernel
theorem d_NumberReader_readFraction_36 : decode b_NumberReader_readFraction 36 = .ok (.bipush 48, 2) := by decide +kernel
theorem d_NumberReader_readFraction_38 : decode b_NumberReader_readFraction 38 = .ok (.isub, 1) := by decide +kernel
theorem d_NumberReader_readFraction_39 : decode b_NumberReader_readFraction 39 = .ok (.invokevirtual 129, 3) := by decide +kernel
theorem d_NumberReader_readFraction_42 : decode b_NumberReader_readFraction 42 = .ok (.aload_n 0, 1) := by decide +kernel
theorem d_NumberReader_readFraction_43 : decode b_NumberReader_readFraction 43 = .ok (.dup, 1) := by decide +kernel
theorem d_NumberReader_readFraction_44 : decode b_NumberReader_readFraction 44 = .ok (.getfield 33, 3) := by decide +kernel
theorem d_NumberReader_readFraction_47 : decode b_NumberReader_readFraction 47 = .ok (.iconst 1, 1) := by decide +kernel
theorem d_NumberReader_readFraction_48 : decode b_NumberReader_readFraction 48 = .ok (.iadd, 1) := by decide +kernel
theorem d_NumberReader_readFraction_49 : decode b_NumberReader_readFraction 49 = .ok (.putfield 33, 3) := by decide +kernel
theorem d_NumberReader_readFraction_52 : decode b_NumberReader_readFraction 52 = .ok (.aload_n 0, 1) := by decide +kernel
theorem d_NumberReader_readFraction_53 : decode b_NumberReader_readFraction 53 = .ok (.dup, 1) := by decide +kernel
theorem d_NumberReader_readFraction_54 : decode b_NumberReader_readFraction 54 = .ok (.getfield 91, 3) := by decide +kernel
theorem d_NumberReader_readFraction_57 : decode b_NumberReader_readFraction 57 = .ok (.iconst 1, 1) := by decide +kernel
theorem d_NumberReader_readFraction_58 : decode b_NumberReader_readFraction 58 = .ok (.iadd, 1) := by decide +kernel
theorem d_NumberReader_readFraction_59 : decode b_NumberReader_readFraction 59 = .ok (.putfield 91, 3) := by decide +kernel
theorem d_NumberReader_readFraction_62 : decode b_NumberReader_readFraction 62 = .ok (.goto (-62), 3) := by decide +kernel
theorem d_NumberReader_readFraction_65 : decode b_NumberReader_readFraction 65 = .ok (.return_, 1) := by decide +kernel
theorem d_NumberReader_takeDigit_0 : decode b_NumberReader_takeDigit 0 = .ok (.aload_n 0, 1) := by decide +kernel
theorem d_NumberReader_takeDigit_1 : decode b_NumberReader_takeDigit 1 = .ok (.dup, 1) := by decide +kernel
theorem d_NumberReader_takeDigit_2 : decode b_NumberReader_takeDigit 2 = .ok (.getfield 94, 3) := by decide +kernel
theorem d_NumberReader_takeDigit_5 : decode b_NumberReader_takeDigit 5 = .ok (.iconst 1, 1) := by decide +kernel
theorem d_NumberReader_takeDigit_6 : decode b_NumberReader_takeDigit 6 = .ok (.iadd, 1) := by decide +kernel
theorem d_NumberReader_takeDigit_7 : decode b_NumberReader_takeDigit 7 = .ok (.putfield 94, 3) := by decide +kernel
theorem d_NumberReader_takeDigit_10 : decode b_NumberReader_takeDigit 10 = .ok (.iload_n 1, 1) := by decide +kernel
theorem d_NumberReader_takeDigit_11 : decode b_NumberReader_takeDigit 11 = .ok (.ifCond .ne 21, 3) := by decide +kernel
theorem d_NumberReader_takeDigit_14 : decode b_NumberReader_takeDigit 14 = .ok (.aload_n 0, 1) := by decide +kernel
theorem d_NumberReader_takeDigit_15 : decode b_NumberReader_takeDigit 15 = .ok (.getfield 68, 3) := by decide +kernel
theorem d_NumberReader_takeDigit_18 : decode b_NumberReader_takeDigit 18 = .ok (.ifCond .le 13, 3) := by decide +kernel
theorem d_NumberReader_takeDigit_21 : decode b_NumberReader_takeDigit 21 = .ok (.aload_n 0, 1) := by decide +kernel
theorem d_NumberReader_takeDigit_22 : decode b_NumberReader_takeDigit 22 = .ok (.dup, 1) := by decide +kernel
theorem d_NumberReader_takeDigit_23 : decode b_NumberReader_takeDigit 23 = .ok (.getfield 36, 3) := by decide +kernel
theorem d_NumberReader_takeDigit_26 : decode b_NumberReader_takeDigit 26 = .ok (.iconst 1, 1) := by decide +kernel
theorem d_NumberReader_takeDigit_27 : decode b_NumberReader_takeDigit 27 = .ok (.iadd, 1) := by decide +kernel
theorem d_NumberReader_takeDigit_28 : decode b_NumberReader_takeDigit 28 = .ok (.putfield 36, 3) := by decide +kernel
theorem d_NumberReader_takeDigit_31 : decode b_NumberReader_takeDigit 31 = .ok (.return_, 1) := by decide +kernel
theorem d_NumberReader_takeDigit_32 : decode b_NumberReader_takeDigit 32 = .ok (.aload_n 0, 1) := by decide +kernel
theorem d_NumberReader_takeDigit_33 : decode b_NumberReader_takeDigit 33 = .ok (.aload_n 0, 1) := by decide +kernel
theorem d_NumberReader_takeDigit_34 : decode b_NumberReader_takeDigit 34 = .ok (.getfield 68, 3) := by decide +kernel
theorem d_NumberReader_takeDigit_37 : decode b_NumberReader_takeDigit 37 = .ok (.aload_n 0, 1) := by decide +kernel
theorem d_NumberReader_takeDigit_38 : decode b_NumberReader_takeDigit 38 = .ok (.getfield 36, 3) := by decide +kernel
theorem d_NumberReader_takeDigit_41 : decode b_NumberReader_takeDigit 41 = .ok (.iadd, 1) := by decide +kernel
theorem d_NumberReader_takeDigit_42 : decode b_NumberReader_takeDigit 42 = .ok (.iconst 1, 1) := by decide +kernel
theorem d_NumberReader_takeDigit_43 : decode b_NumberReader_takeDigit 43 = .ok (.iadd, 1) := by decide +kernel
theorem d_NumberReader_takeDigit_44 : decode b_NumberReader_takeDigit 44 = .ok (.putfield 68, 3) := by decide +kernel
theorem d_NumberReader_takeDigit_47 : decode b_NumberReader_takeDigit 47 = .ok (.aload_n 0, 1) := by decide +kernel
theorem d_NumberReader_takeDigit_48 : decode b_NumberReader_takeDigit 48 = .ok (.getfield 68, 3) := by decide +kernel
theorem d_NumberReader_takeDigit_51 : decode b_NumberReader_takeDigit 51 = .ok (.bipush 17, 2) := by decide +kernel
theorem d_NumberReader_takeDigit_53 : decode b_NumberReader_takeDigit 53 = .ok (.if_icmp .gt 24, 3) := by decide +kernel
theorem d_NumberReader_takeDigit_56 : decode b_NumberReader_takeDigit 56 = .ok (.aload_n 0, 1) := by decide +kernel
theorem d_NumberReader_takeDigit_57 : decode b_NumberReader_takeDigit 57 = .ok (.aload_n 0, 1) := by decide +kernel
theorem d_NumberReader_takeDigit_58 : decode b_NumberReader_takeDigit 58 = .ok (.getfield 29, 3) := by decide +kernel
theorem d_NumberReader_takeDigit_61 : decode b_NumberReader_takeDigit 61 = .ok (.aload_n 0, 1) := by decide +kernel
theorem d_NumberReader_takeDigit_62 : decode b_NumberReader_takeDigit 62 = .ok (.getfield 36, 3) := by decide +kernel
theorem d_NumberReader_takeDigit_65 : decode b_NumberReader_takeDigit 65 = .ok (.iconst 1, 1) := by decide +kernel
theorem d_NumberReader_takeDigit_66 : decode b_NumberReader_takeDigit 66 = .ok (.iadd, 1) := by decide +kernel
theorem d_NumberReader_takeDigit_67 : decode b_NumberReader_takeDigit 67 = .ok (.invokestatic 136, 3) := by decide +kernel
theorem d_NumberReader_takeDigit_70 : decode b_NumberReader_takeDigit 70 = .ok (.lmul, 1) := by decide +kernel
theorem d_NumberReader_takeDigit_71 : decode b_NumberReader_takeDigit 71 = .ok (.iload_n 1, 1) := by decide +kernel
theorem d_NumberReader_takeDigit_72 : decode b_NumberReader_takeDigit 72 = .ok (.i2l, 1) := by decide +kernel
theorem d_NumberReader_takeDigit_73 : decode b_NumberReader_takeDigit 73 = .ok (.ladd, 1) := by decide +kernel
theorem d_NumberReader_takeDigit_74 : decode b_NumberReader_takeDigit 74 = .ok (.putfield 29, 3) := by decide +kernel
theorem d_NumberReader_takeDigit_77 : decode b_NumberReader_takeDigit 77 = .ok (.aload_n 0, 1) := by decide +kernel
theorem d_NumberReader_takeDigit_78 : decode b_NumberReader_takeDigit 78 = .ok (.iconst 0, 1) := by decide +kernel
theorem d_NumberReader_takeDigit_79 : decode b_NumberReader_takeDigit 79 = .ok (.putfield 36, 3) := by decide +kernel
theorem d_NumberReader_takeDigit_82 : decode b_NumberReader_takeDigit 82 = .ok (.return_, 1) := by decide +kernel
theorem d_NumberReader_readExponent_0 : decode b_NumberReader_readExponent 0 = .ok (.aload_n 0, 1) := by decide +kernel
theorem d_NumberReader_readExponent_1 : decode b_NumberReader_readExponent 1 = .ok (.aload_n 1, 1) := by decide +kernel
theorem d_NumberReader_readExponent_2 : decode b_NumberReader_readExponent 2 = .ok (.aload_n 0, 1) := by decide +kernel
theorem d_NumberReader_readExponent_3 : decode b_NumberReader_readExponent 3 = .ok (.getfield 91, 3) := by decide +kernel
theorem d_NumberReader_readExponent_6 : decode b_NumberReader_readExponent 6 = .ok (.invokevirtual 110, 3) := by decide +kernel
theorem d_NumberReader_readExponent_9 : decode b_NumberReader_readExponent 9 = .ok (.bipush 69, 2) := by decide +kernel
theorem d_NumberReader_readExponent_11 : decode b_NumberReader_readExponent 11 = .ok (.if_icmp .eq 5, 3) := by decide +kernel
theorem d_NumberReader_readExponent_14 : decode b_NumberReader_readExponent 14 = .ok (.iconst 0, 1) := by decide +kernel
theorem d_NumberReader_readExponent_15 : decode b_NumberReader_readExponent 15 = .ok (.ireturn, 1) := by decide +kernel
theorem d_NumberReader_readExponent_16 : decode b_NumberReader_readExponent 16 = .ok (.aload_n 0, 1) := by decide +kernel
theorem d_NumberReader_readExponent_17 : decode b_NumberReader_readExponent 17 = .ok (.dup, 1) := by decide +kernel
theorem d_NumberReader_readExponent_18 : decode b_NumberReader_readExponent 18 = .ok (.getfield 91, 3) := by decide +kernel
theorem d_NumberReader_readExponent_21 : decode b_NumberReader_readExponent 21 = .ok (.iconst 1, 1) := by decide +kernel
theorem d_NumberReader_readExponent_22 : decode b_NumberReader_readExponent 22 = .ok (.iadd, 1) := by decide +kernel
theorem d_NumberReader_readExponent_23 : decode b_NumberReader_readExponent 23 = .ok (.putfield 91, 3) := by decide +kernel
theorem d_NumberReader_readExponent_26 : decode b_NumberReader_readExponent 26 = .ok (.aload_n 0, 1) := by decide +kernel
theorem d_NumberReader_readExponent_27 : decode b_NumberReader_readExponent 27 = .ok (.aload_n 1, 1) := by decide +kernel
theorem d_NumberReader_readExponent_28 : decode b_NumberReader_readExponent 28 = .ok (.aload_n 0, 1) := by decide +kernel
theorem d_NumberReader_readExponent_29 : decode b_NumberReader_readExponent 29 = .ok (.getfield 91, 3) := by decide +kernel
theorem d_NumberReader_readExponent_32 : decode b_NumberReader_readExponent 32 = .ok (.invokevirtual 110, 3) := by decide +kernel
theorem d_NumberReader_readExponent_35 : decode b_NumberReader_readExponent 35 = .ok (.bipush 45, 2) := by decide +kernel
theorem d_NumberReader_readExponent_37 : decode b_NumberReader_readExponent 37 = .ok (.if_icmp .ne 7, 3) := by decide +kernel
theorem d_NumberReader_readExponent_40 : decode b_NumberReader_readExponent 40 = .ok (.iconst 1, 1) := by decide +kernel
theorem d_NumberReader_readExponent_41 : decode b_NumberReader_readExponent 41 = .ok (.goto 4, 3) := by decide +kernel
theorem d_NumberReader_readExponent_44 : decode b_NumberReader_readExponent 44 = .ok (.iconst 0, 1) := by decide +kernel
theorem d_NumberReader_readExponent_45 : decode b_NumberReader_readExponent 45 = .ok (.istore_n 2, 1) := by decide +kernel
theorem d_NumberReader_readExponent_46 : decode b_NumberReader_readExponent 46 = .ok (.iload_n 2, 1) := by decide +kernel
theorem d_NumberReader_readExponent_47 : decode b_NumberReader_readExponent 47 = .ok (.ifCond .eq 13, 3) := by decide +kernel
theorem d_NumberReader_readExponent_50 : decode b_NumberReader_readExponent 50 = .ok (.aload_n 0, 1) := by decide +kernel
theorem d_NumberReader_readExponent_51 : decode b_NumberReader_readExponent 51 = .ok (.dup, 1) := by decide +kernel
theorem d_NumberReader_readExponent_52 : decode b_NumberReader_readExponent 52 = .ok (.getfield 91, 3) := by decide +kernel
theorem d_NumberReader_readExponent_55 : decode b_NumberReader_readExponent 55 = .ok (.iconst 1, 1) := by decide +kernel
theorem d_NumberReader_readExponent_56 : decode b_NumberReader_readExponent 56 = .ok (.iadd, 1) := by decide +kernel
theorem d_NumberReader_readExponent_57 : decode b_NumberReader_readExponent 57 = .ok (.putfield 91, 3) := by decide +kernel
theorem d_NumberReader_readExponent_60 : decode b_NumberReader_readExponent 60 = .ok (.iconst 0, 1) := by decide +kernel
theorem d_NumberReader_readExponent_61 : decode b_NumberReader_readExponent 61 = .ok (.istore_n 3, 1) := by decide +kernel
theorem d_NumberReader_readExponent_62 : decode b_NumberReader_readExponent 62 = .ok (.iconst 0, 1) := by decide +kernel
theorem d_NumberReader_readExponent_63 : decode b_NumberReader_readExponent 63 = .ok (.istore 4, 2) := by decide +kernel
theorem d_NumberReader_readExponent_65 : decode b_NumberReader_readExponent 65 = .ok (.iload 4, 2) := by decide +kernel
theorem d_NumberReader_readExponent_67 : decode b_NumberReader_readExponent 67 = .ok (.iconst 3, 1) := by decide +kernel
theorem d_NumberReader_readExponent_68 : decode b_NumberReader_readExponent 68 = .ok (.if_icmp .ge 52, 3) := by decide +kernel
theorem d_NumberReader_readExponent_71 : decode b_NumberReader_readExponent 71 = .ok (.aload_n 0, 1) := by decide +kernel
theorem d_NumberReader_readExponent_72 : decode b_NumberReader_readExponent 72 = .ok (.aload_n 1, 1) := by decide +kernel
theorem d_NumberReader_readExponent_73 : decode b_NumberReader_readExponent 73 = .ok (.aload_n 0, 1) := by decide +kernel
theorem d_NumberReader_readExponent_74 : decode b_NumberReader_readExponent 74 = .ok (.getfield 91, 3) := by decide +kernel
theorem d_NumberReader_readExponent_77 : decode b_NumberReader_readExponent 77 = .ok (.invokevirtual 110, 3) := by decide +kernel
theorem d_NumberReader_readExponent_80 : decode b_NumberReader_readExponent 80 = .ok (.invokestatic 125, 3) := by decide +kernel
theorem d_NumberReader_readExponent_83 : decode b_NumberReader_readExponent 83 = .ok (.ifCond .eq 37, 3) := by decide +kernel
theorem d_NumberReader_readExponent_86 : decode b_NumberReader_readExponent 86 = .ok (.iload_n 3, 1) := by decide +kernel
theorem d_NumberReader_readExponent_87 : decode b_NumberReader_readExponent 87 = .ok (.bipush 10, 2) := by decide +kernel
theorem d_NumberReader_readExponent_89 : decode b_NumberReader_readExponent 89 = .ok (.imul, 1) := by decide +kernel
theorem d_NumberReader_readExponent_90 : decode b_NumberReader_readExponent 90 = .ok (.aload_n 0, 1) := by decide +kernel
theorem d_NumberReader_readExponent_91 : decode b_NumberReader_readExponent 91 = .ok (.aload_n 1, 1) := by decide +kernel
theorem d_NumberReader_readExponent_92 : decode b_NumberReader_readExponent 92 = .ok (.aload_n 0, 1) := by decide +kernel
theorem d_NumberReader_readExponent_93 : decode b_NumberReader_readExponent 93 = .ok (.getfield 91, 3) := by decide +kernel
theorem d_NumberReader_readExponent_96 : decode b_NumberReader_readExponent 96 = .ok (.invokevirtual 110, 3) := by decide +kernel
theorem d_NumberReader_readExponent_99 : decode b_NumberReader_readExponent 99 = .ok (.iadd, 1) := by decide +kernel
theorem d_NumberReader_readExponent_100 : decode b_NumberReader_readExponent 100 = .ok (.bipush 48, 2) := by decide +kernel
theorem d_NumberReader_readExponent_102 : decode b_NumberReader_readExponent 102 = .ok (.isub, 1) := by decide +kernel
theorem d_NumberReader_readExponent_103 : decode b_NumberReader_readExponent 103 = .ok (.istore_n 3, 1) := by decide +kernel
theorem d_NumberReader_readExponent_104 : decode b_NumberReader_readExponent 104 = .ok (.iinc 4 1, 3) := by decide +kernel
theorem d_NumberReader_readExponent_107 : decode b_NumberReader_readExponent 107 = .ok (.aload_n 0, 1) := by decide +kernel
theorem d_NumberReader_readExponent_108 : decode b_NumberReader_readExponent 108 = .ok (.dup, 1) := by decide +kernel
theorem d_NumberReader_readExponent_109 : decode b_NumberReader_readExponent 109 = .ok (.getfield 91, 3) := by decide +kernel
theorem d_NumberReader_readExponent_112 : decode b_NumberReader_readExponent 112 = .ok (.iconst 1, 1) := by decide +kernel
theorem d_NumberReader_readExponent_113 : decode b_NumberReader_readExponent 113 = .ok (.iadd, 1) := by decide +kernel
theorem d_NumberReader_readExponent_114 : decode b_NumberReader_readExponent 114 = .ok (.putfield 91, 3) := by decide +kernel
theorem d_NumberReader_readExponent_117 : decode b_NumberReader_readExponent 117 = .ok (.goto (-52), 3) := by decide +kernel
theorem d_NumberReader_readExponent_120 : decode b_NumberReader_readExponent 120 = .ok (.aload_n 0, 1) := by decide +kernel
theorem d_NumberReader_readExponent_121 : decode b_NumberReader_readExponent 121 = .ok (.iload_n 2, 1) := by decide +kernel
theorem d_NumberReader_readExponent_122 : decode b_NumberReader_readExponent 122 = .ok (.ifCond .eq 8, 3) := by decide +kernel
theorem d_NumberReader_readExponent_125 : decode b_NumberReader_readExponent 125 = .ok (.iload_n 3, 1) := by decide +kernel
theorem d_NumberReader_readExponent_126 : decode b_NumberReader_readExponent 126 = .ok (.ineg, 1) := by decide +kernel
theorem d_NumberReader_readExponent_127 : decode b_NumberReader_readExponent 127 = .ok (.goto 4, 3) := by decide +kernel
theorem d_NumberReader_readExponent_130 : decode b_NumberReader_readExponent 130 = .ok (.iload_n 3, 1) := by decide +kernel
theorem d_NumberReader_readExponent_131 : decode b_NumberReader_readExponent 131 = .ok (.putfield 39, 3) := by decide +kernel
theorem d_NumberReader_readExponent_134 : decode b_NumberReader_readExponent 134 = .ok (.iload 4, 2) := by decide +kernel
theorem d_NumberReader_readExponent_136 : decode b_NumberReader_readExponent 136 = .ok (.ifCond .le 7, 3) := by decide +kernel
theorem d_NumberReader_readExponent_139 : decode b_NumberReader_readExponent 139 = .ok (.iconst 1, 1) := by decide +kernel
theorem d_NumberReader_readExponent_140 : decode b_NumberReader_readExponent 140 = .ok (.goto 4, 3) := by decide +kernel
theorem d_NumberReader_readExponent_143 : decode b_NumberReader_readExponent 143 = .ok (.iconst 0, 1) := by decide +kernel
theorem d_NumberReader_readExponent_144 : decode b_NumberReader_readExponent 144 = .ok (.ireturn, 1) := by decide +kernel
theorem d_Deci_init_0 : decode b_Deci_init 0 = .ok (.aload_n 0, 1) := by decide +kernel
theorem d_Deci_init_1 : decode b_Deci_init 1 = .ok (.invokespecial 1, 3) := by decide +kernel
theorem d_Deci_init_4 : decode b_Deci_init 4 = .ok (.aload_n 0, 1) := by decide +kernel
theorem d_Deci_init_5 : decode b_Deci_init 5 = .ok (.new 7, 3) := by decide +kernel
theorem d_Deci_init_8 : decode b_Deci_init 8 = .ok (.dup, 1) := by decide +kernel
theorem d_Deci_init_9 : decode b_Deci_init 9 = .ok (.invokespecial 9, 3) := by decide +kernel
theorem d_Deci_init_12 : decode b_Deci_init 12 = .ok (.putfield 10, 3) := by decide +kernel
theorem d_Deci_init_15 : decode b_Deci_init 15 = .ok (.aload_n 0, 1) := by decide +kernel
theorem d_Deci_init_16 : decode b_Deci_init 16 = .ok (.new 7, 3) := by decide +kernel
theorem d_Deci_init_19 : decode b_Deci_init 19 = .ok (.dup, 1) := by decide +kernel
theorem d_Deci_init_20 : decode b_Deci_init 20 = .ok (.invokespecial 9, 3) := by decide +kernel
theorem d_Deci_init_23 : decode b_Deci_init 23 = .ok (.putfield 16, 3) := by decide +kernel
theorem d_Deci_init_26 : decode b_Deci_init 26 = .ok (.aload_n 0, 1) := by decide +kernel
theorem d_Deci_init_27 : decode b_Deci_init 27 = .ok (.new 19, 3) := by decide +kernel
theorem d_Deci_init_30 : decode b_Deci_init 30 = .ok (.dup, 1) := by decide +kernel
theorem d_Deci_init_31 : decode b_Deci_init 31 = .ok (.invokespecial 21, 3) := by decide +kernel
theorem d_Deci_init_34 : decode b_Deci_init 34 = .ok (.putfield 22, 3) := by decide +kernel
theorem d_Deci_init_37 : decode b_Deci_init 37 = .ok (.aload_n 0, 1) := by decide +kernel
theorem d_Deci_init_38 : decode b_Deci_init 38 = .ok (.new 26, 3) := by decide +kernel
theorem d_Deci_init_41 : decode b_Deci_init 41 = .ok (.dup, 1) := by decide +kernel
theorem d_Deci_init_42 : decode b_Deci_init 42 = .ok (.invokespecial 28, 3) := by decide +kernel
theorem d_Deci_init_45 : decode b_Deci_init 45 = .ok (.putfield 29, 3) := by decide +kernel
theorem d_Deci_init_48 : decode b_Deci_init 48 = .ok (.aload_n 0, 1) := by decide +kernel
theorem d_Deci_init_49 : decode b_Deci_init 49 = .ok (.new 33, 3) := by decide +kernel
theorem d_Deci_init_52 : decode b_Deci_init 52 = .ok (.dup, 1) := by decide +kernel
theorem d_Deci_init_53 : decode b_Deci_init 53 = .ok (.invokespecial 35, 3) := by decide +kernel
theorem d_Deci_init_56 : decode b_Deci_init 56 = .ok (.putfield 36, 3) := by decide +kernel
theorem d_Deci_init_59 : decode b_Deci_init 59 = .ok (.aload_n 0, 1) := by decide +kernel
theorem d_Deci_init_60 : decode b_Deci_init 60 = .ok (.new 40, 3) := by decide +kernel
theorem d_Deci_init_63 : decode b_Deci_init 63 = .ok (.dup, 1) := by decide +kernel
theorem d_Deci_init_64 : decode b_Deci_init 64 = .ok (.invokespecial 42, 3) := by decide +kernel
theorem d_Deci_init_67 : decode b_Deci_init 67 = .ok (.putfield 43, 3) := by decide +kernel
theorem d_Deci_init_70 : decode b_Deci_init 70 = .ok (.aload_n 0, 1) := by decide +kernel
theorem d_Deci_init_71 : decode b_Deci_init 71 = .ok (.new 47, 3) := by decide +kernel
theorem d_Deci_init_74 : decode b_Deci_init 74 = .ok (.dup, 1) := by decide +kernel
theorem d_Deci_init_75 : decode b_Deci_init 75 = .ok (.invokespecial 49, 3) := by decide +kernel
theorem d_Deci_init_78 : decode b_Deci_init 78 = .ok (.putfield 50, 3) := by decide +kernel
theorem d_Deci_init_81 : decode b_Deci_init 81 = .ok (.aload_n 0, 1) := by decide +kernel
theorem d_Deci_init_82 : decode b_Deci_init 82 = .ok (.new 47, 3) := by decide +kernel
theorem d_Deci_init_85 : decode b_Deci_init 85 = .ok (.dup, 1) := by decide +kernel
theorem d_Deci_init_86 : decode b_Deci_init 86 = .ok (.invokespecial 49, 3) := by decide +kernel
theorem d_Deci_init_89 : decode b_Deci_init 89 = .ok (.putfield 54, 3) := by decide +kernel
theorem d_Deci_init_92 : decode b_Deci_init 92 = .ok (.aload_n 0, 1) := by decide +kernel
theorem d_Deci_init_93 : decode b_Deci_init 93 = .ok (.iconst 0, 1) := by decide +kernel
theorem d_Deci_init_94 : decode b_Deci_init 94 = .ok (.putfield 57, 3) := by decide +kernel
theorem d_Deci_init_97 : decode b_Deci_init 97 = .ok (.aload_n 0, 1) := by decide +kernel
theorem d_Deci_init_98 : decode b_Deci_init 98 = .ok (.bipush 6, 2) := by decide +kernel
theorem d_Deci_init_100 : decode b_Deci_init 100 = .ok (.putfield 61, 3) := by decide +kernel
theorem d_Deci_init_103 : decode b_Deci_init 103 = .ok (.aload_n 0, 1) := by decide +kernel
theorem d_Deci_init_104 : decode b_Deci_init 104 = .ok (.lconst 0, 1) := by decide +kernel
theorem d_Deci_init_105 : decode b_Deci_init 105 = .ok (.putfield 65, 3) := by decide +kernel
theorem d_Deci_init_108 : decode b_Deci_init 108 = .ok (.aload_n 0, 1) := by decide +kernel
theorem d_Deci_init_109 : decode b_Deci_init 109 = .ok (.iconst 0, 1) := by decide +kernel
theorem d_Deci_init_110 : decode b_Deci_init 110 = .ok (.putfield 69, 3) := by decide +kernel
theorem d_Deci_init_113 : decode b_Deci_init 113 = .ok (.return_, 1) := by decide +kernel
theorem d_Deci_type_0 : decode b_Deci_type 0 = .ok (.iload_n 1, 1) := by decide +kernel
theorem d_Deci_type_1 : decode b_Deci_type 1 = .ok (.bipush 32, 2) := by decide +kernel
theorem d_Deci_type_3 : decode b_Deci_type 3 = .ok (.if_icmp .lt 9, 3) := by decide +kernel
theorem d_Deci_type_6 : decode b_Deci_type 6 = .ok (.iload_n 1, 1) := by decide +kernel
theorem d_Deci_type_7 : decode b_Deci_type 7 = .ok (.bipush 126, 2) := by decide +kernel
theorem d_Deci_type_9 : decode b_Deci_type 9 = .ok (.if_icmp .le 5, 3) := by decide +kernel
theorem d_Deci_type_12 : decode b_Deci_type 12 = .ok (.iconst 0, 1) := by decide +kernel
theorem d_Deci_type_13 : decode b_Deci_type 13 = .ok (.ireturn, 1) := by decide +kernel
theorem d_Deci_type_14 : decode b_Deci_type 14 = .ok (.aload_n 0, 1) := by decide +kernel
theorem d_Deci_type_15 : decode b_Deci_type 15 = .ok (.getfield 10, 3) := by decide +kernel
theorem d_Deci_type_18 : decode b_Deci_type 18 = .ok (.iload_n 1, 1) := by decide +kernel
theorem d_Deci_type_19 : decode b_Deci_type 19 = .ok (.invokevirtual 72, 3) := by decide +kernel
theorem d_Deci_type_22 : decode b_Deci_type 22 = .ok (.ireturn, 1) := by decide +kernel
theorem d_Deci_wipe_0 : decode b_Deci_wipe 0 = .ok (.aload_n 0, 1) := by decide +kernel
theorem d_Deci_wipe_1 : decode b_Deci_wipe 1 = .ok (.getfield 10, 3) := by decide +kernel
theorem d_Deci_wipe_4 : decode b_Deci_wipe 4 = .ok (.invokevirtual 76, 3) := by decide +kernel
theorem d_Deci_wipe_7 : decode b_Deci_wipe 7 = .ok (.return_, 1) := by decide +kernel
theorem d_Deci_length_0 : decode b_Deci_length 0 = .ok (.aload_n 0, 1) := by decide +kernel
theorem d_Deci_length_1 : decode b_Deci_length 1 = .ok (.getfield 10, 3) := by decide +kernel
theorem d_Deci_length_4 : decode b_Deci_length 4 = .ok (.invokevirtual 79, 3) := by decide +kernel
theorem d_Deci_length_7 : decode b_Deci_length 7 = .ok (.ireturn, 1) := by decide +kernel
theorem d_Deci_apply_0 : decode b_Deci_apply 0 = .ok (.aload_n 0, 1) := by decide +kernel
theorem d_Deci_apply_1 : decode b_Deci_apply 1 = .ok (.getfield 22, 3) := by decide +kernel
theorem d_Deci_apply_4 : decode b_Deci_apply 4 = .ok (.aload_n 0, 1) := by decide +kernel
theorem d_Deci_apply_5 : decode b_Deci_apply 5 = .ok (.getfield 10, 3) := by decide +kernel
theorem d_Deci_apply_8 : decode b_Deci_apply 8 = .ok (.aload_n 0, 1) := by decide +kernel
theorem d_Deci_apply_9 : decode b_Deci_apply 9 = .ok (.getfield 54, 3) := by decide +kernel
theorem d_Deci_apply_12 : decode b_Deci_apply 12 = .ok (.invokevirtual 83, 3) := by decide +kernel
theorem d_Deci_apply_15 : decode b_Deci_apply 15 = .ok (.istore_n 1, 1) := by decide +kernel
theorem d_Deci_apply_16 : decode b_Deci_apply 16 = .ok (.iload_n 1, 1) := by decide +kernel
theorem d_Deci_apply_17 : decode b_Deci_apply 17 = .ok (.iconst (-1), 1) := by decide +kernel
theorem d_Deci_apply_18 : decode b_Deci_apply 18 = .ok (.if_icmp .eq 5, 3) := by decide +kernel
theorem d_Deci_apply_21 : decode b_Deci_apply 21 = .ok (.iload_n 1, 1) := by decide +kernel
theorem d_Deci_apply_22 : decode b_Deci_apply 22 = .ok (.ireturn, 1) := by decide +kernel
theorem d_Deci_apply_23 : decode b_Deci_apply 23 = .ok (.aload_n 0, 1) := by decide +kernel
theorem d_Deci_apply_24 : decode b_Deci_apply 24 = .ok (.getfield 10, 3) := by decide +kernel
theorem d_Deci_apply_27 : decode b_Deci_apply 27 = .ok (.invokevirtual 79, 3) := by decide +kernel
theorem d_Deci_apply_30 : decode b_Deci_apply 30 = .ok (.bipush 40, 2) := by decide +kernel
theorem d_Deci_apply_32 : decode b_Deci_apply 32 = .ok (.if_icmp .le 6, 3) := by decide +kernel
theorem d_Deci_apply_35 : decode b_Deci_apply 35 = .ok (.bipush 40, 2) := by decide +kernel
theorem d_Deci_apply_37 : decode b_Deci_apply 37 = .ok (.ireturn, 1) := by decide +kernel
theorem d_Deci_apply_38 : decode b_Deci_apply 38 = .ok (.aload_n 0, 1) := by decide +kernel
theorem d_Deci_apply_39 : decode b_Deci_apply 39 = .ok (.getfield 54, 3) := by decide +kernel
theorem d_Deci_apply_42 : decode b_Deci_apply 42 = .ok (.invokevirtual 87, 3) := by decide +kernel
theorem d_Deci_apply_45 : decode b_Deci_apply 45 = .ok (.aload_n 0, 1) := by decide +kernel
theorem d_Deci_apply_46 : decode b_Deci_apply 46 = .ok (.getfield 50, 3) := by decide +kernel
theorem d_Deci_apply_49 : decode b_Deci_apply 49 = .ok (.astore_n 2, 1) := by decide +kernel
theorem d_Deci_apply_50 : decode b_Deci_apply 50 = .ok (.aload_n 0, 1) := by decide +kernel
theorem d_Deci_apply_51 : decode b_Deci_apply 51 = .ok (.aload_n 0, 1) := by decide +kernel
theorem d_Deci_apply_52 : decode b_Deci_apply 52 = .ok (.getfield 54, 3) := by decide +kernel
theorem d_Deci_apply_55 : decode b_Deci_apply 55 = .ok (.putfield 50, 3) := by decide +kernel
theorem d_Deci_apply_58 : decode b_Deci_apply 58 = .ok (.aload_n 0, 1) := by decide +kernel
theorem d_Deci_apply_59 : decode b_Deci_apply 59 = .ok (.aload_n 2, 1) := by decide +kernel
theorem d_Deci_apply_60 : decode b_Deci_apply 60 = .ok (.putfield 54, 3) := by decide +kernel
theorem d_Deci_apply_63 : decode b_Deci_apply 63 = .ok (.aload_n 0, 1) := by decide +kernel
theorem d_Deci_apply_64 : decode b_Deci_apply 64 = .ok (.iconst 1, 1) := by decide +kernel
theorem d_Deci_apply_65 : decode b_Deci_apply 65 = .ok (.putfield 57, 3) := by decide +kernel
theorem d_Deci_apply_68 : decode b_Deci_apply 68 = .ok (.iconst (-1), 1) := by decide +kernel
theorem d_Deci_apply_69 : decode b_Deci_apply 69 = .ok (.ireturn, 1) := by decide +kernel
theorem d_Deci_mode_0 : decode b_Deci_mode 0 = .ok (.iload_n 1, 1) := by decide +kernel
theorem d_Deci_mode_1 : decode b_Deci_mode 1 = .ok (.ifCond .lt 9, 3) := by decide +kernel
theorem d_Deci_mode_4 : decode b_Deci_mode 4 = .ok (.iload_n 1, 1) := by decide +kernel
theorem d_Deci_mode_5 : decode b_Deci_mode 5 = .ok (.bipush 7, 2) := by decide +kernel
theorem d_Deci_mode_7 : decode b_Deci_mode 7 = .ok (.if_icmp .le 5, 3) := by decide +kernel
theorem d_Deci_mode_10 : decode b_Deci_mode 10 = .ok (.iconst 0, 1) := by decide +kernel
theorem d_Deci_mode_11 : decode b_Deci_mode 11 = .ok (.ireturn, 1) := by decide +kernel
theorem d_Deci_mode_12 : decode b_Deci_mode 12 = .ok (.aload_n 0, 1) := by decide +kernel
theorem d_Deci_mode_13 : decode b_Deci_mode 13 = .ok (.iload_n 1, 1) := by decide +kernel
theorem d_Deci_mode_14 : decode b_Deci_mode 14 = .ok (.putfield 61, 3) := by decide +kernel
theorem d_Deci_mode_17 : decode b_Deci_mode 17 = .ok (.iconst 1, 1) := by decide +kernel
theorem d_Deci_mode_18 : decode b_Deci_mode 18 = .ok (.ireturn, 1) := by decide +kernel
theorem d_Deci_setting_0 : decode b_Deci_setting 0 = .ok (.aload_n 0, 1) := by decide +kernel
theorem d_Deci_setting_1 : decode b_Deci_setting 1 = .ok (.getfield 57, 3) := by decide +kernel
theorem d_Deci_setting_4 : decode b_Deci_setting 4 = .ok (.ifCond .ne 5, 3) := by decide +kernel
theorem d_Deci_setting_7 : decode b_Deci_setting 7 = .ok (.iconst (-1), 1) := by decide +kernel
theorem d_Deci_setting_8 : decode b_Deci_setting 8 = .ok (.ireturn, 1) := by decide +kernel
theorem d_Deci_setting_9 : decode b_Deci_setting 9 = .ok (.aload_n 0, 1) := by decide +kernel
theorem d_Deci_setting_10 : decode b_Deci_setting 10 = .ok (.getfield 50, 3) := by decide +kernel
theorem d_Deci_setting_13 : decode b_Deci_setting 13 = .ok (.getfield 90, 3) := by decide +kernel
theorem d_Deci_setting_16 : decode b_Deci_setting 16 = .ok (.getfield 94, 3) := by decide +kernel
theorem d_Deci_setting_19 : decode b_Deci_setting 19 = .ok (.astore_n 2, 1) := by decide +kernel
theorem d_Deci_setting_20 : decode b_Deci_setting 20 = .ok (.iload_n 1, 1) := by decide +kernel
theorem d_Deci_setting_21 : decode b_Deci_setting 21 = .ok (.tableswitch 101 0 6 #[43, 48, 53, 58, 63, 68, 85], 43) := by decide +kernel
theorem d_Deci_setting_64 : decode b_Deci_setting 64 = .ok (.aload_n 2, 1) := by decide +kernel
theorem d_Deci_setting_65 : decode b_Deci_setting 65 = .ok (.getfield 100, 3) := by decide +kernel
theorem d_Deci_setting_68 : decode b_Deci_setting 68 = .ok (.ireturn, 1) := by decide +kernel
theorem d_Deci_setting_69 : decode b_Deci_setting 69 = .ok (.aload_n 2, 1) := by decide +kernel
theorem d_Deci_setting_70 : decode b_Deci_setting 70 = .ok (.getfield 105, 3) := by decide +kernel
theorem d_Deci_setting_73 : decode b_Deci_setting 73 = .ok (.ireturn, 1) := by decide +kernel
theorem d_Deci_setting_74 : decode b_Deci_setting 74 = .ok (.aload_n 2, 1) := by decide +kernel
theorem d_Deci_setting_75 : decode b_Deci_setting 75 = .ok (.getfield 108, 3) := by decide +kernel
theorem d_Deci_setting_78 : decode b_Deci_setting 78 = .ok (.ireturn, 1) := by decide +kernel
theorem d_Deci_setting_79 : decode b_Deci_setting 79 = .ok (.aload_n 2, 1) := by decide +kernel
theorem d_Deci_setting_80 : decode b_Deci_setting 80 = .ok (.getfield 111, 3) := by decide +kernel
theorem d_Deci_setting_83 : decode b_Deci_setting 83 = .ok (.ireturn, 1) := by decide +kernel
theorem d_Deci_setting_84 : decode b_Deci_setting 84 = .ok (.aload_n 2, 1) := by decide +kernel
theorem d_Deci_setting_85 : decode b_Deci_setting 85 = .ok (.getfield 114, 3) := by decide +kernel
theorem d_Deci_setting_88 : decode b_Deci_setting 88 = .ok (.ireturn, 1) := by decide +kernel
theorem d_Deci_setting_89 : decode b_Deci_setting 89 = .ok (.aload_n 0, 1) := by decide +kernel
theorem d_Deci_setting_90 : decode b_Deci_setting 90 = .ok (.getfield 50, 3) := by decide +kernel
theorem d_Deci_setting_93 : decode b_Deci_setting 93 = .ok (.getfield 117, 3) := by decide +kernel
theorem d_Deci_setting_96 : decode b_Deci_setting 96 = .ok (.ifCond .eq 8, 3) := by decide +kernel
theorem d_Deci_setting_99 : decode b_Deci_setting 99 = .ok (.bipush 100, 2) := by decide +kernel
theorem d_Deci_setting_101 : decode b_Deci_setting 101 = .ok (.goto 4, 3) := by decide +kernel
theorem d_Deci_setting_104 : decode b_Deci_setting 104 = .ok (.iconst 1, 1) := by decide +kernel
theorem d_Deci_setting_105 : decode b_Deci_setting 105 = .ok (.ireturn, 1) := by decide +kernel
theorem d_Deci_setting_106 : decode b_Deci_setting 106 = .ok (.aload_n 0, 1) := by decide +kernel
theorem d_Deci_setting_107 : decode b_Deci_setting 107 = .ok (.getfield 50, 3) := by decide +kernel
theorem d_Deci_setting_110 : decode b_Deci_setting 110 = .ok (.getfield 120, 3) := by decide +kernel
theorem d_Deci_setting_113 : decode b_Deci_setting 113 = .ok (.ifCond .eq 7, 3) := by decide +kernel
theorem d_Deci_setting_116 : decode b_Deci_setting 116 = .ok (.iconst 1, 1) := by decide +kernel
theorem d_Deci_setting_117 : decode b_Deci_setting 117 = .ok (.goto 4, 3) := by decide +kernel
theorem d_Deci_setting_120 : decode b_Deci_setting 120 = .ok (.iconst 0, 1) := by decide +kernel
theorem d_Deci_setting_121 : decode b_Deci_setting 121 = .ok (.ireturn, 1) := by decide +kernel
theorem d_Deci_setting_122 : decode b_Deci_setting 122 = .ok (.iconst (-1), 1) := by decide +kernel
theorem d_Deci_setting_123 : decode b_Deci_setting 123 = .ok (.ireturn, 1) := by decide +kernel
theorem d_Deci_format_0 : decode b_Deci_format 0 = .ok (.aload_n 0, 1) := by decide +kernel
theorem d_Deci_format_1 : decode b_Deci_format 1 = .ok (.getfield 57, 3) := by decide +kernel
theorem d_Deci_format_4 : decode b_Deci_format 4 = .ok (.ifCond .ne 5, 3) := by decide +kernel
theorem d_Deci_format_7 : decode b_Deci_format 7 = .ok (.iconst (-1), 1) := by decide +kernel
theorem d_Deci_format_8 : decode b_Deci_format 8 = .ok (.ireturn, 1) := by decide +kernel
theorem d_Deci_format_9 : decode b_Deci_format 9 = .ok (.lload_n 1, 1) := by decide +kernel
theorem d_Deci_format_10 : decode b_Deci_format 10 = .ok (.ldc2_w 123, 3) := by decide +kernel
theorem d_Deci_format_13 : decode b_Deci_format 13 = .ok (.lcmp, 1) := by decide +kernel
theorem d_Deci_format_14 : decode b_Deci_format 14 = .ok (.ifCond .lt 21, 3) := by decide +kernel
theorem d_Deci_format_17 : decode b_Deci_format 17 = .ok (.lload_n 1, 1) := by decide +kernel
theorem d_Deci_format_18 : decode b_Deci_format 18 = .ok (.ldc2_w 125, 3) := by decide +kernel
theorem d_Deci_format_21 : decode b_Deci_format 21 = .ok (.lcmp, 1) := by decide +kernel
theorem d_Deci_format_22 : decode b_Deci_format 22 = .ok (.ifCond .gt 13, 3) := by decide +kernel
theorem d_Deci_format_25 : decode b_Deci_format 25 = .ok (.iload_n 3, 1) := by decide +kernel
theorem d_Deci_format_26 : decode b_Deci_format 26 = .ok (.ifCond .lt 9, 3) := by decide +kernel
theorem d_Deci_format_29 : decode b_Deci_format 29 = .ok (.iload_n 3, 1) := by decide +kernel
theorem d_Deci_format_30 : decode b_Deci_format 30 = .ok (.bipush 9, 2) := by decide +kernel
theorem d_Deci_format_32 : decode b_Deci_format 32 = .ok (.if_icmp .le 6, 3) := by decide +kernel
theorem d_Deci_format_35 : decode b_Deci_format 35 = .ok (.bipush (-2), 2) := by decide +kernel
theorem d_Deci_format_37 : decode b_Deci_format 37 = .ok (.ireturn, 1) := by decide +kernel
theorem d_Deci_format_38 : decode b_Deci_format 38 = .ok (.aload_n 0, 1) := by decide +kernel
theorem d_Deci_format_39 : decode b_Deci_format 39 = .ok (.getfield 50, 3) := by decide +kernel
theorem d_Deci_format_42 : decode b_Deci_format 42 = .ok (.getfield 117, 3) := by decide +kernel
theorem d_Deci_format_45 : decode b_Deci_format 45 = .ok (.ifCond .eq 11, 3) := by decide +kernel
theorem d_Deci_format_48 : decode b_Deci_format 48 = .ok (.lload_n 1, 1) := by decide +kernel
theorem d_Deci_format_49 : decode b_Deci_format 49 = .ok (.ldc2_w 127, 3) := by decide +kernel
theorem d_Deci_format_52 : decode b_Deci_format 52 = .ok (.lmul, 1) := by decide +kernel
theorem d_Deci_format_53 : decode b_Deci_format 53 = .ok (.goto 4, 3) := by decide +kernel
theorem d_Deci_format_56 : decode b_Deci_format 56 = .ok (.lload_n 1, 1) := by decide +kernel
theorem d_Deci_format_57 : decode b_Deci_format 57 = .ok (.lstore 4, 2) := by decide +kernel
theorem d_Deci_format_59 : decode b_Deci_format 59 = .ok (.aload_n 0, 1) := by decide +kernel
theorem d_Deci_format_60 : decode b_Deci_format 60 = .ok (.getfield 36, 3) := by decide +kernel
theorem d_Deci_format_63 : decode b_Deci_format 63 = .ok (.aload_n 0, 1) := by decide +kernel
theorem d_Deci_format_64 : decode b_Deci_format 64 = .ok (.getfield 50, 3) := by decide +kernel
theorem d_Deci_format_67 : decode b_Deci_format 67 = .ok (.getfield 90, 3) := by decide +kernel
theorem d_Deci_format_70 : decode b_Deci_format 70 = .ok (.getfield 94, 3) := by decide +kernel
theorem d_Deci_format_73 : decode b_Deci_format 73 = .ok (.lload 4, 2) := by decide +kernel
theorem d_Deci_format_75 : decode b_Deci_format 75 = .ok (.iload_n 3, 1) := by decide +kernel
theorem d_Deci_format_76 : decode b_Deci_format 76 = .ok (.aload_n 0, 1) := by decide +kernel
theorem d_Deci_format_77 : decode b_Deci_format 77 = .ok (.getfield 61, 3) := by decide +kernel
theorem d_Deci_format_80 : decode b_Deci_format 80 = .ok (.invokevirtual 129, 3) := by decide +kernel
theorem d_Deci_format_83 : decode b_Deci_format 83 = .ok (.ifCond .ne 6, 3) := by decide +kernel
theorem d_Deci_format_86 : decode b_Deci_format 86 = .ok (.bipush (-3), 2) := by decide +kernel
theorem d_Deci_format_88 : decode b_Deci_format 88 = .ok (.ireturn, 1) := by decide +kernel
theorem d_Deci_format_89 : decode b_Deci_format 89 = .ok (.aload_n 0, 1) := by decide +kernel
theorem d_Deci_format_90 : decode b_Deci_format 90 = .ok (.getfield 36, 3) := by decide +kernel
theorem d_Deci_format_93 : decode b_Deci_format 93 = .ok (.aload_n 0, 1) := by decide +kernel
theorem d_Deci_format_94 : decode b_Deci_format 94 = .ok (.getfield 50, 3) := by decide +kernel
theorem d_Deci_format_97 : decode b_Deci_format 97 = .ok (.aload_n 0, 1) := by decide +kernel
theorem d_Deci_format_98 : decode b_Deci_format 98 = .ok (.getfield 16, 3) := by decide +kernel
theorem d_Deci_format_101 : decode b_Deci_format 101 = .ok (.invokevirtual 133, 3) := by decide +kernel
theorem d_Deci_format_104 : decode b_Deci_format 104 = .ok (.aload_n 0, 1) := by decide +kernel
theorem d_Deci_format_105 : decode b_Deci_format 105 = .ok (.getfield 16, 3) := by decide +kernel
theorem d_Deci_format_108 : decode b_Deci_format 108 = .ok (.invokevirtual 79, 3) := by decide +kernel
theorem d_Deci_format_111 : decode b_Deci_format 111 = .ok (.ireturn, 1) := by decide +kernel
