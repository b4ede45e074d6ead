theorem d_Model_go_0 : decode b_Model_go 0 = .ok (.aload_n 0, 1) := by decide +kernel
theorem d_Model_go_1 : decode b_Model_go 1 = .ok (.iload_n 1, 1) := by decide +kernel
theorem d_Model_go_2 : decode b_Model_go 2 = .ok (.putfield 42, 3) := by decide +kernel
theorem d_Model_go_5 : decode b_Model_go 5 = .ok (.aload_n 0, 1) := by decide +kernel
theorem d_Model_go_6 : decode b_Model_go 6 = .ok (.iconst 0, 1) := by decide +kernel
theorem d_Model_go_7 : decode b_Model_go 7 = .ok (.putfield 49, 3) := by decide +kernel
theorem d_Model_go_10 : decode b_Model_go 10 = .ok (.aload_n 0, 1) := by decide +kernel
theorem d_Model_go_11 : decode b_Model_go 11 = .ok (.iconst (-1), 1) := by decide +kernel
theorem d_Model_go_12 : decode b_Model_go 12 = .ok (.putfield 64, 3) := by decide +kernel
theorem d_Model_go_15 : decode b_Model_go 15 = .ok (.aload_n 0, 1) := by decide +kernel
theorem d_Model_go_16 : decode b_Model_go 16 = .ok (.iconst 0, 1) := by decide +kernel
theorem d_Model_go_17 : decode b_Model_go 17 = .ok (.invokevirtual 85, 3) := by decide +kernel
theorem d_Model_go_20 : decode b_Model_go 20 = .ok (.aload_n 0, 1) := by decide +kernel
theorem d_Model_go_21 : decode b_Model_go 21 = .ok (.getfield 64, 3) := by decide +kernel
theorem d_Model_go_24 : decode b_Model_go 24 = .ok (.ifCond .ge 20, 3) := by decide +kernel
theorem d_Model_go_27 : decode b_Model_go 27 = .ok (.aload_n 0, 1) := by decide +kernel
theorem d_Model_go_28 : decode b_Model_go 28 = .ok (.aload_n 0, 1) := by decide +kernel
theorem d_Model_go_29 : decode b_Model_go 29 = .ok (.getfield 49, 3) := by decide +kernel
theorem d_Model_go_32 : decode b_Model_go 32 = .ok (.bipush 59, 2) := by decide +kernel
theorem d_Model_go_34 : decode b_Model_go 34 = .ok (.invokevirtual 52, 3) := by decide +kernel
theorem d_Model_go_37 : decode b_Model_go 37 = .ok (.ifCond .eq 7, 3) := by decide +kernel
theorem d_Model_go_40 : decode b_Model_go 40 = .ok (.iconst 1, 1) := by decide +kernel
theorem d_Model_go_41 : decode b_Model_go 41 = .ok (.goto 4, 3) := by decide +kernel
theorem d_Model_go_44 : decode b_Model_go 44 = .ok (.iconst 0, 1) := by decide +kernel
theorem d_Model_go_45 : decode b_Model_go 45 = .ok (.istore_n 2, 1) := by decide +kernel
theorem d_Model_go_46 : decode b_Model_go 46 = .ok (.iload_n 2, 1) := by decide +kernel
theorem d_Model_go_47 : decode b_Model_go 47 = .ok (.ifCond .eq 18, 3) := by decide +kernel
theorem d_Model_go_50 : decode b_Model_go 50 = .ok (.aload_n 0, 1) := by decide +kernel
theorem d_Model_go_51 : decode b_Model_go 51 = .ok (.aload_n 0, 1) := by decide +kernel
theorem d_Model_go_52 : decode b_Model_go 52 = .ok (.getfield 49, 3) := by decide +kernel
theorem d_Model_go_55 : decode b_Model_go 55 = .ok (.iconst 1, 1) := by decide +kernel
theorem d_Model_go_56 : decode b_Model_go 56 = .ok (.iadd, 1) := by decide +kernel
theorem d_Model_go_57 : decode b_Model_go 57 = .ok (.putfield 49, 3) := by decide +kernel
theorem d_Model_go_60 : decode b_Model_go 60 = .ok (.aload_n 0, 1) := by decide +kernel
theorem d_Model_go_61 : decode b_Model_go 61 = .ok (.iconst 1, 1) := by decide +kernel
theorem d_Model_go_62 : decode b_Model_go 62 = .ok (.invokevirtual 85, 3) := by decide +kernel
theorem d_Model_go_65 : decode b_Model_go 65 = .ok (.aload_n 0, 1) := by decide +kernel
theorem d_Model_go_66 : decode b_Model_go 66 = .ok (.getfield 64, 3) := by decide +kernel
theorem d_Model_go_69 : decode b_Model_go 69 = .ok (.ifCond .ge 29, 3) := by decide +kernel
theorem d_Model_go_72 : decode b_Model_go 72 = .ok (.aload_n 0, 1) := by decide +kernel
theorem d_Model_go_73 : decode b_Model_go 73 = .ok (.getfield 49, 3) := by decide +kernel
theorem d_Model_go_76 : decode b_Model_go 76 = .ok (.aload_n 0, 1) := by decide +kernel
theorem d_Model_go_77 : decode b_Model_go 77 = .ok (.getfield 36, 3) := by decide +kernel
theorem d_Model_go_80 : decode b_Model_go 80 = .ok (.if_icmp .lt 10, 3) := by decide +kernel
theorem d_Model_go_83 : decode b_Model_go 83 = .ok (.aload_n 0, 1) := by decide +kernel
theorem d_Model_go_84 : decode b_Model_go 84 = .ok (.getfield 46, 3) := by decide +kernel
theorem d_Model_go_87 : decode b_Model_go 87 = .ok (.ifCond .eq 11, 3) := by decide +kernel
theorem d_Model_go_90 : decode b_Model_go 90 = .ok (.aload_n 0, 1) := by decide +kernel
theorem d_Model_go_91 : decode b_Model_go 91 = .ok (.aload_n 0, 1) := by decide +kernel
theorem d_Model_go_92 : decode b_Model_go 92 = .ok (.getfield 49, 3) := by decide +kernel
theorem d_Model_go_95 : decode b_Model_go 95 = .ok (.putfield 64, 3) := by decide +kernel
theorem d_Model_go_98 : decode b_Model_go 98 = .ok (.aload_n 0, 1) := by decide +kernel
theorem d_Model_go_99 : decode b_Model_go 99 = .ok (.getfield 42, 3) := by decide +kernel
theorem d_Model_go_102 : decode b_Model_go 102 = .ok (.ifCond .eq 19, 3) := by decide +kernel
theorem d_Model_go_105 : decode b_Model_go 105 = .ok (.aload_n 0, 1) := by decide +kernel
theorem d_Model_go_106 : decode b_Model_go 106 = .ok (.getfield 27, 3) := by decide +kernel
theorem d_Model_go_109 : decode b_Model_go 109 = .ok (.bipush 6, 2) := by decide +kernel
theorem d_Model_go_111 : decode b_Model_go 111 = .ok (.iload_n 2, 1) := by decide +kernel
theorem d_Model_go_112 : decode b_Model_go 112 = .ok (.ifCond .eq 7, 3) := by decide +kernel
theorem d_Model_go_115 : decode b_Model_go 115 = .ok (.iconst 1, 1) := by decide +kernel
theorem d_Model_go_116 : decode b_Model_go 116 = .ok (.goto 4, 3) := by decide +kernel
theorem d_Model_go_119 : decode b_Model_go 119 = .ok (.iconst 0, 1) := by decide +kernel
theorem d_Model_go_120 : decode b_Model_go 120 = .ok (.iastore, 1) := by decide +kernel
theorem d_Model_go_121 : decode b_Model_go 121 = .ok (.return_, 1) := by decide +kernel
theorem d_Model_apply_0 : decode b_Model_apply 0 = .ok (.aload_n 0, 1) := by decide +kernel
theorem d_Model_apply_1 : decode b_Model_apply 1 = .ok (.iconst 0, 1) := by decide +kernel
theorem d_Model_apply_2 : decode b_Model_apply 2 = .ok (.invokevirtual 88, 3) := by decide +kernel
theorem d_Model_apply_5 : decode b_Model_apply 5 = .ok (.aload_n 0, 1) := by decide +kernel
theorem d_Model_apply_6 : decode b_Model_apply 6 = .ok (.getfield 64, 3) := by decide +kernel
theorem d_Model_apply_9 : decode b_Model_apply 9 = .ok (.ifCond .lt 8, 3) := by decide +kernel
theorem d_Model_apply_12 : decode b_Model_apply 12 = .ok (.aload_n 0, 1) := by decide +kernel
theorem d_Model_apply_13 : decode b_Model_apply 13 = .ok (.getfield 64, 3) := by decide +kernel
theorem d_Model_apply_16 : decode b_Model_apply 16 = .ok (.ireturn, 1) := by decide +kernel
theorem d_Model_apply_17 : decode b_Model_apply 17 = .ok (.aload_n 0, 1) := by decide +kernel
theorem d_Model_apply_18 : decode b_Model_apply 18 = .ok (.getfield 36, 3) := by decide +kernel
theorem d_Model_apply_21 : decode b_Model_apply 21 = .ok (.bipush 40, 2) := by decide +kernel
theorem d_Model_apply_23 : decode b_Model_apply 23 = .ok (.if_icmp .le 6, 3) := by decide +kernel
theorem d_Model_apply_26 : decode b_Model_apply 26 = .ok (.bipush 40, 2) := by decide +kernel
theorem d_Model_apply_28 : decode b_Model_apply 28 = .ok (.ireturn, 1) := by decide +kernel
theorem d_Model_apply_29 : decode b_Model_apply 29 = .ok (.iconst 0, 1) := by decide +kernel
theorem d_Model_apply_30 : decode b_Model_apply 30 = .ok (.istore_n 1, 1) := by decide +kernel
theorem d_Model_apply_31 : decode b_Model_apply 31 = .ok (.iload_n 1, 1) := by decide +kernel
theorem d_Model_apply_32 : decode b_Model_apply 32 = .ok (.iconst 4, 1) := by decide +kernel
theorem d_Model_apply_33 : decode b_Model_apply 33 = .ok (.if_icmp .ge 16, 3) := by decide +kernel
theorem d_Model_apply_36 : decode b_Model_apply 36 = .ok (.aload_n 0, 1) := by decide +kernel
theorem d_Model_apply_37 : decode b_Model_apply 37 = .ok (.getfield 24, 3) := by decide +kernel
theorem d_Model_apply_40 : decode b_Model_apply 40 = .ok (.iload_n 1, 1) := by decide +kernel
theorem d_Model_apply_41 : decode b_Model_apply 41 = .ok (.iconst 0, 1) := by decide +kernel
theorem d_Model_apply_42 : decode b_Model_apply 42 = .ok (.iastore, 1) := by decide +kernel
theorem d_Model_apply_43 : decode b_Model_apply 43 = .ok (.iinc 1 1, 3) := by decide +kernel
theorem d_Model_apply_46 : decode b_Model_apply 46 = .ok (.goto (-15), 3) := by decide +kernel
theorem d_Model_apply_49 : decode b_Model_apply 49 = .ok (.iconst 0, 1) := by decide +kernel
theorem d_Model_apply_50 : decode b_Model_apply 50 = .ok (.istore_n 1, 1) := by decide +kernel
theorem d_Model_apply_51 : decode b_Model_apply 51 = .ok (.iload_n 1, 1) := by decide +kernel
theorem d_Model_apply_52 : decode b_Model_apply 52 = .ok (.bipush 7, 2) := by decide +kernel
theorem d_Model_apply_54 : decode b_Model_apply 54 = .ok (.if_icmp .ge 16, 3) := by decide +kernel
theorem d_Model_apply_57 : decode b_Model_apply 57 = .ok (.aload_n 0, 1) := by decide +kernel
theorem d_Model_apply_58 : decode b_Model_apply 58 = .ok (.getfield 27, 3) := by decide +kernel
theorem d_Model_apply_61 : decode b_Model_apply 61 = .ok (.iload_n 1, 1) := by decide +kernel
theorem d_Model_apply_62 : decode b_Model_apply 62 = .ok (.iconst 0, 1) := by decide +kernel
theorem d_Model_apply_63 : decode b_Model_apply 63 = .ok (.iastore, 1) := by decide +kernel
theorem d_Model_apply_64 : decode b_Model_apply 64 = .ok (.iinc 1 1, 3) := by decide +kernel
theorem d_Model_apply_67 : decode b_Model_apply 67 = .ok (.goto (-16), 3) := by decide +kernel
theorem d_Model_apply_70 : decode b_Model_apply 70 = .ok (.aload_n 0, 1) := by decide +kernel
theorem d_Model_apply_71 : decode b_Model_apply 71 = .ok (.iconst 1, 1) := by decide +kernel
theorem d_Model_apply_72 : decode b_Model_apply 72 = .ok (.invokevirtual 88, 3) := by decide +kernel
theorem d_Model_apply_75 : decode b_Model_apply 75 = .ok (.aload_n 0, 1) := by decide +kernel
theorem d_Model_apply_76 : decode b_Model_apply 76 = .ok (.iconst 1, 1) := by decide +kernel
theorem d_Model_apply_77 : decode b_Model_apply 77 = .ok (.putfield 91, 3) := by decide +kernel
theorem d_Model_apply_80 : decode b_Model_apply 80 = .ok (.aload_n 0, 1) := by decide +kernel
theorem d_Model_apply_81 : decode b_Model_apply 81 = .ok (.getfield 27, 3) := by decide +kernel
theorem d_Model_apply_84 : decode b_Model_apply 84 = .ok (.iconst 5, 1) := by decide +kernel
theorem d_Model_apply_85 : decode b_Model_apply 85 = .ok (.aload_n 0, 1) := by decide +kernel
theorem d_Model_apply_86 : decode b_Model_apply 86 = .ok (.iconst 0, 1) := by decide +kernel
theorem d_Model_apply_87 : decode b_Model_apply 87 = .ok (.invokevirtual 94, 3) := by decide +kernel
theorem d_Model_apply_90 : decode b_Model_apply 90 = .ok (.ifCond .ne 11, 3) := by decide +kernel
theorem d_Model_apply_93 : decode b_Model_apply 93 = .ok (.aload_n 0, 1) := by decide +kernel
theorem d_Model_apply_94 : decode b_Model_apply 94 = .ok (.iconst 1, 1) := by decide +kernel
theorem d_Model_apply_95 : decode b_Model_apply 95 = .ok (.invokevirtual 94, 3) := by decide +kernel
theorem d_Model_apply_98 : decode b_Model_apply 98 = .ok (.ifCond .eq 8, 3) := by decide +kernel
theorem d_Model_apply_101 : decode b_Model_apply 101 = .ok (.bipush 100, 2) := by decide +kernel
theorem d_Model_apply_103 : decode b_Model_apply 103 = .ok (.goto 4, 3) := by decide +kernel
theorem d_Model_apply_106 : decode b_Model_apply 106 = .ok (.iconst 1, 1) := by decide +kernel
theorem d_Model_apply_107 : decode b_Model_apply 107 = .ok (.iastore, 1) := by decide +kernel
theorem d_Model_apply_108 : decode b_Model_apply 108 = .ok (.iconst (-1), 1) := by decide +kernel
theorem d_Model_apply_109 : decode b_Model_apply 109 = .ok (.ireturn, 1) := by decide +kernel
theorem d_Model_hasPercent_0 : decode b_Model_hasPercent 0 = .ok (.iconst 0, 1) := by decide +kernel
theorem d_Model_hasPercent_1 : decode b_Model_hasPercent 1 = .ok (.istore_n 2, 1) := by decide +kernel
theorem d_Model_hasPercent_2 : decode b_Model_hasPercent 2 = .ok (.iconst 0, 1) := by decide +kernel
theorem d_Model_hasPercent_3 : decode b_Model_hasPercent 3 = .ok (.istore_n 3, 1) := by decide +kernel
theorem d_Model_hasPercent_4 : decode b_Model_hasPercent 4 = .ok (.iload_n 3, 1) := by decide +kernel
theorem d_Model_hasPercent_5 : decode b_Model_hasPercent 5 = .ok (.aload_n 0, 1) := by decide +kernel
theorem d_Model_hasPercent_6 : decode b_Model_hasPercent 6 = .ok (.getfield 24, 3) := by decide +kernel
theorem d_Model_hasPercent_9 : decode b_Model_hasPercent 9 = .ok (.iload_n 1, 1) := by decide +kernel
theorem d_Model_hasPercent_10 : decode b_Model_hasPercent 10 = .ok (.iaload, 1) := by decide +kernel
theorem d_Model_hasPercent_11 : decode b_Model_hasPercent 11 = .ok (.if_icmp .ge 36, 3) := by decide +kernel
theorem d_Model_hasPercent_14 : decode b_Model_hasPercent 14 = .ok (.iload_n 2, 1) := by decide +kernel
theorem d_Model_hasPercent_15 : decode b_Model_hasPercent 15 = .ok (.ifCond .ne 20, 3) := by decide +kernel
theorem d_Model_hasPercent_18 : decode b_Model_hasPercent 18 = .ok (.aload_n 0, 1) := by decide +kernel
theorem d_Model_hasPercent_19 : decode b_Model_hasPercent 19 = .ok (.getfield 20, 3) := by decide +kernel
theorem d_Model_hasPercent_22 : decode b_Model_hasPercent 22 = .ok (.bipush 40, 2) := by decide +kernel
theorem d_Model_hasPercent_24 : decode b_Model_hasPercent 24 = .ok (.iload_n 1, 1) := by decide +kernel
theorem d_Model_hasPercent_25 : decode b_Model_hasPercent 25 = .ok (.imul, 1) := by decide +kernel
theorem d_Model_hasPercent_26 : decode b_Model_hasPercent 26 = .ok (.iload_n 3, 1) := by decide +kernel
theorem d_Model_hasPercent_27 : decode b_Model_hasPercent 27 = .ok (.iadd, 1) := by decide +kernel
theorem d_Model_hasPercent_28 : decode b_Model_hasPercent 28 = .ok (.iaload, 1) := by decide +kernel
theorem d_Model_hasPercent_29 : decode b_Model_hasPercent 29 = .ok (.sipush 200, 3) := by decide +kernel
theorem d_Model_hasPercent_32 : decode b_Model_hasPercent 32 = .ok (.if_icmp .ne 7, 3) := by decide +kernel
theorem d_Model_hasPercent_35 : decode b_Model_hasPercent 35 = .ok (.iconst 1, 1) := by decide +kernel
theorem d_Model_hasPercent_36 : decode b_Model_hasPercent 36 = .ok (.goto 4, 3) := by decide +kernel
theorem d_Model_hasPercent_39 : decode b_Model_hasPercent 39 = .ok (.iconst 0, 1) := by decide +kernel
theorem d_Model_hasPercent_40 : decode b_Model_hasPercent 40 = .ok (.istore_n 2, 1) := by decide +kernel
theorem d_Model_hasPercent_41 : decode b_Model_hasPercent 41 = .ok (.iinc 3 1, 3) := by decide +kernel
theorem d_Model_hasPercent_44 : decode b_Model_hasPercent 44 = .ok (.goto (-40), 3) := by decide +kernel
theorem d_Model_hasPercent_47 : decode b_Model_hasPercent 47 = .ok (.iload_n 2, 1) := by decide +kernel
theorem d_Model_hasPercent_48 : decode b_Model_hasPercent 48 = .ok (.ireturn, 1) := by decide +kernel
theorem d_Model_mode_0 : decode b_Model_mode 0 = .ok (.iload_n 1, 1) := by decide +kernel
theorem d_Model_mode_1 : decode b_Model_mode 1 = .ok (.ifCond .lt 9, 3) := by decide +kernel
theorem d_Model_mode_4 : decode b_Model_mode 4 = .ok (.iload_n 1, 1) := by decide +kernel
theorem d_Model_mode_5 : decode b_Model_mode 5 = .ok (.bipush 7, 2) := by decide +kernel
theorem d_Model_mode_7 : decode b_Model_mode 7 = .ok (.if_icmp .le 5, 3) := by decide +kernel
theorem d_Model_mode_10 : decode b_Model_mode 10 = .ok (.iconst 0, 1) := by decide +kernel
theorem d_Model_mode_11 : decode b_Model_mode 11 = .ok (.ireturn, 1) := by decide +kernel
theorem d_Model_mode_12 : decode b_Model_mode 12 = .ok (.aload_n 0, 1) := by decide +kernel
theorem d_Model_mode_13 : decode b_Model_mode 13 = .ok (.iload_n 1, 1) := by decide +kernel
theorem d_Model_mode_14 : decode b_Model_mode 14 = .ok (.putfield 16, 3) := by decide +kernel
theorem d_Model_mode_17 : decode b_Model_mode 17 = .ok (.iconst 1, 1) := by decide +kernel
theorem d_Model_mode_18 : decode b_Model_mode 18 = .ok (.ireturn, 1) := by decide +kernel
theorem d_Model_setting_0 : decode b_Model_setting 0 = .ok (.aload_n 0, 1) := by decide +kernel
theorem d_Model_setting_1 : decode b_Model_setting 1 = .ok (.getfield 91, 3) := by decide +kernel
theorem d_Model_setting_4 : decode b_Model_setting 4 = .ok (.ifCond .eq 13, 3) := by decide +kernel
theorem d_Model_setting_7 : decode b_Model_setting 7 = .ok (.iload_n 1, 1) := by decide +kernel
theorem d_Model_setting_8 : decode b_Model_setting 8 = .ok (.ifCond .lt 9, 3) := by decide +kernel
theorem d_Model_setting_11 : decode b_Model_setting 11 = .ok (.iload_n 1, 1) := by decide +kernel
theorem d_Model_setting_12 : decode b_Model_setting 12 = .ok (.bipush 6, 2) := by decide +kernel
theorem d_Model_setting_14 : decode b_Model_setting 14 = .ok (.if_icmp .le 7, 3) := by decide +kernel
theorem d_Model_setting_17 : decode b_Model_setting 17 = .ok (.iconst (-1), 1) := by decide +kernel
theorem d_Model_setting_18 : decode b_Model_setting 18 = .ok (.goto 9, 3) := by decide +kernel
theorem d_Model_setting_21 : decode b_Model_setting 21 = .ok (.aload_n 0, 1) := by decide +kernel
theorem d_Model_setting_22 : decode b_Model_setting 22 = .ok (.getfield 27, 3) := by decide +kernel
theorem d_Model_setting_25 : decode b_Model_setting 25 = .ok (.iload_n 1, 1) := by decide +kernel
theorem d_Model_setting_26 : decode b_Model_setting 26 = .ok (.iaload, 1) := by decide +kernel
theorem d_Model_setting_27 : decode b_Model_setting 27 = .ok (.ireturn, 1) := by decide +kernel
theorem d_Model_borrowed_0 : decode b_Model_borrowed 0 = .ok (.iload_n 1, 1) := by decide +kernel
theorem d_Model_borrowed_1 : decode b_Model_borrowed 1 = .ok (.ifCond .eq 17, 3) := by decide +kernel
theorem d_Model_borrowed_4 : decode b_Model_borrowed 4 = .ok (.aload_n 0, 1) := by decide +kernel
theorem d_Model_borrowed_5 : decode b_Model_borrowed 5 = .ok (.getfield 27, 3) := by decide +kernel
theorem d_Model_borrowed_8 : decode b_Model_borrowed 8 = .ok (.bipush 6, 2) := by decide +kernel
theorem d_Model_borrowed_10 : decode b_Model_borrowed 10 = .ok (.iaload, 1) := by decide +kernel
theorem d_Model_borrowed_11 : decode b_Model_borrowed 11 = .ok (.ifCond .ne 7, 3) := by decide +kernel
theorem d_Model_borrowed_14 : decode b_Model_borrowed 14 = .ok (.iconst 1, 1) := by decide +kernel
theorem d_Model_borrowed_15 : decode b_Model_borrowed 15 = .ok (.goto 4, 3) := by decide +kernel
theorem d_Model_borrowed_18 : decode b_Model_borrowed 18 = .ok (.iconst 0, 1) := by decide +kernel
theorem d_Model_borrowed_19 : decode b_Model_borrowed 19 = .ok (.ireturn, 1) := by decide +kernel
theorem d_Model_shownLength_0 : decode b_Model_shownLength 0 = .ok (.aload_n 0, 1) := by decide +kernel
theorem d_Model_shownLength_1 : decode b_Model_shownLength 1 = .ok (.iload_n 1, 1) := by decide +kernel
theorem d_Model_shownLength_2 : decode b_Model_shownLength 2 = .ok (.invokevirtual 97, 3) := by decide +kernel
theorem d_Model_shownLength_5 : decode b_Model_shownLength 5 = .ok (.ifCond .eq 20, 3) := by decide +kernel
theorem d_Model_shownLength_8 : decode b_Model_shownLength 8 = .ok (.aload_n 0, 1) := by decide +kernel
theorem d_Model_shownLength_9 : decode b_Model_shownLength 9 = .ok (.getfield 24, 3) := by decide +kernel
theorem d_Model_shownLength_12 : decode b_Model_shownLength 12 = .ok (.iload_n 2, 1) := by decide +kernel
theorem d_Model_shownLength_13 : decode b_Model_shownLength 13 = .ok (.iaload, 1) := by decide +kernel
theorem d_Model_shownLength_14 : decode b_Model_shownLength 14 = .ok (.iload_n 2, 1) := by decide +kernel
theorem d_Model_shownLength_15 : decode b_Model_shownLength 15 = .ok (.ifCond .ne 7, 3) := by decide +kernel
theorem d_Model_shownLength_18 : decode b_Model_shownLength 18 = .ok (.iconst 1, 1) := by decide +kernel
theorem d_Model_shownLength_19 : decode b_Model_shownLength 19 = .ok (.goto 4, 3) := by decide +kernel
theorem d_Model_shownLength_22 : decode b_Model_shownLength 22 = .ok (.iconst 0, 1) := by decide +kernel
theorem d_Model_shownLength_23 : decode b_Model_shownLength 23 = .ok (.iadd, 1) := by decide +kernel
theorem d_Model_shownLength_24 : decode b_Model_shownLength 24 = .ok (.ireturn, 1) := by decide +kernel
theorem d_Model_shownLength_25 : decode b_Model_shownLength 25 = .ok (.aload_n 0, 1) := by decide +kernel
theorem d_Model_shownLength_26 : decode b_Model_shownLength 26 = .ok (.getfield 24, 3) := by decide +kernel
theorem d_Model_shownLength_29 : decode b_Model_shownLength 29 = .ok (.iload_n 1, 1) := by decide +kernel
theorem d_Model_shownLength_30 : decode b_Model_shownLength 30 = .ok (.ifCond .eq 9, 3) := by decide +kernel
theorem d_Model_shownLength_33 : decode b_Model_shownLength 33 = .ok (.iconst 2, 1) := by decide +kernel
theorem d_Model_shownLength_34 : decode b_Model_shownLength 34 = .ok (.iload_n 2, 1) := by decide +kernel
theorem d_Model_shownLength_35 : decode b_Model_shownLength 35 = .ok (.iadd, 1) := by decide +kernel
theorem d_Model_shownLength_36 : decode b_Model_shownLength 36 = .ok (.goto 4, 3) := by decide +kernel
theorem d_Model_shownLength_39 : decode b_Model_shownLength 39 = .ok (.iload_n 2, 1) := by decide +kernel
theorem d_Model_shownLength_40 : decode b_Model_shownLength 40 = .ok (.iaload, 1) := by decide +kernel
theorem d_Model_shownLength_41 : decode b_Model_shownLength 41 = .ok (.ireturn, 1) := by decide +kernel
theorem d_Model_shown_0 : decode b_Model_shown 0 = .ok (.iload_n 1, 1) := by decide +kernel
theorem d_Model_shown_1 : decode b_Model_shown 1 = .ok (.ifCond .eq 17, 3) := by decide +kernel
theorem d_Model_shown_4 : decode b_Model_shown 4 = .ok (.aload_n 0, 1) := by decide +kernel
theorem d_Model_shown_5 : decode b_Model_shown 5 = .ok (.iload_n 1, 1) := by decide +kernel
theorem d_Model_shown_6 : decode b_Model_shown 6 = .ok (.invokevirtual 97, 3) := by decide +kernel
theorem d_Model_shown_9 : decode b_Model_shown 9 = .ok (.ifCond .ne 9, 3) := by decide +kernel
theorem d_Model_shown_12 : decode b_Model_shown 12 = .ok (.iconst 2, 1) := by decide +kernel
theorem d_Model_shown_13 : decode b_Model_shown 13 = .ok (.iload_n 2, 1) := by decide +kernel
theorem d_Model_shown_14 : decode b_Model_shown 14 = .ok (.iadd, 1) := by decide +kernel
theorem d_Model_shown_15 : decode b_Model_shown 15 = .ok (.goto 4, 3) := by decide +kernel
theorem d_Model_shown_18 : decode b_Model_shown 18 = .ok (.iload_n 2, 1) := by decide +kernel
theorem d_Model_shown_19 : decode b_Model_shown 19 = .ok (.istore 4, 2) := by decide +kernel
theorem d_Model_shown_21 : decode b_Model_shown 21 = .ok (.aload_n 0, 1) := by decide +kernel
theorem d_Model_shown_22 : decode b_Model_shown 22 = .ok (.iload_n 1, 1) := by decide +kernel
theorem d_Model_shown_23 : decode b_Model_shown 23 = .ok (.invokevirtual 97, 3) := by decide +kernel
theorem d_Model_shown_26 : decode b_Model_shown 26 = .ok (.ifCond .eq 13, 3) := by decide +kernel
theorem d_Model_shown_29 : decode b_Model_shown 29 = .ok (.iload_n 2, 1) := by decide +kernel
theorem d_Model_shown_30 : decode b_Model_shown 30 = .ok (.ifCond .ne 9, 3) := by decide +kernel
theorem d_Model_shown_33 : decode b_Model_shown 33 = .ok (.iload_n 3, 1) := by decide +kernel
theorem d_Model_shown_34 : decode b_Model_shown 34 = .ok (.iconst 1, 1) := by decide +kernel
theorem d_Model_shown_35 : decode b_Model_shown 35 = .ok (.isub, 1) := by decide +kernel
theorem d_Model_shown_36 : decode b_Model_shown 36 = .ok (.goto 4, 3) := by decide +kernel
theorem d_Model_shown_39 : decode b_Model_shown 39 = .ok (.iload_n 3, 1) := by decide +kernel
theorem d_Model_shown_40 : decode b_Model_shown 40 = .ok (.istore 5, 2) := by decide +kernel
theorem d_Model_shown_42 : decode b_Model_shown 42 = .ok (.iload 5, 2) := by decide +kernel
theorem d_Model_shown_44 : decode b_Model_shown 44 = .ok (.ifCond .ge 6, 3) := by decide +kernel
theorem d_Model_shown_47 : decode b_Model_shown 47 = .ok (.bipush 45, 2) := by decide +kernel
theorem d_Model_shown_49 : decode b_Model_shown 49 = .ok (.ireturn, 1) := by decide +kernel
theorem d_Model_shown_50 : decode b_Model_shown 50 = .ok (.aload_n 0, 1) := by decide +kernel
theorem d_Model_shown_51 : decode b_Model_shown 51 = .ok (.getfield 20, 3) := by decide +kernel
theorem d_Model_shown_54 : decode b_Model_shown 54 = .ok (.bipush 40, 2) := by decide +kernel
theorem d_Model_shown_56 : decode b_Model_shown 56 = .ok (.iload 4, 2) := by decide +kernel
theorem d_Model_shown_58 : decode b_Model_shown 58 = .ok (.imul, 1) := by decide +kernel
theorem d_Model_shown_59 : decode b_Model_shown 59 = .ok (.iload 5, 2) := by decide +kernel
theorem d_Model_shown_61 : decode b_Model_shown 61 = .ok (.iadd, 1) := by decide +kernel
theorem d_Model_shown_62 : decode b_Model_shown 62 = .ok (.iaload, 1) := by decide +kernel
theorem d_Model_shown_63 : decode b_Model_shown 63 = .ok (.istore 6, 2) := by decide +kernel
theorem d_Model_shown_65 : decode b_Model_shown 65 = .ok (.iload 6, 2) := by decide +kernel
theorem d_Model_shown_67 : decode b_Model_shown 67 = .ok (.sipush 200, 3) := by decide +kernel
theorem d_Model_shown_70 : decode b_Model_shown 70 = .ok (.if_icmp .ne 8, 3) := by decide +kernel
theorem d_Model_shown_73 : decode b_Model_shown 73 = .ok (.bipush 37, 2) := by decide +kernel
theorem d_Model_shown_75 : decode b_Model_shown 75 = .ok (.goto 5, 3) := by decide +kernel
theorem d_Model_shown_78 : decode b_Model_shown 78 = .ok (.iload 6, 2) := by decide +kernel
theorem d_Model_shown_80 : decode b_Model_shown 80 = .ok (.ireturn, 1) := by decide +kernel
theorem d_Model_write_0 : decode b_Model_write 0 = .ok (.aload_n 0, 1) := by decide +kernel
theorem d_Model_write_1 : decode b_Model_write 1 = .ok (.getfield 13, 3) := by decide +kernel
theorem d_Model_write_4 : decode b_Model_write 4 = .ok (.aload_n 0, 1) := by decide +kernel
theorem d_Model_write_5 : decode b_Model_write 5 = .ok (.getfield 39, 3) := by decide +kernel
theorem d_Model_write_8 : decode b_Model_write 8 = .ok (.iload_n 1, 1) := by decide +kernel
theorem d_Model_write_9 : decode b_Model_write 9 = .ok (.i2c, 1) := by decide +kernel
theorem d_Model_write_10 : decode b_Model_write 10 = .ok (.castore, 1) := by decide +kernel
theorem d_Model_write_11 : decode b_Model_write 11 = .ok (.aload_n 0, 1) := by decide +kernel
theorem d_Model_write_12 : decode b_Model_write 12 = .ok (.aload_n 0, 1) := by decide +kernel
theorem d_Model_write_13 : decode b_Model_write 13 = .ok (.getfield 39, 3) := by decide +kernel
theorem d_Model_write_16 : decode b_Model_write 16 = .ok (.iconst 1, 1) := by decide +kernel
theorem d_Model_write_17 : decode b_Model_write 17 = .ok (.iadd, 1) := by decide +kernel
theorem d_Model_write_18 : decode b_Model_write 18 = .ok (.putfield 39, 3) := by decide +kernel
theorem d_Model_write_21 : decode b_Model_write 21 = .ok (.return_, 1) := by decide +kernel
theorem d_Model_writeAffix_0 : decode b_Model_writeAffix 0 = .ok (.aload_n 0, 1) := by decide +kernel
theorem d_Model_writeAffix_1 : decode b_Model_writeAffix 1 = .ok (.iload_n 1, 1) := by decide +kernel
theorem d_Model_writeAffix_2 : decode b_Model_writeAffix 2 = .ok (.iload_n 2, 1) := by decide +kernel
theorem d_Model_writeAffix_3 : decode b_Model_writeAffix 3 = .ok (.invokevirtual 101, 3) := by decide +kernel
theorem d_Model_writeAffix_6 : decode b_Model_writeAffix 6 = .ok (.istore_n 3, 1) := by decide +kernel
theorem d_Model_writeAffix_7 : decode b_Model_writeAffix 7 = .ok (.iconst 0, 1) := by decide +kernel
theorem d_Model_writeAffix_8 : decode b_Model_writeAffix 8 = .ok (.istore 4, 2) := by decide +kernel
theorem d_Model_writeAffix_10 : decode b_Model_writeAffix 10 = .ok (.iload 4, 2) := by decide +kernel
theorem d_Model_writeAffix_12 : decode b_Model_writeAffix 12 = .ok (.iload_n 3, 1) := by decide +kernel
theorem d_Model_writeAffix_13 : decode b_Model_writeAffix 13 = .ok (.if_icmp .ge 25, 3) := by decide +kernel
theorem d_Model_writeAffix_16 : decode b_Model_writeAffix 16 = .ok (.aload_n 0, 1) := by decide +kernel
theorem d_Model_writeAffix_17 : decode b_Model_writeAffix 17 = .ok (.iload_n 1, 1) := by decide +kernel
theorem d_Model_writeAffix_18 : decode b_Model_writeAffix 18 = .ok (.iload_n 2, 1) := by decide +kernel
theorem d_Model_writeAffix_19 : decode b_Model_writeAffix 19 = .ok (.iload 4, 2) := by decide +kernel
theorem d_Model_writeAffix_21 : decode b_Model_writeAffix 21 = .ok (.invokevirtual 105, 3) := by decide +kernel
theorem d_Model_writeAffix_24 : decode b_Model_writeAffix 24 = .ok (.istore 5, 2) := by decide +kernel
theorem d_Model_writeAffix_26 : decode b_Model_writeAffix 26 = .ok (.aload_n 0, 1) := by decide +kernel
theorem d_Model_writeAffix_27 : decode b_Model_writeAffix 27 = .ok (.iload 5, 2) := by decide +kernel
theorem d_Model_writeAffix_29 : decode b_Model_writeAffix 29 = .ok (.invokevirtual 109, 3) := by decide +kernel
theorem d_Model_writeAffix_32 : decode b_Model_writeAffix 32 = .ok (.iinc 4 1, 3) := by decide +kernel
theorem d_Model_writeAffix_35 : decode b_Model_writeAffix 35 = .ok (.goto (-25), 3) := by decide +kernel
theorem d_Model_writeAffix_38 : decode b_Model_writeAffix 38 = .ok (.return_, 1) := by decide +kernel
theorem d_Model_lay_0 : decode b_Model_lay 0 = .ok (.aload_n 0, 1) := by decide +kernel
theorem d_Model_lay_1 : decode b_Model_lay 1 = .ok (.iconst 0, 1) := by decide +kernel
theorem d_Model_lay_2 : decode b_Model_lay 2 = .ok (.putfield 112, 3) := by decide +kernel
theorem d_Model_lay_5 : decode b_Model_lay 5 = .ok (.ldc2_w 115, 3) := by decide +kernel
theorem d_Model_lay_8 : decode b_Model_lay 8 = .ok (.lstore_n 3, 1) := by decide +kernel
theorem d_Model_lay_9 : decode b_Model_lay 9 = .ok (.lload_n 3, 1) := by decide +kernel
theorem d_Model_lay_10 : decode b_Model_lay 10 = .ok (.lconst 0, 1) := by decide +kernel
theorem d_Model_lay_11 : decode b_Model_lay 11 = .ok (.lcmp, 1) := by decide +kernel
theorem d_Model_lay_12 : decode b_Model_lay 12 = .ok (.ifCond .le 55, 3) := by decide +kernel
theorem d_Model_lay_15 : decode b_Model_lay 15 = .ok (.lload_n 1, 1) := by decide +kernel
theorem d_Model_lay_16 : decode b_Model_lay 16 = .ok (.lload_n 3, 1) := by decide +kernel
theorem d_Model_lay_17 : decode b_Model_lay 17 = .ok (.ldiv, 1) := by decide +kernel
theorem d_Model_lay_18 : decode b_Model_lay 18 = .ok (.ldc2_w 117, 3) := by decide +kernel
theorem d_Model_lay_21 : decode b_Model_lay 21 = .ok (.lrem, 1) := by decide +kernel
theorem d_Model_lay_22 : decode b_Model_lay 22 = .ok (.l2i, 1) := by decide +kernel
theorem d_Model_lay_23 : decode b_Model_lay 23 = .ok (.istore 5, 2) := by decide +kernel
theorem d_Model_lay_25 : decode b_Model_lay 25 = .ok (.iload 5, 2) := by decide +kernel
theorem d_Model_lay_27 : decode b_Model_lay 27 = .ok (.ifCond .gt 10, 3) := by decide +kernel
theorem d_Model_lay_30 : decode b_Model_lay 30 = .ok (.aload_n 0, 1) := by decide +kernel
theorem d_Model_lay_31 : decode b_Model_lay 31 = .ok (.getfield 112, 3) := by decide +kernel
theorem d_Model_lay_34 : decode b_Model_lay 34 = .ok (.ifCond .le 24, 3) := by decide +kernel
theorem d_Model_lay_37 : decode b_Model_lay 37 = .ok (.aload_n 0, 1) := by decide +kernel
theorem d_Model_lay_38 : decode b_Model_lay 38 = .ok (.getfield 30, 3) := by decide +kernel
theorem d_Model_lay_41 : decode b_Model_lay 41 = .ok (.aload_n 0, 1) := by decide +kernel
theorem d_Model_lay_42 : decode b_Model_lay 42 = .ok (.getfield 112, 3) := by decide +kernel
theorem d_Model_lay_45 : decode b_Model_lay 45 = .ok (.iload 5, 2) := by decide +kernel
theorem d_Model_lay_47 : decode b_Model_lay 47 = .ok (.iastore, 1) := by decide +kernel
theorem d_Model_lay_48 : decode b_Model_lay 48 = .ok (.aload_n 0, 1) := by decide +kernel
theorem d_Model_lay_49 : decode b_Model_lay 49 = .ok (.aload_n 0, 1) := by decide +kernel
theorem d_Model_lay_50 : decode b_Model_lay 50 = .ok (.getfield 112, 3) := by decide +kernel
theorem d_Model_lay_53 : decode b_Model_lay 53 = .ok (.iconst 1, 1) := by decide +kernel
theorem d_Model_lay_54 : decode b_Model_lay 54 = .ok (.iadd, 1) := by decide +kernel
theorem d_Model_lay_55 : decode b_Model_lay 55 = .ok (.putfield 112, 3) := by decide +kernel
theorem d_Model_lay_58 : decode b_Model_lay 58 = .ok (.lload_n 3, 1) := by decide +kernel
theorem d_Model_lay_59 : decode b_Model_lay 59 = .ok (.ldc2_w 117, 3) := by decide +kernel
theorem d_Model_lay_62 : decode b_Model_lay 62 = .ok (.ldiv, 1) := by decide +kernel
theorem d_Model_lay_63 : decode b_Model_lay 63 = .ok (.lstore_n 3, 1) := by decide +kernel
theorem d_Model_lay_64 : decode b_Model_lay 64 = .ok (.goto (-55), 3) := by decide +kernel
theorem d_Model_lay_67 : decode b_Model_lay 67 = .ok (.return_, 1) := by decide +kernel
theorem d_Model_rest_0 : decode b_Model_rest 0 = .ok (.iload_n 1, 1) := by decide +kernel
theorem d_Model_rest_1 : decode b_Model_rest 1 = .ok (.ifCond .ge 7, 3) := by decide +kernel
theorem d_Model_rest_4 : decode b_Model_rest 4 = .ok (.iconst 0, 1) := by decide +kernel
theorem d_Model_rest_5 : decode b_Model_rest 5 = .ok (.goto 9, 3) := by decide +kernel
theorem d_Model_rest_8 : decode b_Model_rest 8 = .ok (.aload_n 0, 1) := by decide +kernel
theorem d_Model_rest_9 : decode b_Model_rest 9 = .ok (.getfield 30, 3) := by decide +kernel
theorem d_Model_rest_12 : decode b_Model_rest 12 = .ok (.iload_n 1, 1) := by decide +kernel
theorem d_Model_rest_13 : decode b_Model_rest 13 = .ok (.iaload, 1) := by decide +kernel
theorem d_Model_rest_14 : decode b_Model_rest 14 = .ok (.istore_n 2, 1) := by decide +kernel
theorem d_Model_rest_15 : decode b_Model_rest 15 = .ok (.iconst 0, 1) := by decide +kernel
theorem d_Model_rest_16 : decode b_Model_rest 16 = .ok (.istore_n 3, 1) := by decide +kernel
theorem d_Model_rest_17 : decode b_Model_rest 17 = .ok (.iload_n 1, 1) := by decide +kernel
theorem d_Model_rest_18 : decode b_Model_rest 18 = .ok (.ifCond .ge 7, 3) := by decide +kernel
theorem d_Model_rest_21 : decode b_Model_rest 21 = .ok (.iconst 0, 1) := by decide +kernel
theorem d_Model_rest_22 : decode b_Model_rest 22 = .ok (.goto 6, 3) := by decide +kernel
theorem d_Model_rest_25 : decode b_Model_rest 25 = .ok (.iload_n 1, 1) := by decide +kernel
theorem d_Model_rest_26 : decode b_Model_rest 26 = .ok (.iconst 1, 1) := by decide +kernel
theorem d_Model_rest_27 : decode b_Model_rest 27 = .ok (.iadd, 1) := by decide +kernel
theorem d_Model_rest_28 : decode b_Model_rest 28 = .ok (.istore 4, 2) := by decide +kernel
theorem d_Model_rest_30 : decode b_Model_rest 30 = .ok (.iload 4, 2) := by decide +kernel
theorem d_Model_rest_32 : decode b_Model_rest 32 = .ok (.aload_n 0, 1) := by decide +kernel
theorem d_Model_rest_33 : decode b_Model_rest 33 = .ok (.getfield 112, 3) := by decide +kernel
theorem d_Model_rest_36 : decode b_Model_rest 36 = .ok (.if_icmp .ge 29, 3) := by decide +kernel
theorem d_Model_rest_39 : decode b_Model_rest 39 = .ok (.iload_n 3, 1) := by decide +kernel
theorem d_Model_rest_40 : decode b_Model_rest 40 = .ok (.ifCond .ne 13, 3) := by decide +kernel
theorem d_Model_rest_43 : decode b_Model_rest 43 = .ok (.aload_n 0, 1) := by decide +kernel
theorem d_Model_rest_44 : decode b_Model_rest 44 = .ok (.getfield 30, 3) := by decide +kernel
theorem d_Model_rest_47 : decode b_Model_rest 47 = .ok (.iload 4, 2) := by decide +kernel
theorem d_Model_rest_49 : decode b_Model_rest 49 = .ok (.iaload, 1) := by decide +kernel
theorem d_Model_rest_50 : decode b_Model_rest 50 = .ok (.ifCond .le 7, 3) := by decide +kernel
theorem d_Model_rest_53 : decode b_Model_rest 53 = .ok (.iconst 1, 1) := by decide +kernel
theorem d_Model_rest_54 : decode b_Model_rest 54 = .ok (.goto 4, 3) := by decide +kernel
theorem d_Model_rest_57 : decode b_Model_rest 57 = .ok (.iconst 0, 1) := by decide +kernel
theorem d_Model_rest_58 : decode b_Model_rest 58 = .ok (.istore_n 3, 1) := by decide +kernel
theorem d_Model_rest_59 : decode b_Model_rest 59 = .ok (.iinc 4 1, 3) := by decide +kernel
theorem d_Model_rest_62 : decode b_Model_rest 62 = .ok (.goto (-32), 3) := by decide +kernel
theorem d_Model_rest_65 : decode b_Model_rest 65 = .ok (.iload_n 2, 1) := by decide +kernel
theorem d_Model_rest_66 : decode b_Model_rest 66 = .ok (.ifCond .ne 9, 3) := by decide +kernel
theorem d_Model_rest_69 : decode b_Model_rest 69 = .ok (.iload_n 3, 1) := by decide +kernel
theorem d_Model_rest_70 : decode b_Model_rest 70 = .ok (.ifCond .ne 5, 3) := by decide +kernel
theorem d_Model_rest_73 : decode b_Model_rest 73 = .ok (.iconst 0, 1) := by decide +kernel
theorem d_Model_rest_74 : decode b_Model_rest 74 = .ok (.ireturn, 1) := by decide +kernel
theorem d_Model_rest_75 : decode b_Model_rest 75 = .ok (.iload_n 2, 1) := by decide +kernel
theorem d_Model_rest_76 : decode b_Model_rest 76 = .ok (.iconst 5, 1) := by decide +kernel
theorem d_Model_rest_77 : decode b_Model_rest 77 = .ok (.if_icmp .ge 7, 3) := by decide +kernel
theorem d_Model_rest_80 : decode b_Model_rest 80 = .ok (.iconst 1, 1) := by decide +kernel
theorem d_Model_rest_81 : decode b_Model_rest 81 = .ok (.goto 17, 3) := by decide +kernel
theorem d_Model_rest_84 : decode b_Model_rest 84 = .ok (.iload_n 2, 1) := by decide +kernel
theorem d_Model_rest_85 : decode b_Model_rest 85 = .ok (.iconst 5, 1) := by decide +kernel
theorem d_Model_rest_86 : decode b_Model_rest 86 = .ok (.if_icmp .gt 7, 3) := by decide +kernel
theorem d_Model_rest_89 : decode b_Model_rest 89 = .ok (.iload_n 3, 1) := by decide +kernel
theorem d_Model_rest_90 : decode b_Model_rest 90 = .ok (.ifCond .eq 7, 3) := by decide +kernel
theorem d_Model_rest_93 : decode b_Model_rest 93 = .ok (.iconst 3, 1) := by decide +kernel
theorem d_Model_rest_94 : decode b_Model_rest 94 = .ok (.goto 4, 3) := by decide +kernel
theorem d_Model_rest_97 : decode b_Model_rest 97 = .ok (.iconst 2, 1) := by decide +kernel
theorem d_Model_rest_98 : decode b_Model_rest 98 = .ok (.ireturn, 1) := by decide +kernel
theorem d_Model_away_0 : decode b_Model_away 0 = .ok (.aload_n 0, 1) := by decide +kernel
theorem d_Model_away_1 : decode b_Model_away 1 = .ok (.getfield 16, 3) := by decide +kernel
theorem d_Model_away_4 : decode b_Model_away 4 = .ok (.tableswitch 78 0 5 #[40, 42, 44, 54, 56, 67], 40) := by decide +kernel
theorem d_Model_away_44 : decode b_Model_away 44 = .ok (.iconst 1, 1) := by decide +kernel
theorem d_Model_away_45 : decode b_Model_away 45 = .ok (.ireturn, 1) := by decide +kernel
theorem d_Model_away_46 : decode b_Model_away 46 = .ok (.iconst 0, 1) := by decide +kernel
theorem d_Model_away_47 : decode b_Model_away 47 = .ok (.ireturn, 1) := by decide +kernel
theorem d_Model_away_48 : decode b_Model_away 48 = .ok (.iload_n 2, 1) := by decide +kernel
theorem d_Model_away_49 : decode b_Model_away 49 = .ok (.ifCond .ne 7, 3) := by decide +kernel
theorem d_Model_away_52 : decode b_Model_away 52 = .ok (.iconst 1, 1) := by decide +kernel
theorem d_Model_away_53 : decode b_Model_away 53 = .ok (.goto 4, 3) := by decide +kernel
theorem d_Model_away_56 : decode b_Model_away 56 = .ok (.iconst 0, 1) := by decide +kernel
theorem d_Model_away_57 : decode b_Model_away 57 = .ok (.ireturn, 1) := by decide +kernel
theorem d_Model_away_58 : decode b_Model_away 58 = .ok (.iload_n 2, 1) := by decide +kernel
theorem d_Model_away_59 : decode b_Model_away 59 = .ok (.ireturn, 1) := by decide +kernel
theorem d_Model_away_60 : decode b_Model_away 60 = .ok (.iload_n 1, 1) := by decide +kernel
theorem d_Model_away_61 : decode b_Model_away 61 = .ok (.iconst 2, 1) := by decide +kernel
theorem d_Model_away_62 : decode b_Model_away 62 = .ok (.if_icmp .lt 7, 3) := by decide +kernel
theorem d_Model_away_65 : decode b_Model_away 65 = .ok (.iconst 1, 1) := by decide +kernel
theorem d_Model_away_66 : decode b_Model_away 66 = .ok (.goto 4, 3) := by decide +kernel
theorem d_Model_away_69 : decode b_Model_away 69 = .ok (.iconst 0, 1) := by decide +kernel
theorem d_Model_away_70 : decode b_Model_away 70 = .ok (.ireturn, 1) := by decide +kernel
theorem d_Model_away_71 : decode b_Model_away 71 = .ok (.iload_n 1, 1) := by decide +kernel
theorem d_Model_away_72 : decode b_Model_away 72 = .ok (.iconst 3, 1) := by decide +kernel
theorem d_Model_away_73 : decode b_Model_away 73 = .ok (.if_icmp .ne 7, 3) := by decide +kernel
theorem d_Model_away_76 : decode b_Model_away 76 = .ok (.iconst 1, 1) := by decide +kernel
theorem d_Model_away_77 : decode b_Model_away 77 = .ok (.goto 4, 3) := by decide +kernel
theorem d_Model_away_80 : decode b_Model_away 80 = .ok (.iconst 0, 1) := by decide +kernel
theorem d_Model_away_81 : decode b_Model_away 81 = .ok (.ireturn, 1) := by decide +kernel
theorem d_Model_away_82 : decode b_Model_away 82 = .ok (.iload_n 1, 1) := by decide +kernel
theorem d_Model_away_83 : decode b_Model_away 83 = .ok (.iconst 3, 1) := by decide +kernel
theorem d_Model_away_84 : decode b_Model_away 84 = .ok (.if_icmp .eq 12, 3) := by decide +kernel
theorem d_Model_away_87 : decode b_Model_away 87 = .ok (.iload_n 1, 1) := by decide +kernel
theorem d_Model_away_88 : decode b_Model_away 88 = .ok (.iconst 2, 1) := by decide +kernel
theorem d_Model_away_89 : decode b_Model_away 89 = .ok (.if_icmp .ne 11, 3) := by decide +kernel
theorem d_Model_away_92 : decode b_Model_away 92 = .ok (.iload_n 3, 1) := by decide +kernel
theorem d_Model_away_93 : decode b_Model_away 93 = .ok (.ifCond .eq 7, 3) := by decide +kernel
theorem d_Model_away_96 : decode b_Model_away 96 = .ok (.iconst 1, 1) := by decide +kernel
theorem d_Model_away_97 : decode b_Model_away 97 = .ok (.goto 4, 3) := by decide +kernel
theorem d_Model_away_100 : decode b_Model_away 100 = .ok (.iconst 0, 1) := by decide +kernel
theorem d_Model_away_101 : decode b_Model_away 101 = .ok (.ireturn, 1) := by decide +kernel
theorem d_Model_round_0 : decode b_Model_round 0 = .ok (.aload_n 0, 1) := by decide +kernel
theorem d_Model_round_1 : decode b_Model_round 1 = .ok (.getfield 119, 3) := by decide +kernel
theorem d_Model_round_4 : decode b_Model_round 4 = .ok (.iload_n 1, 1) := by decide +kernel
theorem d_Model_round_5 : decode b_Model_round 5 = .ok (.iadd, 1) := by decide +kernel
theorem d_Model_round_6 : decode b_Model_round 6 = .ok (.istore_n 3, 1) := by decide +kernel
theorem d_Model_round_7 : decode b_Model_round 7 = .ok (.iload_n 3, 1) := by decide +kernel
theorem d_Model_round_8 : decode b_Model_round 8 = .ok (.aload_n 0, 1) := by decide +kernel
theorem d_Model_round_9 : decode b_Model_round 9 = .ok (.getfield 112, 3) := by decide +kernel
theorem d_Model_round_12 : decode b_Model_round 12 = .ok (.if_icmp .lt 5, 3) := by decide +kernel
theorem d_Model_round_15 : decode b_Model_round 15 = .ok (.iconst 1, 1) := by decide +kernel
theorem d_Model_round_16 : decode b_Model_round 16 = .ok (.ireturn, 1) := by decide +kernel
theorem d_Model_round_17 : decode b_Model_round 17 = .ok (.aload_n 0, 1) := by decide +kernel
theorem d_Model_round_18 : decode b_Model_round 18 = .ok (.iload_n 3, 1) := by decide +kernel
theorem d_Model_round_19 : decode b_Model_round 19 = .ok (.invokevirtual 122, 3) := by decide +kernel
theorem d_Model_round_22 : decode b_Model_round 22 = .ok (.istore 4, 2) := by decide +kernel
theorem d_Model_round_24 : decode b_Model_round 24 = .ok (.iload 4, 2) := by decide +kernel
theorem d_Model_round_26 : decode b_Model_round 26 = .ok (.ifCond .le 14, 3) := by decide +kernel
theorem d_Model_round_29 : decode b_Model_round 29 = .ok (.aload_n 0, 1) := by decide +kernel
theorem d_Model_round_30 : decode b_Model_round 30 = .ok (.getfield 16, 3) := by decide +kernel
theorem d_Model_round_33 : decode b_Model_round 33 = .ok (.bipush 7, 2) := by decide +kernel
theorem d_Model_round_35 : decode b_Model_round 35 = .ok (.if_icmp .ne 5, 3) := by decide +kernel
theorem d_Model_round_38 : decode b_Model_round 38 = .ok (.iconst 0, 1) := by decide +kernel
theorem d_Model_round_39 : decode b_Model_round 39 = .ok (.ireturn, 1) := by decide +kernel
theorem d_Model_round_40 : decode b_Model_round 40 = .ok (.iload_n 3, 1) := by decide +kernel
theorem d_Model_round_41 : decode b_Model_round 41 = .ok (.ifCond .le 21, 3) := by decide +kernel
theorem d_Model_round_44 : decode b_Model_round 44 = .ok (.aload_n 0, 1) := by decide +kernel
theorem d_Model_round_45 : decode b_Model_round 45 = .ok (.getfield 30, 3) := by decide +kernel
theorem d_Model_round_48 : decode b_Model_round 48 = .ok (.iload_n 3, 1) := by decide +kernel
theorem d_Model_round_49 : decode b_Model_round 49 = .ok (.iconst 1, 1) := by decide +kernel
theorem d_Model_round_50 : decode b_Model_round 50 = .ok (.isub, 1) := by decide +kernel
theorem d_Model_round_51 : decode b_Model_round 51 = .ok (.iaload, 1) := by decide +kernel
theorem d_Model_round_52 : decode b_Model_round 52 = .ok (.iconst 2, 1) := by decide +kernel
theorem d_Model_round_53 : decode b_Model_round 53 = .ok (.irem, 1) := by decide +kernel
theorem d_Model_round_54 : decode b_Model_round 54 = .ok (.iconst 1, 1) := by decide +kernel
theorem d_Model_round_55 : decode b_Model_round 55 = .ok (.if_icmp .ne 7, 3) := by decide +kernel
theorem d_Model_round_58 : decode b_Model_round 58 = .ok (.iconst 1, 1) := by decide +kernel
theorem d_Model_round_59 : decode b_Model_round 59 = .ok (.goto 4, 3) := by decide +kernel
theorem d_Model_round_62 : decode b_Model_round 62 = .ok (.iconst 0, 1) := by decide +kernel
theorem d_Model_round_63 : decode b_Model_round 63 = .ok (.istore 5, 2) := by decide +kernel
theorem d_Model_round_65 : decode b_Model_round 65 = .ok (.iload 4, 2) := by decide +kernel
theorem d_Model_round_67 : decode b_Model_round 67 = .ok (.ifCond .le 19, 3) := by decide +kernel
theorem d_Model_round_70 : decode b_Model_round 70 = .ok (.aload_n 0, 1) := by decide +kernel
theorem d_Model_round_71 : decode b_Model_round 71 = .ok (.iload 4, 2) := by decide +kernel
theorem d_Model_round_73 : decode b_Model_round 73 = .ok (.iload_n 2, 1) := by decide +kernel
theorem d_Model_round_74 : decode b_Model_round 74 = .ok (.iload 5, 2) := by decide +kernel
theorem d_Model_round_76 : decode b_Model_round 76 = .ok (.invokevirtual 126, 3) := by decide +kernel
theorem d_Model_round_79 : decode b_Model_round 79 = .ok (.ifCond .eq 7, 3) := by decide +kernel
theorem d_Model_round_82 : decode b_Model_round 82 = .ok (.iconst 1, 1) := by decide +kernel
theorem d_Model_round_83 : decode b_Model_round 83 = .ok (.goto 4, 3) := by decide +kernel
theorem d_Model_round_86 : decode b_Model_round 86 = .ok (.iconst 0, 1) := by decide +kernel
theorem d_Model_round_87 : decode b_Model_round 87 = .ok (.istore 6, 2) := by decide +kernel
theorem d_Model_round_89 : decode b_Model_round 89 = .ok (.aload_n 0, 1) := by decide +kernel
theorem d_Model_round_90 : decode b_Model_round 90 = .ok (.iload_n 3, 1) := by decide +kernel
theorem d_Model_round_91 : decode b_Model_round 91 = .ok (.ifCond .ge 7, 3) := by decide +kernel
theorem d_Model_round_94 : decode b_Model_round 94 = .ok (.iconst 0, 1) := by decide +kernel
theorem d_Model_round_95 : decode b_Model_round 95 = .ok (.goto 4, 3) := by decide +kernel
theorem d_Model_round_98 : decode b_Model_round 98 = .ok (.iload_n 3, 1) := by decide +kernel
theorem d_Model_round_99 : decode b_Model_round 99 = .ok (.putfield 112, 3) := by decide +kernel
theorem d_Model_round_102 : decode b_Model_round 102 = .ok (.iload 6, 2) := by decide +kernel
theorem d_Model_round_104 : decode b_Model_round 104 = .ok (.ifCond .ne 5, 3) := by decide +kernel
theorem d_Model_round_107 : decode b_Model_round 107 = .ok (.iconst 1, 1) := by decide +kernel
theorem d_Model_round_108 : decode b_Model_round 108 = .ok (.ireturn, 1) := by decide +kernel
theorem d_Model_round_109 : decode b_Model_round 109 = .ok (.aload_n 0, 1) := by decide +kernel
theorem d_Model_round_110 : decode b_Model_round 110 = .ok (.getfield 112, 3) := by decide +kernel
theorem d_Model_round_113 : decode b_Model_round 113 = .ok (.iconst 1, 1) := by decide +kernel
theorem d_Model_round_114 : decode b_Model_round 114 = .ok (.isub, 1) := by decide +kernel
theorem d_Model_round_115 : decode b_Model_round 115 = .ok (.istore 7, 2) := by decide +kernel
theorem d_Model_round_117 : decode b_Model_round 117 = .ok (.iload 7, 2) := by decide +kernel
theorem d_Model_round_119 : decode b_Model_round 119 = .ok (.ifCond .lt 32, 3) := by decide +kernel
theorem d_Model_round_122 : decode b_Model_round 122 = .ok (.aload_n 0, 1) := by decide +kernel
theorem d_Model_round_123 : decode b_Model_round 123 = .ok (.getfield 30, 3) := by decide +kernel
theorem d_Model_round_126 : decode b_Model_round 126 = .ok (.iload 7, 2) := by decide +kernel
theorem d_Model_round_128 : decode b_Model_round 128 = .ok (.iaload, 1) := by decide +kernel
theorem d_Model_round_129 : decode b_Model_round 129 = .ok (.bipush 9, 2) := by decide +kernel
theorem d_Model_round_131 : decode b_Model_round 131 = .ok (.if_icmp .ne 20, 3) := by decide +kernel
theorem d_Model_round_134 : decode b_Model_round 134 = .ok (.aload_n 0, 1) := by decide +kernel
theorem d_Model_round_135 : decode b_Model_round 135 = .ok (.getfield 30, 3) := by decide +kernel
theorem d_Model_round_138 : decode b_Model_round 138 = .ok (.iload 7, 2) := by decide +kernel
theorem d_Model_round_140 : decode b_Model_round 140 = .ok (.iconst 0, 1) := by decide +kernel
theorem d_Model_round_141 : decode b_Model_round 141 = .ok (.iastore, 1) := by decide +kernel
theorem d_Model_round_142 : decode b_Model_round 142 = .ok (.iload 7, 2) := by decide +kernel
theorem d_Model_round_144 : decode b_Model_round 144 = .ok (.iconst 1, 1) := by decide +kernel
theorem d_Model_round_145 : decode b_Model_round 145 = .ok (.isub, 1) := by decide +kernel
theorem d_Model_round_146 : decode b_Model_round 146 = .ok (.istore 7, 2) := by decide +kernel
theorem d_Model_round_148 : decode b_Model_round 148 = .ok (.goto (-31), 3) := by decide +kernel
theorem d_Model_round_151 : decode b_Model_round 151 = .ok (.iload 7, 2) := by decide +kernel
theorem d_Model_round_153 : decode b_Model_round 153 = .ok (.ifCond .lt 21, 3) := by decide +kernel
theorem d_Model_round_156 : decode b_Model_round 156 = .ok (.aload_n 0, 1) := by decide +kernel
theorem d_Model_round_157 : decode b_Model_round 157 = .ok (.getfield 30, 3) := by decide +kernel
theorem d_Model_round_160 : decode b_Model_round 160 = .ok (.iload 7, 2) := by decide +kernel
theorem d_Model_round_162 : decode b_Model_round 162 = .ok (.aload_n 0, 1) := by decide +kernel
theorem d_Model_round_163 : decode b_Model_round 163 = .ok (.getfield 30, 3) := by decide +kernel
theorem d_Model_round_166 : decode b_Model_round 166 = .ok (.iload 7, 2) := by decide +kernel
theorem d_Model_round_168 : decode b_Model_round 168 = .ok (.iaload, 1) := by decide +kernel
theorem d_Model_round_169 : decode b_Model_round 169 = .ok (.iconst 1, 1) := by decide +kernel
theorem d_Model_round_170 : decode b_Model_round 170 = .ok (.iadd, 1) := by decide +kernel
theorem d_Model_round_171 : decode b_Model_round 171 = .ok (.iastore, 1) := by decide +kernel
theorem d_Model_round_172 : decode b_Model_round 172 = .ok (.iconst 1, 1) := by decide +kernel
theorem d_Model_round_173 : decode b_Model_round 173 = .ok (.ireturn, 1) := by decide +kernel
theorem d_Model_round_174 : decode b_Model_round 174 = .ok (.aload_n 0, 1) := by decide +kernel
theorem d_Model_round_175 : decode b_Model_round 175 = .ok (.iload_n 3, 1) := by decide +kernel
theorem d_Model_round_176 : decode b_Model_round 176 = .ok (.ifCond .ge 9, 3) := by decide +kernel
theorem d_Model_round_179 : decode b_Model_round 179 = .ok (.iconst 1, 1) := by decide +kernel
theorem d_Model_round_180 : decode b_Model_round 180 = .ok (.iload_n 1, 1) := by decide +kernel
theorem d_Model_round_181 : decode b_Model_round 181 = .ok (.isub, 1) := by decide +kernel
theorem d_Model_round_182 : decode b_Model_round 182 = .ok (.goto 9, 3) := by decide +kernel
theorem d_Model_round_185 : decode b_Model_round 185 = .ok (.aload_n 0, 1) := by decide +kernel
theorem d_Model_round_186 : decode b_Model_round 186 = .ok (.getfield 119, 3) := by decide +kernel
theorem d_Model_round_189 : decode b_Model_round 189 = .ok (.iconst 1, 1) := by decide +kernel
theorem d_Model_round_190 : decode b_Model_round 190 = .ok (.iadd, 1) := by decide +kernel
theorem d_Model_round_191 : decode b_Model_round 191 = .ok (.putfield 119, 3) := by decide +kernel
theorem d_Model_round_194 : decode b_Model_round 194 = .ok (.aload_n 0, 1) := by decide +kernel
theorem d_Model_round_195 : decode b_Model_round 195 = .ok (.getfield 30, 3) := by decide +kernel
theorem d_Model_round_198 : decode b_Model_round 198 = .ok (.iconst 0, 1) := by decide +kernel
theorem d_Model_round_199 : decode b_Model_round 199 = .ok (.iconst 1, 1) := by decide +kernel
theorem d_Model_round_200 : decode b_Model_round 200 = .ok (.iastore, 1) := by decide +kernel
theorem d_Model_round_201 : decode b_Model_round 201 = .ok (.iconst 1, 1) := by decide +kernel
theorem d_Model_round_202 : decode b_Model_round 202 = .ok (.istore 8, 2) := by decide +kernel
theorem d_Model_round_204 : decode b_Model_round 204 = .ok (.iload 8, 2) := by decide +kernel
theorem d_Model_round_206 : decode b_Model_round 206 = .ok (.aload_n 0, 1) := by decide +kernel
theorem d_Model_round_207 : decode b_Model_round 207 = .ok (.getfield 112, 3) := by decide +kernel
theorem d_Model_round_210 : decode b_Model_round 210 = .ok (.if_icmp .gt 17, 3) := by decide +kernel
theorem d_Model_round_213 : decode b_Model_round 213 = .ok (.aload_n 0, 1) := by decide +kernel
theorem d_Model_round_214 : decode b_Model_round 214 = .ok (.getfield 30, 3) := by decide +kernel
theorem d_Model_round_217 : decode b_Model_round 217 = .ok (.iload 8, 2) := by decide +kernel
theorem d_Model_round_219 : decode b_Model_round 219 = .ok (.iconst 0, 1) := by decide +kernel
theorem d_Model_round_220 : decode b_Model_round 220 = .ok (.iastore, 1) := by decide +kernel
theorem d_Model_round_221 : decode b_Model_round 221 = .ok (.iinc 8 1, 3) := by decide +kernel
theorem d_Model_round_224 : decode b_Model_round 224 = .ok (.goto (-20), 3) := by decide +kernel
theorem d_Model_round_227 : decode b_Model_round 227 = .ok (.aload_n 0, 1) := by decide +kernel
theorem d_Model_round_228 : decode b_Model_round 228 = .ok (.aload_n 0, 1) := by decide +kernel
theorem d_Model_round_229 : decode b_Model_round 229 = .ok (.getfield 112, 3) := by decide +kernel
theorem d_Model_round_232 : decode b_Model_round 232 = .ok (.iconst 1, 1) := by decide +kernel
theorem d_Model_round_233 : decode b_Model_round 233 = .ok (.iadd, 1) := by decide +kernel
theorem d_Model_round_234 : decode b_Model_round 234 = .ok (.putfield 112, 3) := by decide +kernel
theorem d_Model_round_237 : decode b_Model_round 237 = .ok (.iconst 1, 1) := by decide +kernel
theorem d_Model_round_238 : decode b_Model_round 238 = .ok (.ireturn, 1) := by decide +kernel
theorem d_Model_placed_0 : decode b_Model_placed 0 = .ok (.aload_n 0, 1) := by decide +kernel
theorem d_Model_placed_1 : decode b_Model_placed 1 = .ok (.getfield 119, 3) := by decide +kernel
theorem d_Model_placed_4 : decode b_Model_placed 4 = .ok (.iload_n 1, 1) := by decide +kernel
theorem d_Model_placed_5 : decode b_Model_placed 5 = .ok (.iadd, 1) := by decide +kernel
theorem d_Model_placed_6 : decode b_Model_placed 6 = .ok (.istore_n 2, 1) := by decide +kernel
theorem d_Model_placed_7 : decode b_Model_placed 7 = .ok (.iload_n 2, 1) := by decide +kernel
theorem d_Model_placed_8 : decode b_Model_placed 8 = .ok (.ifCond .lt 11, 3) := by decide +kernel
theorem d_Model_placed_11 : decode b_Model_placed 11 = .ok (.iload_n 2, 1) := by decide +kernel
theorem d_Model_placed_12 : decode b_Model_placed 12 = .ok (.aload_n 0, 1) := by decide +kernel
theorem d_Model_placed_13 : decode b_Model_placed 13 = .ok (.getfield 112, 3) := by decide +kernel
theorem d_Model_placed_16 : decode b_Model_placed 16 = .ok (.if_icmp .lt 7, 3) := by decide +kernel
theorem d_Model_placed_19 : decode b_Model_placed 19 = .ok (.iconst 0, 1) := by decide +kernel
theorem d_Model_placed_20 : decode b_Model_placed 20 = .ok (.goto 9, 3) := by decide +kernel
theorem d_Model_placed_23 : decode b_Model_placed 23 = .ok (.aload_n 0, 1) := by decide +kernel
theorem d_Model_placed_24 : decode b_Model_placed 24 = .ok (.getfield 30, 3) := by decide +kernel
theorem d_Model_placed_27 : decode b_Model_placed 27 = .ok (.iload_n 2, 1) := by decide +kernel
theorem d_Model_placed_28 : decode b_Model_placed 28 = .ok (.iaload, 1) := by decide +kernel
theorem d_Model_placed_29 : decode b_Model_placed 29 = .ok (.ireturn, 1) := by decide +kernel
theorem d_Model_writeWhole_0 : decode b_Model_writeWhole 0 = .ok (.aload_n 0, 1) := by decide +kernel
theorem d_Model_writeWhole_1 : decode b_Model_writeWhole 1 = .ok (.getfield 112, 3) := by decide +kernel
theorem d_Model_writeWhole_4 : decode b_Model_writeWhole 4 = .ok (.ifCond .le 17, 3) := by decide +kernel
theorem d_Model_writeWhole_7 : decode b_Model_writeWhole 7 = .ok (.aload_n 0, 1) := by decide +kernel
theorem d_Model_writeWhole_8 : decode b_Model_writeWhole 8 = .ok (.getfield 119, 3) := by decide +kernel
theorem d_Model_writeWhole_11 : decode b_Model_writeWhole 11 = .ok (.ifCond .le 10, 3) := by decide +kernel
theorem d_Model_writeWhole_14 : decode b_Model_writeWhole 14 = .ok (.aload_n 0, 1) := by decide +kernel
theorem d_Model_writeWhole_15 : decode b_Model_writeWhole 15 = .ok (.getfield 119, 3) := by decide +kernel
theorem d_Model_writeWhole_18 : decode b_Model_writeWhole 18 = .ok (.goto 4, 3) := by decide +kernel
theorem d_Model_writeWhole_21 : decode b_Model_writeWhole 21 = .ok (.iconst 0, 1) := by decide +kernel
theorem d_Model_writeWhole_22 : decode b_Model_writeWhole 22 = .ok (.istore_n 2, 1) := by decide +kernel
theorem d_Model_writeWhole_23 : decode b_Model_writeWhole 23 = .ok (.iload_n 2, 1) := by decide +kernel
theorem d_Model_writeWhole_24 : decode b_Model_writeWhole 24 = .ok (.aload_n 0, 1) := by decide +kernel
theorem d_Model_writeWhole_25 : decode b_Model_writeWhole 25 = .ok (.getfield 27, 3) := by decide +kernel
theorem d_Model_writeWhole_28 : decode b_Model_writeWhole 28 = .ok (.iconst 0, 1) := by decide +kernel
theorem d_Model_writeWhole_29 : decode b_Model_writeWhole 29 = .ok (.iaload, 1) := by decide +kernel
theorem d_Model_writeWhole_30 : decode b_Model_writeWhole 30 = .ok (.if_icmp .ge 12, 3) := by decide +kernel
theorem d_Model_writeWhole_33 : decode b_Model_writeWhole 33 = .ok (.aload_n 0, 1) := by decide +kernel
theorem d_Model_writeWhole_34 : decode b_Model_writeWhole 34 = .ok (.getfield 27, 3) := by decide +kernel
theorem d_Model_writeWhole_37 : decode b_Model_writeWhole 37 = .ok (.iconst 0, 1) := by decide +kernel
theorem d_Model_writeWhole_38 : decode b_Model_writeWhole 38 = .ok (.iaload, 1) := by decide +kernel
theorem d_Model_writeWhole_39 : decode b_Model_writeWhole 39 = .ok (.goto 4, 3) := by decide +kernel
theorem d_Model_writeWhole_42 : decode b_Model_writeWhole 42 = .ok (.iload_n 2, 1) := by decide +kernel
theorem d_Model_writeWhole_43 : decode b_Model_writeWhole 43 = .ok (.istore_n 3, 1) := by decide +kernel
theorem d_Model_writeWhole_44 : decode b_Model_writeWhole 44 = .ok (.iload_n 3, 1) := by decide +kernel
theorem d_Model_writeWhole_45 : decode b_Model_writeWhole 45 = .ok (.ifCond .ne 11, 3) := by decide +kernel
theorem d_Model_writeWhole_48 : decode b_Model_writeWhole 48 = .ok (.iload_n 1, 1) := by decide +kernel
theorem d_Model_writeWhole_49 : decode b_Model_writeWhole 49 = .ok (.ifCond .ne 7, 3) := by decide +kernel
theorem d_Model_writeWhole_52 : decode b_Model_writeWhole 52 = .ok (.iconst 1, 1) := by decide +kernel
theorem d_Model_writeWhole_53 : decode b_Model_writeWhole 53 = .ok (.goto 4, 3) := by decide +kernel
theorem d_Model_writeWhole_56 : decode b_Model_writeWhole 56 = .ok (.iload_n 3, 1) := by decide +kernel
theorem d_Model_writeWhole_57 : decode b_Model_writeWhole 57 = .ok (.istore_n 3, 1) := by decide +kernel
theorem d_Model_writeWhole_58 : decode b_Model_writeWhole 58 = .ok (.aload_n 0, 1) := by decide +kernel
theorem d_Model_writeWhole_59 : decode b_Model_writeWhole 59 = .ok (.getfield 33, 3) := by decide +kernel
theorem d_Model_writeWhole_62 : decode b_Model_writeWhole 62 = .ok (.iconst 0, 1) := by decide +kernel
theorem d_Model_writeWhole_63 : decode b_Model_writeWhole 63 = .ok (.aload_n 0, 1) := by decide +kernel
theorem d_Model_writeWhole_64 : decode b_Model_writeWhole 64 = .ok (.getfield 39, 3) := by decide +kernel
theorem d_Model_writeWhole_67 : decode b_Model_writeWhole 67 = .ok (.iastore, 1) := by decide +kernel
theorem d_Model_writeWhole_68 : decode b_Model_writeWhole 68 = .ok (.iload_n 3, 1) := by decide +kernel
theorem d_Model_writeWhole_69 : decode b_Model_writeWhole 69 = .ok (.istore 4, 2) := by decide +kernel
theorem d_Model_writeWhole_71 : decode b_Model_writeWhole 71 = .ok (.iload 4, 2) := by decide +kernel
theorem d_Model_writeWhole_73 : decode b_Model_writeWhole 73 = .ok (.ifCond .le 71, 3) := by decide +kernel
theorem d_Model_writeWhole_76 : decode b_Model_writeWhole 76 = .ok (.aload_n 0, 1) := by decide +kernel
theorem d_Model_writeWhole_77 : decode b_Model_writeWhole 77 = .ok (.getfield 27, 3) := by decide +kernel
theorem d_Model_writeWhole_80 : decode b_Model_writeWhole 80 = .ok (.iconst 3, 1) := by decide +kernel
theorem d_Model_writeWhole_81 : decode b_Model_writeWhole 81 = .ok (.iaload, 1) := by decide +kernel
theorem d_Model_writeWhole_82 : decode b_Model_writeWhole 82 = .ok (.ifCond .le 27, 3) := by decide +kernel
theorem d_Model_writeWhole_85 : decode b_Model_writeWhole 85 = .ok (.iload 4, 2) := by decide +kernel
theorem d_Model_writeWhole_87 : decode b_Model_writeWhole 87 = .ok (.iload_n 3, 1) := by decide +kernel
theorem d_Model_writeWhole_88 : decode b_Model_writeWhole 88 = .ok (.if_icmp .ge 21, 3) := by decide +kernel
theorem d_Model_writeWhole_91 : decode b_Model_writeWhole 91 = .ok (.iload 4, 2) := by decide +kernel
theorem d_Model_writeWhole_93 : decode b_Model_writeWhole 93 = .ok (.aload_n 0, 1) := by decide +kernel
theorem d_Model_writeWhole_94 : decode b_Model_writeWhole 94 = .ok (.getfield 27, 3) := by decide +kernel
theorem d_Model_writeWhole_97 : decode b_Model_writeWhole 97 = .ok (.iconst 3, 1) := by decide +kernel
theorem d_Model_writeWhole_98 : decode b_Model_writeWhole 98 = .ok (.iaload, 1) := by decide +kernel
theorem d_Model_writeWhole_99 : decode b_Model_writeWhole 99 = .ok (.irem, 1) := by decide +kernel
theorem d_Model_writeWhole_100 : decode b_Model_writeWhole 100 = .ok (.ifCond .ne 9, 3) := by decide +kernel
theorem d_Model_writeWhole_103 : decode b_Model_writeWhole 103 = .ok (.aload_n 0, 1) := by decide +kernel
theorem d_Model_writeWhole_104 : decode b_Model_writeWhole 104 = .ok (.bipush 44, 2) := by decide +kernel
theorem d_Model_writeWhole_106 : decode b_Model_writeWhole 106 = .ok (.invokevirtual 109, 3) := by decide +kernel
theorem d_Model_writeWhole_109 : decode b_Model_writeWhole 109 = .ok (.aload_n 0, 1) := by decide +kernel
theorem d_Model_writeWhole_110 : decode b_Model_writeWhole 110 = .ok (.getfield 112, 3) := by decide +kernel
theorem d_Model_writeWhole_113 : decode b_Model_writeWhole 113 = .ok (.ifCond .le 13, 3) := by decide +kernel
theorem d_Model_writeWhole_116 : decode b_Model_writeWhole 116 = .ok (.aload_n 0, 1) := by decide +kernel
theorem d_Model_writeWhole_117 : decode b_Model_writeWhole 117 = .ok (.iload 4, 2) := by decide +kernel
theorem d_Model_writeWhole_119 : decode b_Model_writeWhole 119 = .ok (.ineg, 1) := by decide +kernel
theorem d_Model_writeWhole_120 : decode b_Model_writeWhole 120 = .ok (.invokevirtual 130, 3) := by decide +kernel
theorem d_Model_writeWhole_123 : decode b_Model_writeWhole 123 = .ok (.goto 4, 3) := by decide +kernel
theorem d_Model_writeWhole_126 : decode b_Model_writeWhole 126 = .ok (.iconst 0, 1) := by decide +kernel
theorem d_Model_writeWhole_127 : decode b_Model_writeWhole 127 = .ok (.istore 5, 2) := by decide +kernel
theorem d_Model_writeWhole_129 : decode b_Model_writeWhole 129 = .ok (.aload_n 0, 1) := by decide +kernel
theorem d_Model_writeWhole_130 : decode b_Model_writeWhole 130 = .ok (.bipush 48, 2) := by decide +kernel
theorem d_Model_writeWhole_132 : decode b_Model_writeWhole 132 = .ok (.iload 5, 2) := by decide +kernel
theorem d_Model_writeWhole_134 : decode b_Model_writeWhole 134 = .ok (.iadd, 1) := by decide +kernel
theorem d_Model_writeWhole_135 : decode b_Model_writeWhole 135 = .ok (.invokevirtual 109, 3) := by decide +kernel
theorem d_Model_writeWhole_138 : decode b_Model_writeWhole 138 = .ok (.iinc 4 (-1), 3) := by decide +kernel
theorem d_Model_writeWhole_141 : decode b_Model_writeWhole 141 = .ok (.goto (-70), 3) := by decide +kernel
theorem d_Model_writeWhole_144 : decode b_Model_writeWhole 144 = .ok (.aload_n 0, 1) := by decide +kernel
theorem d_Model_writeWhole_145 : decode b_Model_writeWhole 145 = .ok (.getfield 33, 3) := by decide +kernel
theorem d_Model_writeWhole_148 : decode b_Model_writeWhole 148 = .ok (.iconst 1, 1) := by decide +kernel
theorem d_Model_writeWhole_149 : decode b_Model_writeWhole 149 = .ok (.aload_n 0, 1) := by decide +kernel
theorem d_Model_writeWhole_150 : decode b_Model_writeWhole 150 = .ok (.getfield 39, 3) := by decide +kernel
theorem d_Model_writeWhole_153 : decode b_Model_writeWhole 153 = .ok (.iastore, 1) := by decide +kernel
theorem d_Model_writeWhole_154 : decode b_Model_writeWhole 154 = .ok (.return_, 1) := by decide +kernel
theorem d_Model_fractions_0 : decode b_Model_fractions 0 = .ok (.iconst 0, 1) := by decide +kernel
theorem d_Model_fractions_1 : decode b_Model_fractions 1 = .ok (.istore_n 1, 1) := by decide +kernel
theorem d_Model_fractions_2 : decode b_Model_fractions 2 = .ok (.iconst 0, 1) := by decide +kernel
theorem d_Model_fractions_3 : decode b_Model_fractions 3 = .ok (.istore_n 2, 1) := by decide +kernel
theorem d_Model_fractions_4 : decode b_Model_fractions 4 = .ok (.iload_n 2, 1) := by decide +kernel
theorem d_Model_fractions_5 : decode b_Model_fractions 5 = .ok (.bipush 9, 2) := by decide +kernel
theorem d_Model_fractions_7 : decode b_Model_fractions 7 = .ok (.if_icmp .ge 32, 3) := by decide +kernel
theorem d_Model_fractions_10 : decode b_Model_fractions 10 = .ok (.aload_n 0, 1) := by decide +kernel
theorem d_Model_fractions_11 : decode b_Model_fractions 11 = .ok (.getfield 112, 3) := by decide +kernel
theorem d_Model_fractions_14 : decode b_Model_fractions 14 = .ok (.ifCond .le 17, 3) := by decide +kernel
theorem d_Model_fractions_17 : decode b_Model_fractions 17 = .ok (.aload_n 0, 1) := by decide +kernel
theorem d_Model_fractions_18 : decode b_Model_fractions 18 = .ok (.iload_n 2, 1) := by decide +kernel
theorem d_Model_fractions_19 : decode b_Model_fractions 19 = .ok (.invokevirtual 130, 3) := by decide +kernel
theorem d_Model_fractions_22 : decode b_Model_fractions 22 = .ok (.ifCond .le 9, 3) := by decide +kernel
theorem d_Model_fractions_25 : decode b_Model_fractions 25 = .ok (.iload_n 2, 1) := by decide +kernel
theorem d_Model_fractions_26 : decode b_Model_fractions 26 = .ok (.iconst 1, 1) := by decide +kernel
theorem d_Model_fractions_27 : decode b_Model_fractions 27 = .ok (.iadd, 1) := by decide +kernel
theorem d_Model_fractions_28 : decode b_Model_fractions 28 = .ok (.goto 4, 3) := by decide +kernel
theorem d_Model_fractions_31 : decode b_Model_fractions 31 = .ok (.iload_n 1, 1) := by decide +kernel
theorem d_Model_fractions_32 : decode b_Model_fractions 32 = .ok (.istore_n 1, 1) := by decide +kernel
theorem d_Model_fractions_33 : decode b_Model_fractions 33 = .ok (.iinc 2 1, 3) := by decide +kernel
theorem d_Model_fractions_36 : decode b_Model_fractions 36 = .ok (.goto (-32), 3) := by decide +kernel
theorem d_Model_fractions_39 : decode b_Model_fractions 39 = .ok (.iload_n 1, 1) := by decide +kernel
theorem d_Model_fractions_40 : decode b_Model_fractions 40 = .ok (.aload_n 0, 1) := by decide +kernel
theorem d_Model_fractions_41 : decode b_Model_fractions 41 = .ok (.getfield 27, 3) := by decide +kernel
theorem d_Model_fractions_44 : decode b_Model_fractions 44 = .ok (.iconst 1, 1) := by decide +kernel
theorem d_Model_fractions_45 : decode b_Model_fractions 45 = .ok (.iaload, 1) := by decide +kernel
theorem d_Model_fractions_46 : decode b_Model_fractions 46 = .ok (.if_icmp .ge 12, 3) := by decide +kernel
theorem d_Model_fractions_49 : decode b_Model_fractions 49 = .ok (.aload_n 0, 1) := by decide +kernel
theorem d_Model_fractions_50 : decode b_Model_fractions 50 = .ok (.getfield 27, 3) := by decide +kernel
theorem d_Model_fractions_53 : decode b_Model_fractions 53 = .ok (.iconst 1, 1) := by decide +kernel
theorem d_Model_fractions_54 : decode b_Model_fractions 54 = .ok (.iaload, 1) := by decide +kernel
theorem d_Model_fractions_55 : decode b_Model_fractions 55 = .ok (.goto 4, 3) := by decide +kernel
theorem d_Model_fractions_58 : decode b_Model_fractions 58 = .ok (.iload_n 1, 1) := by decide +kernel
theorem d_Model_fractions_59 : decode b_Model_fractions 59 = .ok (.ireturn, 1) := by decide +kernel
