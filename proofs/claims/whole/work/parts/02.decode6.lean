theorem d_Model_ofSign_0 : decode b_Model_ofSign 0 = .ok (.aload_n 0, 1) := by decide +kernel
theorem d_Model_ofSign_1 : decode b_Model_ofSign 1 = .ok (.iload_n 1, 1) := by decide +kernel
theorem d_Model_ofSign_2 : decode b_Model_ofSign 2 = .ok (.iconst 0, 1) := by decide +kernel
theorem d_Model_ofSign_3 : decode b_Model_ofSign 3 = .ok (.invokevirtual 101, 3) := by decide +kernel
theorem d_Model_ofSign_6 : decode b_Model_ofSign 6 = .ok (.istore_n 2, 1) := by decide +kernel
theorem d_Model_ofSign_7 : decode b_Model_ofSign 7 = .ok (.aload_n 0, 1) := by decide +kernel
theorem d_Model_ofSign_8 : decode b_Model_ofSign 8 = .ok (.iload_n 1, 1) := by decide +kernel
theorem d_Model_ofSign_9 : decode b_Model_ofSign 9 = .ok (.iconst 1, 1) := by decide +kernel
theorem d_Model_ofSign_10 : decode b_Model_ofSign 10 = .ok (.invokevirtual 101, 3) := by decide +kernel
theorem d_Model_ofSign_13 : decode b_Model_ofSign 13 = .ok (.istore_n 3, 1) := by decide +kernel
theorem d_Model_ofSign_14 : decode b_Model_ofSign 14 = .ok (.iload_n 2, 1) := by decide +kernel
theorem d_Model_ofSign_15 : decode b_Model_ofSign 15 = .ok (.iload_n 3, 1) := by decide +kernel
theorem d_Model_ofSign_16 : decode b_Model_ofSign 16 = .ok (.iadd, 1) := by decide +kernel
theorem d_Model_ofSign_17 : decode b_Model_ofSign 17 = .ok (.aload_n 0, 1) := by decide +kernel
theorem d_Model_ofSign_18 : decode b_Model_ofSign 18 = .ok (.getfield 36, 3) := by decide +kernel
theorem d_Model_ofSign_21 : decode b_Model_ofSign 21 = .ok (.if_icmp .le 5, 3) := by decide +kernel
theorem d_Model_ofSign_24 : decode b_Model_ofSign 24 = .ok (.iconst 0, 1) := by decide +kernel
theorem d_Model_ofSign_25 : decode b_Model_ofSign 25 = .ok (.ireturn, 1) := by decide +kernel
theorem d_Model_ofSign_26 : decode b_Model_ofSign 26 = .ok (.iconst 1, 1) := by decide +kernel
theorem d_Model_ofSign_27 : decode b_Model_ofSign 27 = .ok (.istore 4, 2) := by decide +kernel
theorem d_Model_ofSign_29 : decode b_Model_ofSign 29 = .ok (.iconst 0, 1) := by decide +kernel
theorem d_Model_ofSign_30 : decode b_Model_ofSign 30 = .ok (.istore 5, 2) := by decide +kernel
theorem d_Model_ofSign_32 : decode b_Model_ofSign 32 = .ok (.iload 5, 2) := by decide +kernel
theorem d_Model_ofSign_34 : decode b_Model_ofSign 34 = .ok (.iload_n 2, 1) := by decide +kernel
theorem d_Model_ofSign_35 : decode b_Model_ofSign 35 = .ok (.if_icmp .ge 39, 3) := by decide +kernel
theorem d_Model_ofSign_38 : decode b_Model_ofSign 38 = .ok (.iload 4, 2) := by decide +kernel
theorem d_Model_ofSign_40 : decode b_Model_ofSign 40 = .ok (.ifCond .eq 25, 3) := by decide +kernel
theorem d_Model_ofSign_43 : decode b_Model_ofSign 43 = .ok (.aload_n 0, 1) := by decide +kernel
theorem d_Model_ofSign_44 : decode b_Model_ofSign 44 = .ok (.getfield 7, 3) := by decide +kernel
theorem d_Model_ofSign_47 : decode b_Model_ofSign 47 = .ok (.iload 5, 2) := by decide +kernel
theorem d_Model_ofSign_49 : decode b_Model_ofSign 49 = .ok (.caload, 1) := by decide +kernel
theorem d_Model_ofSign_50 : decode b_Model_ofSign 50 = .ok (.aload_n 0, 1) := by decide +kernel
theorem d_Model_ofSign_51 : decode b_Model_ofSign 51 = .ok (.iload_n 1, 1) := by decide +kernel
theorem d_Model_ofSign_52 : decode b_Model_ofSign 52 = .ok (.iconst 0, 1) := by decide +kernel
theorem d_Model_ofSign_53 : decode b_Model_ofSign 53 = .ok (.iload 5, 2) := by decide +kernel
theorem d_Model_ofSign_55 : decode b_Model_ofSign 55 = .ok (.invokevirtual 105, 3) := by decide +kernel
theorem d_Model_ofSign_58 : decode b_Model_ofSign 58 = .ok (.if_icmp .ne 7, 3) := by decide +kernel
theorem d_Model_ofSign_61 : decode b_Model_ofSign 61 = .ok (.iconst 1, 1) := by decide +kernel
theorem d_Model_ofSign_62 : decode b_Model_ofSign 62 = .ok (.goto 4, 3) := by decide +kernel
theorem d_Model_ofSign_65 : decode b_Model_ofSign 65 = .ok (.iconst 0, 1) := by decide +kernel
theorem d_Model_ofSign_66 : decode b_Model_ofSign 66 = .ok (.istore 4, 2) := by decide +kernel
theorem d_Model_ofSign_68 : decode b_Model_ofSign 68 = .ok (.iinc 5 1, 3) := by decide +kernel
theorem d_Model_ofSign_71 : decode b_Model_ofSign 71 = .ok (.goto (-39), 3) := by decide +kernel
theorem d_Model_ofSign_74 : decode b_Model_ofSign 74 = .ok (.iconst 0, 1) := by decide +kernel
theorem d_Model_ofSign_75 : decode b_Model_ofSign 75 = .ok (.istore 5, 2) := by decide +kernel
theorem d_Model_ofSign_77 : decode b_Model_ofSign 77 = .ok (.iload 5, 2) := by decide +kernel
theorem d_Model_ofSign_79 : decode b_Model_ofSign 79 = .ok (.iload_n 3, 1) := by decide +kernel
theorem d_Model_ofSign_80 : decode b_Model_ofSign 80 = .ok (.if_icmp .ge 46, 3) := by decide +kernel
theorem d_Model_ofSign_83 : decode b_Model_ofSign 83 = .ok (.iload 4, 2) := by decide +kernel
theorem d_Model_ofSign_85 : decode b_Model_ofSign 85 = .ok (.ifCond .eq 32, 3) := by decide +kernel
theorem d_Model_ofSign_88 : decode b_Model_ofSign 88 = .ok (.aload_n 0, 1) := by decide +kernel
theorem d_Model_ofSign_89 : decode b_Model_ofSign 89 = .ok (.getfield 7, 3) := by decide +kernel
theorem d_Model_ofSign_92 : decode b_Model_ofSign 92 = .ok (.aload_n 0, 1) := by decide +kernel
theorem d_Model_ofSign_93 : decode b_Model_ofSign 93 = .ok (.getfield 36, 3) := by decide +kernel
theorem d_Model_ofSign_96 : decode b_Model_ofSign 96 = .ok (.iload_n 3, 1) := by decide +kernel
theorem d_Model_ofSign_97 : decode b_Model_ofSign 97 = .ok (.isub, 1) := by decide +kernel
theorem d_Model_ofSign_98 : decode b_Model_ofSign 98 = .ok (.iload 5, 2) := by decide +kernel
theorem d_Model_ofSign_100 : decode b_Model_ofSign 100 = .ok (.iadd, 1) := by decide +kernel
theorem d_Model_ofSign_101 : decode b_Model_ofSign 101 = .ok (.caload, 1) := by decide +kernel
theorem d_Model_ofSign_102 : decode b_Model_ofSign 102 = .ok (.aload_n 0, 1) := by decide +kernel
theorem d_Model_ofSign_103 : decode b_Model_ofSign 103 = .ok (.iload_n 1, 1) := by decide +kernel
theorem d_Model_ofSign_104 : decode b_Model_ofSign 104 = .ok (.iconst 1, 1) := by decide +kernel
theorem d_Model_ofSign_105 : decode b_Model_ofSign 105 = .ok (.iload 5, 2) := by decide +kernel
theorem d_Model_ofSign_107 : decode b_Model_ofSign 107 = .ok (.invokevirtual 105, 3) := by decide +kernel
theorem d_Model_ofSign_110 : decode b_Model_ofSign 110 = .ok (.if_icmp .ne 7, 3) := by decide +kernel
theorem d_Model_ofSign_113 : decode b_Model_ofSign 113 = .ok (.iconst 1, 1) := by decide +kernel
theorem d_Model_ofSign_114 : decode b_Model_ofSign 114 = .ok (.goto 4, 3) := by decide +kernel
theorem d_Model_ofSign_117 : decode b_Model_ofSign 117 = .ok (.iconst 0, 1) := by decide +kernel
theorem d_Model_ofSign_118 : decode b_Model_ofSign 118 = .ok (.istore 4, 2) := by decide +kernel
theorem d_Model_ofSign_120 : decode b_Model_ofSign 120 = .ok (.iinc 5 1, 3) := by decide +kernel
theorem d_Model_ofSign_123 : decode b_Model_ofSign 123 = .ok (.goto (-46), 3) := by decide +kernel
theorem d_Model_ofSign_126 : decode b_Model_ofSign 126 = .ok (.iload 4, 2) := by decide +kernel
theorem d_Model_ofSign_128 : decode b_Model_ofSign 128 = .ok (.ifCond .eq 21, 3) := by decide +kernel
theorem d_Model_ofSign_131 : decode b_Model_ofSign 131 = .ok (.aload_n 0, 1) := by decide +kernel
theorem d_Model_ofSign_132 : decode b_Model_ofSign 132 = .ok (.iload_n 2, 1) := by decide +kernel
theorem d_Model_ofSign_133 : decode b_Model_ofSign 133 = .ok (.aload_n 0, 1) := by decide +kernel
theorem d_Model_ofSign_134 : decode b_Model_ofSign 134 = .ok (.getfield 36, 3) := by decide +kernel
theorem d_Model_ofSign_137 : decode b_Model_ofSign 137 = .ok (.iload_n 3, 1) := by decide +kernel
theorem d_Model_ofSign_138 : decode b_Model_ofSign 138 = .ok (.isub, 1) := by decide +kernel
theorem d_Model_ofSign_139 : decode b_Model_ofSign 139 = .ok (.invokevirtual 193, 3) := by decide +kernel
theorem d_Model_ofSign_142 : decode b_Model_ofSign 142 = .ok (.ifCond .eq 7, 3) := by decide +kernel
theorem d_Model_ofSign_145 : decode b_Model_ofSign 145 = .ok (.iconst 1, 1) := by decide +kernel
theorem d_Model_ofSign_146 : decode b_Model_ofSign 146 = .ok (.goto 4, 3) := by decide +kernel
theorem d_Model_ofSign_149 : decode b_Model_ofSign 149 = .ok (.iconst 0, 1) := by decide +kernel
theorem d_Model_ofSign_150 : decode b_Model_ofSign 150 = .ok (.ireturn, 1) := by decide +kernel
theorem d_Model_parse_0 : decode b_Model_parse 0 = .ok (.aload_n 0, 1) := by decide +kernel
theorem d_Model_parse_1 : decode b_Model_parse 1 = .ok (.getfield 91, 3) := by decide +kernel
theorem d_Model_parse_4 : decode b_Model_parse 4 = .ok (.ifCond .ne 5, 3) := by decide +kernel
theorem d_Model_parse_7 : decode b_Model_parse 7 = .ok (.iconst 0, 1) := by decide +kernel
theorem d_Model_parse_8 : decode b_Model_parse 8 = .ok (.ireturn, 1) := by decide +kernel
theorem d_Model_parse_9 : decode b_Model_parse 9 = .ok (.aload_n 0, 1) := by decide +kernel
theorem d_Model_parse_10 : decode b_Model_parse 10 = .ok (.iconst 0, 1) := by decide +kernel
theorem d_Model_parse_11 : decode b_Model_parse 11 = .ok (.invokevirtual 196, 3) := by decide +kernel
theorem d_Model_parse_14 : decode b_Model_parse 14 = .ok (.istore_n 1, 1) := by decide +kernel
theorem d_Model_parse_15 : decode b_Model_parse 15 = .ok (.iload_n 1, 1) := by decide +kernel
theorem d_Model_parse_16 : decode b_Model_parse 16 = .ok (.ifCond .ne 15, 3) := by decide +kernel
theorem d_Model_parse_19 : decode b_Model_parse 19 = .ok (.aload_n 0, 1) := by decide +kernel
theorem d_Model_parse_20 : decode b_Model_parse 20 = .ok (.iconst 1, 1) := by decide +kernel
theorem d_Model_parse_21 : decode b_Model_parse 21 = .ok (.invokevirtual 196, 3) := by decide +kernel
theorem d_Model_parse_24 : decode b_Model_parse 24 = .ok (.ifCond .eq 7, 3) := by decide +kernel
theorem d_Model_parse_27 : decode b_Model_parse 27 = .ok (.iconst 1, 1) := by decide +kernel
theorem d_Model_parse_28 : decode b_Model_parse 28 = .ok (.goto 4, 3) := by decide +kernel
theorem d_Model_parse_31 : decode b_Model_parse 31 = .ok (.iconst 0, 1) := by decide +kernel
theorem d_Model_parse_32 : decode b_Model_parse 32 = .ok (.istore_n 2, 1) := by decide +kernel
theorem d_Model_parse_33 : decode b_Model_parse 33 = .ok (.iload_n 1, 1) := by decide +kernel
theorem d_Model_parse_34 : decode b_Model_parse 34 = .ok (.ifCond .ne 7, 3) := by decide +kernel
theorem d_Model_parse_37 : decode b_Model_parse 37 = .ok (.iload_n 2, 1) := by decide +kernel
theorem d_Model_parse_38 : decode b_Model_parse 38 = .ok (.ifCond .eq 10, 3) := by decide +kernel
theorem d_Model_parse_41 : decode b_Model_parse 41 = .ok (.aload_n 0, 1) := by decide +kernel
theorem d_Model_parse_42 : decode b_Model_parse 42 = .ok (.getfield 179, 3) := by decide +kernel
theorem d_Model_parse_45 : decode b_Model_parse 45 = .ok (.ifCond .eq 5, 3) := by decide +kernel
theorem d_Model_parse_48 : decode b_Model_parse 48 = .ok (.iconst 0, 1) := by decide +kernel
theorem d_Model_parse_49 : decode b_Model_parse 49 = .ok (.ireturn, 1) := by decide +kernel
theorem d_Model_parse_50 : decode b_Model_parse 50 = .ok (.aload_n 0, 1) := by decide +kernel
theorem d_Model_parse_51 : decode b_Model_parse 51 = .ok (.iload_n 2, 1) := by decide +kernel
theorem d_Model_parse_52 : decode b_Model_parse 52 = .ok (.ifCond .eq 11, 3) := by decide +kernel
theorem d_Model_parse_55 : decode b_Model_parse 55 = .ok (.aload_n 0, 1) := by decide +kernel
theorem d_Model_parse_56 : decode b_Model_parse 56 = .ok (.getfield 186, 3) := by decide +kernel
theorem d_Model_parse_59 : decode b_Model_parse 59 = .ok (.lneg, 1) := by decide +kernel
theorem d_Model_parse_60 : decode b_Model_parse 60 = .ok (.goto 7, 3) := by decide +kernel
theorem d_Model_parse_63 : decode b_Model_parse 63 = .ok (.aload_n 0, 1) := by decide +kernel
theorem d_Model_parse_64 : decode b_Model_parse 64 = .ok (.getfield 186, 3) := by decide +kernel
theorem d_Model_parse_67 : decode b_Model_parse 67 = .ok (.putfield 199, 3) := by decide +kernel
theorem d_Model_parse_70 : decode b_Model_parse 70 = .ok (.aload_n 0, 1) := by decide +kernel
theorem d_Model_parse_71 : decode b_Model_parse 71 = .ok (.aload_n 0, 1) := by decide +kernel
theorem d_Model_parse_72 : decode b_Model_parse 72 = .ok (.getfield 190, 3) := by decide +kernel
theorem d_Model_parse_75 : decode b_Model_parse 75 = .ok (.putfield 202, 3) := by decide +kernel
theorem d_Model_parse_78 : decode b_Model_parse 78 = .ok (.iconst 1, 1) := by decide +kernel
theorem d_Model_parse_79 : decode b_Model_parse 79 = .ok (.ireturn, 1) := by decide +kernel
theorem d_Model_value_0 : decode b_Model_value 0 = .ok (.aload_n 0, 1) := by decide +kernel
theorem d_Model_value_1 : decode b_Model_value 1 = .ok (.getfield 199, 3) := by decide +kernel
theorem d_Model_value_4 : decode b_Model_value 4 = .ok (.lreturn, 1) := by decide +kernel
theorem d_Model_scale_0 : decode b_Model_scale 0 = .ok (.aload_n 0, 1) := by decide +kernel
theorem d_Model_scale_1 : decode b_Model_scale 1 = .ok (.getfield 202, 3) := by decide +kernel
theorem d_Model_scale_4 : decode b_Model_scale 4 = .ok (.ireturn, 1) := by decide +kernel
theorem d_Long_compare_0 : decode b_Long_compare 0 = .ok (.lload_n 0, 1) := by decide +kernel
theorem d_Long_compare_1 : decode b_Long_compare 1 = .ok (.lload_n 2, 1) := by decide +kernel
theorem d_Long_compare_2 : decode b_Long_compare 2 = .ok (.lcmp, 1) := by decide +kernel
theorem d_Long_compare_3 : decode b_Long_compare 3 = .ok (.ifCond .ge 7, 3) := by decide +kernel
theorem d_Long_compare_6 : decode b_Long_compare 6 = .ok (.iconst (-1), 1) := by decide +kernel
theorem d_Long_compare_7 : decode b_Long_compare 7 = .ok (.goto 14, 3) := by decide +kernel
theorem d_Long_compare_10 : decode b_Long_compare 10 = .ok (.lload_n 0, 1) := by decide +kernel
theorem d_Long_compare_11 : decode b_Long_compare 11 = .ok (.lload_n 2, 1) := by decide +kernel
theorem d_Long_compare_12 : decode b_Long_compare 12 = .ok (.lcmp, 1) := by decide +kernel
theorem d_Long_compare_13 : decode b_Long_compare 13 = .ok (.ifCond .ne 7, 3) := by decide +kernel
theorem d_Long_compare_16 : decode b_Long_compare 16 = .ok (.iconst 0, 1) := by decide +kernel
theorem d_Long_compare_17 : decode b_Long_compare 17 = .ok (.goto 4, 3) := by decide +kernel
theorem d_Long_compare_20 : decode b_Long_compare 20 = .ok (.iconst 1, 1) := by decide +kernel
theorem d_Long_compare_21 : decode b_Long_compare 21 = .ok (.ireturn, 1) := by decide +kernel
