theorem d_Model_writeFraction_0 : decode b_Model_writeFraction 0 = .ok (.iload_n 1, 1) := by decide +kernel
theorem d_Model_writeFraction_1 : decode b_Model_writeFraction 1 = .ok (.ifCond .le 9, 3) := by decide +kernel
theorem d_Model_writeFraction_4 : decode b_Model_writeFraction 4 = .ok (.aload_n 0, 1) := by decide +kernel
theorem d_Model_writeFraction_5 : decode b_Model_writeFraction 5 = .ok (.bipush 46, 2) := by decide +kernel
theorem d_Model_writeFraction_7 : decode b_Model_writeFraction 7 = .ok (.invokevirtual 109, 3) := by decide +kernel
theorem d_Model_writeFraction_10 : decode b_Model_writeFraction 10 = .ok (.aload_n 0, 1) := by decide +kernel
theorem d_Model_writeFraction_11 : decode b_Model_writeFraction 11 = .ok (.getfield 33, 3) := by decide +kernel
theorem d_Model_writeFraction_14 : decode b_Model_writeFraction 14 = .ok (.iconst 2, 1) := by decide +kernel
theorem d_Model_writeFraction_15 : decode b_Model_writeFraction 15 = .ok (.aload_n 0, 1) := by decide +kernel
theorem d_Model_writeFraction_16 : decode b_Model_writeFraction 16 = .ok (.getfield 39, 3) := by decide +kernel
theorem d_Model_writeFraction_19 : decode b_Model_writeFraction 19 = .ok (.iastore, 1) := by decide +kernel
theorem d_Model_writeFraction_20 : decode b_Model_writeFraction 20 = .ok (.iconst 0, 1) := by decide +kernel
theorem d_Model_writeFraction_21 : decode b_Model_writeFraction 21 = .ok (.istore_n 2, 1) := by decide +kernel
theorem d_Model_writeFraction_22 : decode b_Model_writeFraction 22 = .ok (.iload_n 2, 1) := by decide +kernel
theorem d_Model_writeFraction_23 : decode b_Model_writeFraction 23 = .ok (.iload_n 1, 1) := by decide +kernel
theorem d_Model_writeFraction_24 : decode b_Model_writeFraction 24 = .ok (.if_icmp .ge 34, 3) := by decide +kernel
theorem d_Model_writeFraction_27 : decode b_Model_writeFraction 27 = .ok (.aload_n 0, 1) := by decide +kernel
theorem d_Model_writeFraction_28 : decode b_Model_writeFraction 28 = .ok (.getfield 112, 3) := by decide +kernel
theorem d_Model_writeFraction_31 : decode b_Model_writeFraction 31 = .ok (.ifCond .le 11, 3) := by decide +kernel
theorem d_Model_writeFraction_34 : decode b_Model_writeFraction 34 = .ok (.aload_n 0, 1) := by decide +kernel
theorem d_Model_writeFraction_35 : decode b_Model_writeFraction 35 = .ok (.iload_n 2, 1) := by decide +kernel
theorem d_Model_writeFraction_36 : decode b_Model_writeFraction 36 = .ok (.invokevirtual 130, 3) := by decide +kernel
theorem d_Model_writeFraction_39 : decode b_Model_writeFraction 39 = .ok (.goto 4, 3) := by decide +kernel
theorem d_Model_writeFraction_42 : decode b_Model_writeFraction 42 = .ok (.iconst 0, 1) := by decide +kernel
theorem d_Model_writeFraction_43 : decode b_Model_writeFraction 43 = .ok (.istore_n 3, 1) := by decide +kernel
theorem d_Model_writeFraction_44 : decode b_Model_writeFraction 44 = .ok (.aload_n 0, 1) := by decide +kernel
theorem d_Model_writeFraction_45 : decode b_Model_writeFraction 45 = .ok (.bipush 48, 2) := by decide +kernel
theorem d_Model_writeFraction_47 : decode b_Model_writeFraction 47 = .ok (.iload_n 3, 1) := by decide +kernel
theorem d_Model_writeFraction_48 : decode b_Model_writeFraction 48 = .ok (.iadd, 1) := by decide +kernel
theorem d_Model_writeFraction_49 : decode b_Model_writeFraction 49 = .ok (.invokevirtual 109, 3) := by decide +kernel
theorem d_Model_writeFraction_52 : decode b_Model_writeFraction 52 = .ok (.iinc 2 1, 3) := by decide +kernel
theorem d_Model_writeFraction_55 : decode b_Model_writeFraction 55 = .ok (.goto (-33), 3) := by decide +kernel
theorem d_Model_writeFraction_58 : decode b_Model_writeFraction 58 = .ok (.aload_n 0, 1) := by decide +kernel
theorem d_Model_writeFraction_59 : decode b_Model_writeFraction 59 = .ok (.getfield 33, 3) := by decide +kernel
theorem d_Model_writeFraction_62 : decode b_Model_writeFraction 62 = .ok (.iconst 3, 1) := by decide +kernel
theorem d_Model_writeFraction_63 : decode b_Model_writeFraction 63 = .ok (.aload_n 0, 1) := by decide +kernel
theorem d_Model_writeFraction_64 : decode b_Model_writeFraction 64 = .ok (.getfield 39, 3) := by decide +kernel
theorem d_Model_writeFraction_67 : decode b_Model_writeFraction 67 = .ok (.iastore, 1) := by decide +kernel
theorem d_Model_writeFraction_68 : decode b_Model_writeFraction 68 = .ok (.return_, 1) := by decide +kernel
theorem d_Model_writeExponent_0 : decode b_Model_writeExponent 0 = .ok (.aload_n 0, 1) := by decide +kernel
theorem d_Model_writeExponent_1 : decode b_Model_writeExponent 1 = .ok (.getfield 27, 3) := by decide +kernel
theorem d_Model_writeExponent_4 : decode b_Model_writeExponent 4 = .ok (.iconst 4, 1) := by decide +kernel
theorem d_Model_writeExponent_5 : decode b_Model_writeExponent 5 = .ok (.iaload, 1) := by decide +kernel
theorem d_Model_writeExponent_6 : decode b_Model_writeExponent 6 = .ok (.ifCond .le 9, 3) := by decide +kernel
theorem d_Model_writeExponent_9 : decode b_Model_writeExponent 9 = .ok (.aload_n 0, 1) := by decide +kernel
theorem d_Model_writeExponent_10 : decode b_Model_writeExponent 10 = .ok (.bipush 69, 2) := by decide +kernel
theorem d_Model_writeExponent_12 : decode b_Model_writeExponent 12 = .ok (.invokevirtual 109, 3) := by decide +kernel
theorem d_Model_writeExponent_15 : decode b_Model_writeExponent 15 = .ok (.aload_n 0, 1) := by decide +kernel
theorem d_Model_writeExponent_16 : decode b_Model_writeExponent 16 = .ok (.getfield 33, 3) := by decide +kernel
theorem d_Model_writeExponent_19 : decode b_Model_writeExponent 19 = .ok (.iconst 4, 1) := by decide +kernel
theorem d_Model_writeExponent_20 : decode b_Model_writeExponent 20 = .ok (.aload_n 0, 1) := by decide +kernel
theorem d_Model_writeExponent_21 : decode b_Model_writeExponent 21 = .ok (.getfield 39, 3) := by decide +kernel
theorem d_Model_writeExponent_24 : decode b_Model_writeExponent 24 = .ok (.iastore, 1) := by decide +kernel
theorem d_Model_writeExponent_25 : decode b_Model_writeExponent 25 = .ok (.aload_n 0, 1) := by decide +kernel
theorem d_Model_writeExponent_26 : decode b_Model_writeExponent 26 = .ok (.getfield 27, 3) := by decide +kernel
theorem d_Model_writeExponent_29 : decode b_Model_writeExponent 29 = .ok (.iconst 4, 1) := by decide +kernel
theorem d_Model_writeExponent_30 : decode b_Model_writeExponent 30 = .ok (.iaload, 1) := by decide +kernel
theorem d_Model_writeExponent_31 : decode b_Model_writeExponent 31 = .ok (.ifCond .le 92, 3) := by decide +kernel
theorem d_Model_writeExponent_34 : decode b_Model_writeExponent 34 = .ok (.iload_n 1, 1) := by decide +kernel
theorem d_Model_writeExponent_35 : decode b_Model_writeExponent 35 = .ok (.ifCond .ge 8, 3) := by decide +kernel
theorem d_Model_writeExponent_38 : decode b_Model_writeExponent 38 = .ok (.iload_n 1, 1) := by decide +kernel
theorem d_Model_writeExponent_39 : decode b_Model_writeExponent 39 = .ok (.ineg, 1) := by decide +kernel
theorem d_Model_writeExponent_40 : decode b_Model_writeExponent 40 = .ok (.goto 4, 3) := by decide +kernel
theorem d_Model_writeExponent_43 : decode b_Model_writeExponent 43 = .ok (.iload_n 1, 1) := by decide +kernel
theorem d_Model_writeExponent_44 : decode b_Model_writeExponent 44 = .ok (.istore_n 2, 1) := by decide +kernel
theorem d_Model_writeExponent_45 : decode b_Model_writeExponent 45 = .ok (.iload_n 1, 1) := by decide +kernel
theorem d_Model_writeExponent_46 : decode b_Model_writeExponent 46 = .ok (.ifCond .ge 9, 3) := by decide +kernel
theorem d_Model_writeExponent_49 : decode b_Model_writeExponent 49 = .ok (.aload_n 0, 1) := by decide +kernel
theorem d_Model_writeExponent_50 : decode b_Model_writeExponent 50 = .ok (.bipush 45, 2) := by decide +kernel
theorem d_Model_writeExponent_52 : decode b_Model_writeExponent 52 = .ok (.invokevirtual 109, 3) := by decide +kernel
theorem d_Model_writeExponent_55 : decode b_Model_writeExponent 55 = .ok (.aload_n 0, 1) := by decide +kernel
theorem d_Model_writeExponent_56 : decode b_Model_writeExponent 56 = .ok (.getfield 27, 3) := by decide +kernel
theorem d_Model_writeExponent_59 : decode b_Model_writeExponent 59 = .ok (.iconst 4, 1) := by decide +kernel
theorem d_Model_writeExponent_60 : decode b_Model_writeExponent 60 = .ok (.iaload, 1) := by decide +kernel
theorem d_Model_writeExponent_61 : decode b_Model_writeExponent 61 = .ok (.iconst 2, 1) := by decide +kernel
theorem d_Model_writeExponent_62 : decode b_Model_writeExponent 62 = .ok (.if_icmp .gt 9, 3) := by decide +kernel
theorem d_Model_writeExponent_65 : decode b_Model_writeExponent 65 = .ok (.iload_n 2, 1) := by decide +kernel
theorem d_Model_writeExponent_66 : decode b_Model_writeExponent 66 = .ok (.bipush 99, 2) := by decide +kernel
theorem d_Model_writeExponent_68 : decode b_Model_writeExponent 68 = .ok (.if_icmp .le 14, 3) := by decide +kernel
theorem d_Model_writeExponent_71 : decode b_Model_writeExponent 71 = .ok (.aload_n 0, 1) := by decide +kernel
theorem d_Model_writeExponent_72 : decode b_Model_writeExponent 72 = .ok (.bipush 48, 2) := by decide +kernel
theorem d_Model_writeExponent_74 : decode b_Model_writeExponent 74 = .ok (.iload_n 2, 1) := by decide +kernel
theorem d_Model_writeExponent_75 : decode b_Model_writeExponent 75 = .ok (.bipush 100, 2) := by decide +kernel
theorem d_Model_writeExponent_77 : decode b_Model_writeExponent 77 = .ok (.idiv, 1) := by decide +kernel
theorem d_Model_writeExponent_78 : decode b_Model_writeExponent 78 = .ok (.iadd, 1) := by decide +kernel
theorem d_Model_writeExponent_79 : decode b_Model_writeExponent 79 = .ok (.invokevirtual 109, 3) := by decide +kernel
theorem d_Model_writeExponent_82 : decode b_Model_writeExponent 82 = .ok (.aload_n 0, 1) := by decide +kernel
theorem d_Model_writeExponent_83 : decode b_Model_writeExponent 83 = .ok (.getfield 27, 3) := by decide +kernel
theorem d_Model_writeExponent_86 : decode b_Model_writeExponent 86 = .ok (.iconst 4, 1) := by decide +kernel
theorem d_Model_writeExponent_87 : decode b_Model_writeExponent 87 = .ok (.iaload, 1) := by decide +kernel
theorem d_Model_writeExponent_88 : decode b_Model_writeExponent 88 = .ok (.iconst 1, 1) := by decide +kernel
theorem d_Model_writeExponent_89 : decode b_Model_writeExponent 89 = .ok (.if_icmp .gt 9, 3) := by decide +kernel
theorem d_Model_writeExponent_92 : decode b_Model_writeExponent 92 = .ok (.iload_n 2, 1) := by decide +kernel
theorem d_Model_writeExponent_93 : decode b_Model_writeExponent 93 = .ok (.bipush 9, 2) := by decide +kernel
theorem d_Model_writeExponent_95 : decode b_Model_writeExponent 95 = .ok (.if_icmp .le 17, 3) := by decide +kernel
theorem d_Model_writeExponent_98 : decode b_Model_writeExponent 98 = .ok (.aload_n 0, 1) := by decide +kernel
theorem d_Model_writeExponent_99 : decode b_Model_writeExponent 99 = .ok (.bipush 48, 2) := by decide +kernel
theorem d_Model_writeExponent_101 : decode b_Model_writeExponent 101 = .ok (.iload_n 2, 1) := by decide +kernel
theorem d_Model_writeExponent_102 : decode b_Model_writeExponent 102 = .ok (.bipush 10, 2) := by decide +kernel
theorem d_Model_writeExponent_104 : decode b_Model_writeExponent 104 = .ok (.idiv, 1) := by decide +kernel
theorem d_Model_writeExponent_105 : decode b_Model_writeExponent 105 = .ok (.bipush 10, 2) := by decide +kernel
theorem d_Model_writeExponent_107 : decode b_Model_writeExponent 107 = .ok (.irem, 1) := by decide +kernel
theorem d_Model_writeExponent_108 : decode b_Model_writeExponent 108 = .ok (.iadd, 1) := by decide +kernel
theorem d_Model_writeExponent_109 : decode b_Model_writeExponent 109 = .ok (.invokevirtual 109, 3) := by decide +kernel
theorem d_Model_writeExponent_112 : decode b_Model_writeExponent 112 = .ok (.aload_n 0, 1) := by decide +kernel
theorem d_Model_writeExponent_113 : decode b_Model_writeExponent 113 = .ok (.bipush 48, 2) := by decide +kernel
theorem d_Model_writeExponent_115 : decode b_Model_writeExponent 115 = .ok (.iload_n 2, 1) := by decide +kernel
theorem d_Model_writeExponent_116 : decode b_Model_writeExponent 116 = .ok (.bipush 10, 2) := by decide +kernel
theorem d_Model_writeExponent_118 : decode b_Model_writeExponent 118 = .ok (.irem, 1) := by decide +kernel
theorem d_Model_writeExponent_119 : decode b_Model_writeExponent 119 = .ok (.iadd, 1) := by decide +kernel
theorem d_Model_writeExponent_120 : decode b_Model_writeExponent 120 = .ok (.invokevirtual 109, 3) := by decide +kernel
theorem d_Model_writeExponent_123 : decode b_Model_writeExponent 123 = .ok (.aload_n 0, 1) := by decide +kernel
theorem d_Model_writeExponent_124 : decode b_Model_writeExponent 124 = .ok (.getfield 33, 3) := by decide +kernel
theorem d_Model_writeExponent_127 : decode b_Model_writeExponent 127 = .ok (.iconst 5, 1) := by decide +kernel
theorem d_Model_writeExponent_128 : decode b_Model_writeExponent 128 = .ok (.aload_n 0, 1) := by decide +kernel
theorem d_Model_writeExponent_129 : decode b_Model_writeExponent 129 = .ok (.getfield 39, 3) := by decide +kernel
theorem d_Model_writeExponent_132 : decode b_Model_writeExponent 132 = .ok (.iastore, 1) := by decide +kernel
theorem d_Model_writeExponent_133 : decode b_Model_writeExponent 133 = .ok (.return_, 1) := by decide +kernel
theorem d_Model_format_0 : decode b_Model_format 0 = .ok (.aload_n 0, 1) := by decide +kernel
theorem d_Model_format_1 : decode b_Model_format 1 = .ok (.getfield 91, 3) := by decide +kernel
theorem d_Model_format_4 : decode b_Model_format 4 = .ok (.ifCond .ne 5, 3) := by decide +kernel
theorem d_Model_format_7 : decode b_Model_format 7 = .ok (.iconst (-1), 1) := by decide +kernel
theorem d_Model_format_8 : decode b_Model_format 8 = .ok (.ireturn, 1) := by decide +kernel
theorem d_Model_format_9 : decode b_Model_format 9 = .ok (.lload_n 1, 1) := by decide +kernel
theorem d_Model_format_10 : decode b_Model_format 10 = .ok (.ldc2_w 133, 3) := by decide +kernel
theorem d_Model_format_13 : decode b_Model_format 13 = .ok (.lcmp, 1) := by decide +kernel
theorem d_Model_format_14 : decode b_Model_format 14 = .ok (.ifCond .lt 21, 3) := by decide +kernel
theorem d_Model_format_17 : decode b_Model_format 17 = .ok (.lload_n 1, 1) := by decide +kernel
theorem d_Model_format_18 : decode b_Model_format 18 = .ok (.ldc2_w 135, 3) := by decide +kernel
theorem d_Model_format_21 : decode b_Model_format 21 = .ok (.lcmp, 1) := by decide +kernel
theorem d_Model_format_22 : decode b_Model_format 22 = .ok (.ifCond .gt 13, 3) := by decide +kernel
theorem d_Model_format_25 : decode b_Model_format 25 = .ok (.iload_n 3, 1) := by decide +kernel
theorem d_Model_format_26 : decode b_Model_format 26 = .ok (.ifCond .lt 9, 3) := by decide +kernel
theorem d_Model_format_29 : decode b_Model_format 29 = .ok (.iload_n 3, 1) := by decide +kernel
theorem d_Model_format_30 : decode b_Model_format 30 = .ok (.bipush 9, 2) := by decide +kernel
theorem d_Model_format_32 : decode b_Model_format 32 = .ok (.if_icmp .le 6, 3) := by decide +kernel
theorem d_Model_format_35 : decode b_Model_format 35 = .ok (.bipush (-2), 2) := by decide +kernel
theorem d_Model_format_37 : decode b_Model_format 37 = .ok (.ireturn, 1) := by decide +kernel
theorem d_Model_format_38 : decode b_Model_format 38 = .ok (.lload_n 1, 1) := by decide +kernel
theorem d_Model_format_39 : decode b_Model_format 39 = .ok (.lconst 0, 1) := by decide +kernel
theorem d_Model_format_40 : decode b_Model_format 40 = .ok (.lcmp, 1) := by decide +kernel
theorem d_Model_format_41 : decode b_Model_format 41 = .ok (.ifCond .ge 7, 3) := by decide +kernel
theorem d_Model_format_44 : decode b_Model_format 44 = .ok (.iconst 1, 1) := by decide +kernel
theorem d_Model_format_45 : decode b_Model_format 45 = .ok (.goto 4, 3) := by decide +kernel
theorem d_Model_format_48 : decode b_Model_format 48 = .ok (.iconst 0, 1) := by decide +kernel
theorem d_Model_format_49 : decode b_Model_format 49 = .ok (.istore 4, 2) := by decide +kernel
theorem d_Model_format_51 : decode b_Model_format 51 = .ok (.aload_n 0, 1) := by decide +kernel
theorem d_Model_format_52 : decode b_Model_format 52 = .ok (.iload 4, 2) := by decide +kernel
theorem d_Model_format_54 : decode b_Model_format 54 = .ok (.ifCond .eq 8, 3) := by decide +kernel
theorem d_Model_format_57 : decode b_Model_format 57 = .ok (.lload_n 1, 1) := by decide +kernel
theorem d_Model_format_58 : decode b_Model_format 58 = .ok (.lneg, 1) := by decide +kernel
theorem d_Model_format_59 : decode b_Model_format 59 = .ok (.goto 4, 3) := by decide +kernel
theorem d_Model_format_62 : decode b_Model_format 62 = .ok (.lload_n 1, 1) := by decide +kernel
theorem d_Model_format_63 : decode b_Model_format 63 = .ok (.aload_n 0, 1) := by decide +kernel
theorem d_Model_format_64 : decode b_Model_format 64 = .ok (.getfield 27, 3) := by decide +kernel
theorem d_Model_format_67 : decode b_Model_format 67 = .ok (.iconst 5, 1) := by decide +kernel
theorem d_Model_format_68 : decode b_Model_format 68 = .ok (.iaload, 1) := by decide +kernel
theorem d_Model_format_69 : decode b_Model_format 69 = .ok (.i2l, 1) := by decide +kernel
theorem d_Model_format_70 : decode b_Model_format 70 = .ok (.lmul, 1) := by decide +kernel
theorem d_Model_format_71 : decode b_Model_format 71 = .ok (.invokevirtual 137, 3) := by decide +kernel
theorem d_Model_format_74 : decode b_Model_format 74 = .ok (.aload_n 0, 1) := by decide +kernel
theorem d_Model_format_75 : decode b_Model_format 75 = .ok (.getfield 27, 3) := by decide +kernel
theorem d_Model_format_78 : decode b_Model_format 78 = .ok (.iconst 0, 1) := by decide +kernel
theorem d_Model_format_79 : decode b_Model_format 79 = .ok (.iaload, 1) := by decide +kernel
theorem d_Model_format_80 : decode b_Model_format 80 = .ok (.istore 5, 2) := by decide +kernel
theorem d_Model_format_82 : decode b_Model_format 82 = .ok (.iconst 0, 1) := by decide +kernel
theorem d_Model_format_83 : decode b_Model_format 83 = .ok (.istore 6, 2) := by decide +kernel
theorem d_Model_format_85 : decode b_Model_format 85 = .ok (.aload_n 0, 1) := by decide +kernel
theorem d_Model_format_86 : decode b_Model_format 86 = .ok (.aload_n 0, 1) := by decide +kernel
theorem d_Model_format_87 : decode b_Model_format 87 = .ok (.getfield 112, 3) := by decide +kernel
theorem d_Model_format_90 : decode b_Model_format 90 = .ok (.iload_n 3, 1) := by decide +kernel
theorem d_Model_format_91 : decode b_Model_format 91 = .ok (.isub, 1) := by decide +kernel
theorem d_Model_format_92 : decode b_Model_format 92 = .ok (.putfield 119, 3) := by decide +kernel
theorem d_Model_format_95 : decode b_Model_format 95 = .ok (.aload_n 0, 1) := by decide +kernel
theorem d_Model_format_96 : decode b_Model_format 96 = .ok (.getfield 27, 3) := by decide +kernel
theorem d_Model_format_99 : decode b_Model_format 99 = .ok (.iconst 4, 1) := by decide +kernel
theorem d_Model_format_100 : decode b_Model_format 100 = .ok (.iaload, 1) := by decide +kernel
theorem d_Model_format_101 : decode b_Model_format 101 = .ok (.ifCond .le 25, 3) := by decide +kernel
theorem d_Model_format_104 : decode b_Model_format 104 = .ok (.aload_n 0, 1) := by decide +kernel
theorem d_Model_format_105 : decode b_Model_format 105 = .ok (.getfield 112, 3) := by decide +kernel
theorem d_Model_format_108 : decode b_Model_format 108 = .ok (.ifCond .le 18, 3) := by decide +kernel
theorem d_Model_format_111 : decode b_Model_format 111 = .ok (.aload_n 0, 1) := by decide +kernel
theorem d_Model_format_112 : decode b_Model_format 112 = .ok (.getfield 119, 3) := by decide +kernel
theorem d_Model_format_115 : decode b_Model_format 115 = .ok (.iload 5, 2) := by decide +kernel
theorem d_Model_format_117 : decode b_Model_format 117 = .ok (.isub, 1) := by decide +kernel
theorem d_Model_format_118 : decode b_Model_format 118 = .ok (.istore 6, 2) := by decide +kernel
theorem d_Model_format_120 : decode b_Model_format 120 = .ok (.aload_n 0, 1) := by decide +kernel
theorem d_Model_format_121 : decode b_Model_format 121 = .ok (.iload 5, 2) := by decide +kernel
theorem d_Model_format_123 : decode b_Model_format 123 = .ok (.putfield 119, 3) := by decide +kernel
theorem d_Model_format_126 : decode b_Model_format 126 = .ok (.aload_n 0, 1) := by decide +kernel
theorem d_Model_format_127 : decode b_Model_format 127 = .ok (.aload_n 0, 1) := by decide +kernel
theorem d_Model_format_128 : decode b_Model_format 128 = .ok (.getfield 27, 3) := by decide +kernel
theorem d_Model_format_131 : decode b_Model_format 131 = .ok (.iconst 2, 1) := by decide +kernel
theorem d_Model_format_132 : decode b_Model_format 132 = .ok (.iaload, 1) := by decide +kernel
theorem d_Model_format_133 : decode b_Model_format 133 = .ok (.iload 4, 2) := by decide +kernel
theorem d_Model_format_135 : decode b_Model_format 135 = .ok (.invokevirtual 141, 3) := by decide +kernel
theorem d_Model_format_138 : decode b_Model_format 138 = .ok (.ifCond .ne 6, 3) := by decide +kernel
theorem d_Model_format_141 : decode b_Model_format 141 = .ok (.bipush (-3), 2) := by decide +kernel
theorem d_Model_format_143 : decode b_Model_format 143 = .ok (.ireturn, 1) := by decide +kernel
theorem d_Model_format_144 : decode b_Model_format 144 = .ok (.aload_n 0, 1) := by decide +kernel
theorem d_Model_format_145 : decode b_Model_format 145 = .ok (.getfield 27, 3) := by decide +kernel
theorem d_Model_format_148 : decode b_Model_format 148 = .ok (.iconst 4, 1) := by decide +kernel
theorem d_Model_format_149 : decode b_Model_format 149 = .ok (.iaload, 1) := by decide +kernel
theorem d_Model_format_150 : decode b_Model_format 150 = .ok (.ifCond .le 31, 3) := by decide +kernel
theorem d_Model_format_153 : decode b_Model_format 153 = .ok (.aload_n 0, 1) := by decide +kernel
theorem d_Model_format_154 : decode b_Model_format 154 = .ok (.getfield 112, 3) := by decide +kernel
theorem d_Model_format_157 : decode b_Model_format 157 = .ok (.ifCond .le 24, 3) := by decide +kernel
theorem d_Model_format_160 : decode b_Model_format 160 = .ok (.aload_n 0, 1) := by decide +kernel
theorem d_Model_format_161 : decode b_Model_format 161 = .ok (.getfield 119, 3) := by decide +kernel
theorem d_Model_format_164 : decode b_Model_format 164 = .ok (.iload 5, 2) := by decide +kernel
theorem d_Model_format_166 : decode b_Model_format 166 = .ok (.if_icmp .le 15, 3) := by decide +kernel
theorem d_Model_format_169 : decode b_Model_format 169 = .ok (.iload 6, 2) := by decide +kernel
theorem d_Model_format_171 : decode b_Model_format 171 = .ok (.iconst 1, 1) := by decide +kernel
theorem d_Model_format_172 : decode b_Model_format 172 = .ok (.iadd, 1) := by decide +kernel
theorem d_Model_format_173 : decode b_Model_format 173 = .ok (.istore 6, 2) := by decide +kernel
theorem d_Model_format_175 : decode b_Model_format 175 = .ok (.aload_n 0, 1) := by decide +kernel
theorem d_Model_format_176 : decode b_Model_format 176 = .ok (.iload 5, 2) := by decide +kernel
theorem d_Model_format_178 : decode b_Model_format 178 = .ok (.putfield 119, 3) := by decide +kernel
theorem d_Model_format_181 : decode b_Model_format 181 = .ok (.iload 4, 2) := by decide +kernel
theorem d_Model_format_183 : decode b_Model_format 183 = .ok (.ifCond .eq 14, 3) := by decide +kernel
theorem d_Model_format_186 : decode b_Model_format 186 = .ok (.aload_n 0, 1) := by decide +kernel
theorem d_Model_format_187 : decode b_Model_format 187 = .ok (.getfield 112, 3) := by decide +kernel
theorem d_Model_format_190 : decode b_Model_format 190 = .ok (.ifCond .le 7, 3) := by decide +kernel
theorem d_Model_format_193 : decode b_Model_format 193 = .ok (.iconst 1, 1) := by decide +kernel
theorem d_Model_format_194 : decode b_Model_format 194 = .ok (.goto 4, 3) := by decide +kernel
theorem d_Model_format_197 : decode b_Model_format 197 = .ok (.iconst 0, 1) := by decide +kernel
theorem d_Model_format_198 : decode b_Model_format 198 = .ok (.istore 7, 2) := by decide +kernel
theorem d_Model_format_200 : decode b_Model_format 200 = .ok (.aload_n 0, 1) := by decide +kernel
theorem d_Model_format_201 : decode b_Model_format 201 = .ok (.iconst 0, 1) := by decide +kernel
theorem d_Model_format_202 : decode b_Model_format 202 = .ok (.putfield 39, 3) := by decide +kernel
theorem d_Model_format_205 : decode b_Model_format 205 = .ok (.aload_n 0, 1) := by decide +kernel
theorem d_Model_format_206 : decode b_Model_format 206 = .ok (.iconst 1, 1) := by decide +kernel
theorem d_Model_format_207 : decode b_Model_format 207 = .ok (.putfield 145, 3) := by decide +kernel
theorem d_Model_format_210 : decode b_Model_format 210 = .ok (.aload_n 0, 1) := by decide +kernel
theorem d_Model_format_211 : decode b_Model_format 211 = .ok (.iload 7, 2) := by decide +kernel
theorem d_Model_format_213 : decode b_Model_format 213 = .ok (.iconst 0, 1) := by decide +kernel
theorem d_Model_format_214 : decode b_Model_format 214 = .ok (.invokevirtual 148, 3) := by decide +kernel
theorem d_Model_format_217 : decode b_Model_format 217 = .ok (.aload_n 0, 1) := by decide +kernel
theorem d_Model_format_218 : decode b_Model_format 218 = .ok (.invokevirtual 152, 3) := by decide +kernel
theorem d_Model_format_221 : decode b_Model_format 221 = .ok (.istore 8, 2) := by decide +kernel
theorem d_Model_format_223 : decode b_Model_format 223 = .ok (.aload_n 0, 1) := by decide +kernel
theorem d_Model_format_224 : decode b_Model_format 224 = .ok (.iload 8, 2) := by decide +kernel
theorem d_Model_format_226 : decode b_Model_format 226 = .ok (.invokevirtual 156, 3) := by decide +kernel
theorem d_Model_format_229 : decode b_Model_format 229 = .ok (.aload_n 0, 1) := by decide +kernel
theorem d_Model_format_230 : decode b_Model_format 230 = .ok (.iload 8, 2) := by decide +kernel
theorem d_Model_format_232 : decode b_Model_format 232 = .ok (.invokevirtual 159, 3) := by decide +kernel
theorem d_Model_format_235 : decode b_Model_format 235 = .ok (.aload_n 0, 1) := by decide +kernel
theorem d_Model_format_236 : decode b_Model_format 236 = .ok (.iload 6, 2) := by decide +kernel
theorem d_Model_format_238 : decode b_Model_format 238 = .ok (.invokevirtual 162, 3) := by decide +kernel
theorem d_Model_format_241 : decode b_Model_format 241 = .ok (.aload_n 0, 1) := by decide +kernel
theorem d_Model_format_242 : decode b_Model_format 242 = .ok (.iload 7, 2) := by decide +kernel
theorem d_Model_format_244 : decode b_Model_format 244 = .ok (.iconst 1, 1) := by decide +kernel
theorem d_Model_format_245 : decode b_Model_format 245 = .ok (.invokevirtual 148, 3) := by decide +kernel
theorem d_Model_format_248 : decode b_Model_format 248 = .ok (.aload_n 0, 1) := by decide +kernel
theorem d_Model_format_249 : decode b_Model_format 249 = .ok (.getfield 39, 3) := by decide +kernel
theorem d_Model_format_252 : decode b_Model_format 252 = .ok (.ireturn, 1) := by decide +kernel
theorem d_Model_field_0 : decode b_Model_field 0 = .ok (.iload_n 1, 1) := by decide +kernel
theorem d_Model_field_1 : decode b_Model_field 1 = .ok (.ifCond .lt 15, 3) := by decide +kernel
theorem d_Model_field_4 : decode b_Model_field 4 = .ok (.iload_n 1, 1) := by decide +kernel
theorem d_Model_field_5 : decode b_Model_field 5 = .ok (.iconst 2, 1) := by decide +kernel
theorem d_Model_field_6 : decode b_Model_field 6 = .ok (.if_icmp .gt 10, 3) := by decide +kernel
theorem d_Model_field_9 : decode b_Model_field 9 = .ok (.aload_n 0, 1) := by decide +kernel
theorem d_Model_field_10 : decode b_Model_field 10 = .ok (.getfield 145, 3) := by decide +kernel
theorem d_Model_field_13 : decode b_Model_field 13 = .ok (.ifCond .ne 7, 3) := by decide +kernel
theorem d_Model_field_16 : decode b_Model_field 16 = .ok (.iconst (-1), 1) := by decide +kernel
theorem d_Model_field_17 : decode b_Model_field 17 = .ok (.goto 21, 3) := by decide +kernel
theorem d_Model_field_20 : decode b_Model_field 20 = .ok (.aload_n 0, 1) := by decide +kernel
theorem d_Model_field_21 : decode b_Model_field 21 = .ok (.getfield 33, 3) := by decide +kernel
theorem d_Model_field_24 : decode b_Model_field 24 = .ok (.iconst 2, 1) := by decide +kernel
theorem d_Model_field_25 : decode b_Model_field 25 = .ok (.iload_n 1, 1) := by decide +kernel
theorem d_Model_field_26 : decode b_Model_field 26 = .ok (.imul, 1) := by decide +kernel
theorem d_Model_field_27 : decode b_Model_field 27 = .ok (.iload_n 2, 1) := by decide +kernel
theorem d_Model_field_28 : decode b_Model_field 28 = .ok (.ifCond .eq 7, 3) := by decide +kernel
theorem d_Model_field_31 : decode b_Model_field 31 = .ok (.iconst 1, 1) := by decide +kernel
theorem d_Model_field_32 : decode b_Model_field 32 = .ok (.goto 4, 3) := by decide +kernel
theorem d_Model_field_35 : decode b_Model_field 35 = .ok (.iconst 0, 1) := by decide +kernel
theorem d_Model_field_36 : decode b_Model_field 36 = .ok (.iadd, 1) := by decide +kernel
theorem d_Model_field_37 : decode b_Model_field 37 = .ok (.iaload, 1) := by decide +kernel
theorem d_Model_field_38 : decode b_Model_field 38 = .ok (.ireturn, 1) := by decide +kernel
theorem d_Model_printAffix_0 : decode b_Model_printAffix 0 = .ok (.iconst 0, 1) := by decide +kernel
theorem d_Model_printAffix_1 : decode b_Model_printAffix 1 = .ok (.istore_n 2, 1) := by decide +kernel
theorem d_Model_printAffix_2 : decode b_Model_printAffix 2 = .ok (.iconst 0, 1) := by decide +kernel
theorem d_Model_printAffix_3 : decode b_Model_printAffix 3 = .ok (.istore_n 3, 1) := by decide +kernel
theorem d_Model_printAffix_4 : decode b_Model_printAffix 4 = .ok (.iload_n 3, 1) := by decide +kernel
theorem d_Model_printAffix_5 : decode b_Model_printAffix 5 = .ok (.aload_n 0, 1) := by decide +kernel
theorem d_Model_printAffix_6 : decode b_Model_printAffix 6 = .ok (.getfield 24, 3) := by decide +kernel
theorem d_Model_printAffix_9 : decode b_Model_printAffix 9 = .ok (.iload_n 1, 1) := by decide +kernel
theorem d_Model_printAffix_10 : decode b_Model_printAffix 10 = .ok (.iaload, 1) := by decide +kernel
theorem d_Model_printAffix_11 : decode b_Model_printAffix 11 = .ok (.if_icmp .ge 113, 3) := by decide +kernel
theorem d_Model_printAffix_14 : decode b_Model_printAffix 14 = .ok (.aload_n 0, 1) := by decide +kernel
theorem d_Model_printAffix_15 : decode b_Model_printAffix 15 = .ok (.getfield 20, 3) := by decide +kernel
theorem d_Model_printAffix_18 : decode b_Model_printAffix 18 = .ok (.bipush 40, 2) := by decide +kernel
theorem d_Model_printAffix_20 : decode b_Model_printAffix 20 = .ok (.iload_n 1, 1) := by decide +kernel
theorem d_Model_printAffix_21 : decode b_Model_printAffix 21 = .ok (.imul, 1) := by decide +kernel
theorem d_Model_printAffix_22 : decode b_Model_printAffix 22 = .ok (.iload_n 3, 1) := by decide +kernel
theorem d_Model_printAffix_23 : decode b_Model_printAffix 23 = .ok (.iadd, 1) := by decide +kernel
theorem d_Model_printAffix_24 : decode b_Model_printAffix 24 = .ok (.iaload, 1) := by decide +kernel
theorem d_Model_printAffix_25 : decode b_Model_printAffix 25 = .ok (.istore 4, 2) := by decide +kernel
theorem d_Model_printAffix_27 : decode b_Model_printAffix 27 = .ok (.iload 4, 2) := by decide +kernel
theorem d_Model_printAffix_29 : decode b_Model_printAffix 29 = .ok (.invokestatic 60, 3) := by decide +kernel
theorem d_Model_printAffix_32 : decode b_Model_printAffix 32 = .ok (.ifCond .ne 10, 3) := by decide +kernel
theorem d_Model_printAffix_35 : decode b_Model_printAffix 35 = .ok (.iload 4, 2) := by decide +kernel
theorem d_Model_printAffix_37 : decode b_Model_printAffix 37 = .ok (.bipush 37, 2) := by decide +kernel
theorem d_Model_printAffix_39 : decode b_Model_printAffix 39 = .ok (.if_icmp .ne 7, 3) := by decide +kernel
theorem d_Model_printAffix_42 : decode b_Model_printAffix 42 = .ok (.iconst 1, 1) := by decide +kernel
theorem d_Model_printAffix_43 : decode b_Model_printAffix 43 = .ok (.goto 4, 3) := by decide +kernel
theorem d_Model_printAffix_46 : decode b_Model_printAffix 46 = .ok (.iconst 0, 1) := by decide +kernel
theorem d_Model_printAffix_47 : decode b_Model_printAffix 47 = .ok (.istore 5, 2) := by decide +kernel
theorem d_Model_printAffix_49 : decode b_Model_printAffix 49 = .ok (.iload 5, 2) := by decide +kernel
theorem d_Model_printAffix_51 : decode b_Model_printAffix 51 = .ok (.ifCond .eq 7, 3) := by decide +kernel
theorem d_Model_printAffix_54 : decode b_Model_printAffix 54 = .ok (.iload_n 2, 1) := by decide +kernel
theorem d_Model_printAffix_55 : decode b_Model_printAffix 55 = .ok (.ifCond .eq 15, 3) := by decide +kernel
theorem d_Model_printAffix_58 : decode b_Model_printAffix 58 = .ok (.iload 4, 2) := by decide +kernel
theorem d_Model_printAffix_60 : decode b_Model_printAffix 60 = .ok (.sipush 200, 3) := by decide +kernel
theorem d_Model_printAffix_63 : decode b_Model_printAffix 63 = .ok (.if_icmp .ne 23, 3) := by decide +kernel
theorem d_Model_printAffix_66 : decode b_Model_printAffix 66 = .ok (.iload_n 2, 1) := by decide +kernel
theorem d_Model_printAffix_67 : decode b_Model_printAffix 67 = .ok (.ifCond .eq 19, 3) := by decide +kernel
theorem d_Model_printAffix_70 : decode b_Model_printAffix 70 = .ok (.aload_n 0, 1) := by decide +kernel
theorem d_Model_printAffix_71 : decode b_Model_printAffix 71 = .ok (.bipush 39, 2) := by decide +kernel
theorem d_Model_printAffix_73 : decode b_Model_printAffix 73 = .ok (.invokevirtual 109, 3) := by decide +kernel
theorem d_Model_printAffix_76 : decode b_Model_printAffix 76 = .ok (.iload_n 2, 1) := by decide +kernel
theorem d_Model_printAffix_77 : decode b_Model_printAffix 77 = .ok (.ifCond .ne 7, 3) := by decide +kernel
theorem d_Model_printAffix_80 : decode b_Model_printAffix 80 = .ok (.iconst 1, 1) := by decide +kernel
theorem d_Model_printAffix_81 : decode b_Model_printAffix 81 = .ok (.goto 4, 3) := by decide +kernel
theorem d_Model_printAffix_84 : decode b_Model_printAffix 84 = .ok (.iconst 0, 1) := by decide +kernel
theorem d_Model_printAffix_85 : decode b_Model_printAffix 85 = .ok (.istore_n 2, 1) := by decide +kernel
theorem d_Model_printAffix_86 : decode b_Model_printAffix 86 = .ok (.iload 4, 2) := by decide +kernel
theorem d_Model_printAffix_88 : decode b_Model_printAffix 88 = .ok (.bipush 39, 2) := by decide +kernel
theorem d_Model_printAffix_90 : decode b_Model_printAffix 90 = .ok (.if_icmp .ne 9, 3) := by decide +kernel
theorem d_Model_printAffix_93 : decode b_Model_printAffix 93 = .ok (.aload_n 0, 1) := by decide +kernel
theorem d_Model_printAffix_94 : decode b_Model_printAffix 94 = .ok (.bipush 39, 2) := by decide +kernel
theorem d_Model_printAffix_96 : decode b_Model_printAffix 96 = .ok (.invokevirtual 109, 3) := by decide +kernel
theorem d_Model_printAffix_99 : decode b_Model_printAffix 99 = .ok (.aload_n 0, 1) := by decide +kernel
theorem d_Model_printAffix_100 : decode b_Model_printAffix 100 = .ok (.iload 4, 2) := by decide +kernel
theorem d_Model_printAffix_102 : decode b_Model_printAffix 102 = .ok (.sipush 200, 3) := by decide +kernel
theorem d_Model_printAffix_105 : decode b_Model_printAffix 105 = .ok (.if_icmp .ne 8, 3) := by decide +kernel
theorem d_Model_printAffix_108 : decode b_Model_printAffix 108 = .ok (.bipush 37, 2) := by decide +kernel
theorem d_Model_printAffix_110 : decode b_Model_printAffix 110 = .ok (.goto 5, 3) := by decide +kernel
theorem d_Model_printAffix_113 : decode b_Model_printAffix 113 = .ok (.iload 4, 2) := by decide +kernel
theorem d_Model_printAffix_115 : decode b_Model_printAffix 115 = .ok (.invokevirtual 109, 3) := by decide +kernel
theorem d_Model_printAffix_118 : decode b_Model_printAffix 118 = .ok (.iinc 3 1, 3) := by decide +kernel
theorem d_Model_printAffix_121 : decode b_Model_printAffix 121 = .ok (.goto (-117), 3) := by decide +kernel
theorem d_Model_printAffix_124 : decode b_Model_printAffix 124 = .ok (.iload_n 2, 1) := by decide +kernel
theorem d_Model_printAffix_125 : decode b_Model_printAffix 125 = .ok (.ifCond .eq 9, 3) := by decide +kernel
theorem d_Model_printAffix_128 : decode b_Model_printAffix 128 = .ok (.aload_n 0, 1) := by decide +kernel
theorem d_Model_printAffix_129 : decode b_Model_printAffix 129 = .ok (.bipush 39, 2) := by decide +kernel
theorem d_Model_printAffix_131 : decode b_Model_printAffix 131 = .ok (.invokevirtual 109, 3) := by decide +kernel
theorem d_Model_printAffix_134 : decode b_Model_printAffix 134 = .ok (.return_, 1) := by decide +kernel
theorem d_Model_many_0 : decode b_Model_many 0 = .ok (.iconst 0, 1) := by decide +kernel
theorem d_Model_many_1 : decode b_Model_many 1 = .ok (.istore_n 3, 1) := by decide +kernel
theorem d_Model_many_2 : decode b_Model_many 2 = .ok (.iload_n 3, 1) := by decide +kernel
theorem d_Model_many_3 : decode b_Model_many 3 = .ok (.iload_n 1, 1) := by decide +kernel
theorem d_Model_many_4 : decode b_Model_many 4 = .ok (.if_icmp .ge 14, 3) := by decide +kernel
theorem d_Model_many_7 : decode b_Model_many 7 = .ok (.aload_n 0, 1) := by decide +kernel
theorem d_Model_many_8 : decode b_Model_many 8 = .ok (.iload_n 2, 1) := by decide +kernel
theorem d_Model_many_9 : decode b_Model_many 9 = .ok (.invokevirtual 109, 3) := by decide +kernel
theorem d_Model_many_12 : decode b_Model_many 12 = .ok (.iinc 3 1, 3) := by decide +kernel
theorem d_Model_many_15 : decode b_Model_many 15 = .ok (.goto (-13), 3) := by decide +kernel
theorem d_Model_many_18 : decode b_Model_many 18 = .ok (.return_, 1) := by decide +kernel
theorem d_Model_printNumber_0 : decode b_Model_printNumber 0 = .ok (.aload_n 0, 1) := by decide +kernel
theorem d_Model_printNumber_1 : decode b_Model_printNumber 1 = .ok (.getfield 27, 3) := by decide +kernel
theorem d_Model_printNumber_4 : decode b_Model_printNumber 4 = .ok (.iconst 0, 1) := by decide +kernel
theorem d_Model_printNumber_5 : decode b_Model_printNumber 5 = .ok (.iaload, 1) := by decide +kernel
theorem d_Model_printNumber_6 : decode b_Model_printNumber 6 = .ok (.istore_n 1, 1) := by decide +kernel
theorem d_Model_printNumber_7 : decode b_Model_printNumber 7 = .ok (.aload_n 0, 1) := by decide +kernel
theorem d_Model_printNumber_8 : decode b_Model_printNumber 8 = .ok (.getfield 27, 3) := by decide +kernel
theorem d_Model_printNumber_11 : decode b_Model_printNumber 11 = .ok (.iconst 3, 1) := by decide +kernel
theorem d_Model_printNumber_12 : decode b_Model_printNumber 12 = .ok (.iaload, 1) := by decide +kernel
theorem d_Model_printNumber_13 : decode b_Model_printNumber 13 = .ok (.istore_n 2, 1) := by decide +kernel
theorem d_Model_printNumber_14 : decode b_Model_printNumber 14 = .ok (.iload_n 2, 1) := by decide +kernel
theorem d_Model_printNumber_15 : decode b_Model_printNumber 15 = .ok (.ifCond .ne 15, 3) := by decide +kernel
theorem d_Model_printNumber_18 : decode b_Model_printNumber 18 = .ok (.iload_n 1, 1) := by decide +kernel
theorem d_Model_printNumber_19 : decode b_Model_printNumber 19 = .ok (.ifCond .ne 7, 3) := by decide +kernel
theorem d_Model_printNumber_22 : decode b_Model_printNumber 22 = .ok (.iconst 1, 1) := by decide +kernel
theorem d_Model_printNumber_23 : decode b_Model_printNumber 23 = .ok (.goto 19, 3) := by decide +kernel
theorem d_Model_printNumber_26 : decode b_Model_printNumber 26 = .ok (.iload_n 1, 1) := by decide +kernel
theorem d_Model_printNumber_27 : decode b_Model_printNumber 27 = .ok (.goto 15, 3) := by decide +kernel
theorem d_Model_printNumber_30 : decode b_Model_printNumber 30 = .ok (.iload_n 1, 1) := by decide +kernel
theorem d_Model_printNumber_31 : decode b_Model_printNumber 31 = .ok (.iload_n 2, 1) := by decide +kernel
theorem d_Model_printNumber_32 : decode b_Model_printNumber 32 = .ok (.if_icmp .le 7, 3) := by decide +kernel
theorem d_Model_printNumber_35 : decode b_Model_printNumber 35 = .ok (.iload_n 1, 1) := by decide +kernel
theorem d_Model_printNumber_36 : decode b_Model_printNumber 36 = .ok (.goto 6, 3) := by decide +kernel
theorem d_Model_printNumber_39 : decode b_Model_printNumber 39 = .ok (.iload_n 2, 1) := by decide +kernel
theorem d_Model_printNumber_40 : decode b_Model_printNumber 40 = .ok (.iconst 1, 1) := by decide +kernel
theorem d_Model_printNumber_41 : decode b_Model_printNumber 41 = .ok (.iadd, 1) := by decide +kernel
theorem d_Model_printNumber_42 : decode b_Model_printNumber 42 = .ok (.istore_n 3, 1) := by decide +kernel
theorem d_Model_printNumber_43 : decode b_Model_printNumber 43 = .ok (.iload_n 3, 1) := by decide +kernel
theorem d_Model_printNumber_44 : decode b_Model_printNumber 44 = .ok (.istore 4, 2) := by decide +kernel
theorem d_Model_printNumber_46 : decode b_Model_printNumber 46 = .ok (.iload 4, 2) := by decide +kernel
theorem d_Model_printNumber_48 : decode b_Model_printNumber 48 = .ok (.ifCond .le 42, 3) := by decide +kernel
theorem d_Model_printNumber_51 : decode b_Model_printNumber 51 = .ok (.iload_n 2, 1) := by decide +kernel
theorem d_Model_printNumber_52 : decode b_Model_printNumber 52 = .ok (.ifCond .le 15, 3) := by decide +kernel
theorem d_Model_printNumber_55 : decode b_Model_printNumber 55 = .ok (.iload 4, 2) := by decide +kernel
theorem d_Model_printNumber_57 : decode b_Model_printNumber 57 = .ok (.iload_n 2, 1) := by decide +kernel
theorem d_Model_printNumber_58 : decode b_Model_printNumber 58 = .ok (.if_icmp .ne 9, 3) := by decide +kernel
theorem d_Model_printNumber_61 : decode b_Model_printNumber 61 = .ok (.aload_n 0, 1) := by decide +kernel
theorem d_Model_printNumber_62 : decode b_Model_printNumber 62 = .ok (.bipush 44, 2) := by decide +kernel
theorem d_Model_printNumber_64 : decode b_Model_printNumber 64 = .ok (.invokevirtual 109, 3) := by decide +kernel
theorem d_Model_printNumber_67 : decode b_Model_printNumber 67 = .ok (.aload_n 0, 1) := by decide +kernel
theorem d_Model_printNumber_68 : decode b_Model_printNumber 68 = .ok (.iload 4, 2) := by decide +kernel
theorem d_Model_printNumber_70 : decode b_Model_printNumber 70 = .ok (.iload_n 1, 1) := by decide +kernel
theorem d_Model_printNumber_71 : decode b_Model_printNumber 71 = .ok (.if_icmp .le 8, 3) := by decide +kernel
theorem d_Model_printNumber_74 : decode b_Model_printNumber 74 = .ok (.bipush 35, 2) := by decide +kernel
theorem d_Model_printNumber_76 : decode b_Model_printNumber 76 = .ok (.goto 5, 3) := by decide +kernel
theorem d_Model_printNumber_79 : decode b_Model_printNumber 79 = .ok (.bipush 48, 2) := by decide +kernel
theorem d_Model_printNumber_81 : decode b_Model_printNumber 81 = .ok (.invokevirtual 109, 3) := by decide +kernel
theorem d_Model_printNumber_84 : decode b_Model_printNumber 84 = .ok (.iinc 4 (-1), 3) := by decide +kernel
theorem d_Model_printNumber_87 : decode b_Model_printNumber 87 = .ok (.goto (-41), 3) := by decide +kernel
theorem d_Model_printNumber_90 : decode b_Model_printNumber 90 = .ok (.aload_n 0, 1) := by decide +kernel
theorem d_Model_printNumber_91 : decode b_Model_printNumber 91 = .ok (.getfield 27, 3) := by decide +kernel
theorem d_Model_printNumber_94 : decode b_Model_printNumber 94 = .ok (.iconst 2, 1) := by decide +kernel
theorem d_Model_printNumber_95 : decode b_Model_printNumber 95 = .ok (.iaload, 1) := by decide +kernel
theorem d_Model_printNumber_96 : decode b_Model_printNumber 96 = .ok (.ifCond .le 40, 3) := by decide +kernel
theorem d_Model_printNumber_99 : decode b_Model_printNumber 99 = .ok (.aload_n 0, 1) := by decide +kernel
theorem d_Model_printNumber_100 : decode b_Model_printNumber 100 = .ok (.bipush 46, 2) := by decide +kernel
theorem d_Model_printNumber_102 : decode b_Model_printNumber 102 = .ok (.invokevirtual 109, 3) := by decide +kernel
theorem d_Model_printNumber_105 : decode b_Model_printNumber 105 = .ok (.aload_n 0, 1) := by decide +kernel
theorem d_Model_printNumber_106 : decode b_Model_printNumber 106 = .ok (.aload_n 0, 1) := by decide +kernel
theorem d_Model_printNumber_107 : decode b_Model_printNumber 107 = .ok (.getfield 27, 3) := by decide +kernel
theorem d_Model_printNumber_110 : decode b_Model_printNumber 110 = .ok (.iconst 1, 1) := by decide +kernel
theorem d_Model_printNumber_111 : decode b_Model_printNumber 111 = .ok (.iaload, 1) := by decide +kernel
theorem d_Model_printNumber_112 : decode b_Model_printNumber 112 = .ok (.bipush 48, 2) := by decide +kernel
theorem d_Model_printNumber_114 : decode b_Model_printNumber 114 = .ok (.invokevirtual 165, 3) := by decide +kernel
theorem d_Model_printNumber_117 : decode b_Model_printNumber 117 = .ok (.aload_n 0, 1) := by decide +kernel
theorem d_Model_printNumber_118 : decode b_Model_printNumber 118 = .ok (.aload_n 0, 1) := by decide +kernel
theorem d_Model_printNumber_119 : decode b_Model_printNumber 119 = .ok (.getfield 27, 3) := by decide +kernel
theorem d_Model_printNumber_122 : decode b_Model_printNumber 122 = .ok (.iconst 2, 1) := by decide +kernel
theorem d_Model_printNumber_123 : decode b_Model_printNumber 123 = .ok (.iaload, 1) := by decide +kernel
theorem d_Model_printNumber_124 : decode b_Model_printNumber 124 = .ok (.aload_n 0, 1) := by decide +kernel
theorem d_Model_printNumber_125 : decode b_Model_printNumber 125 = .ok (.getfield 27, 3) := by decide +kernel
theorem d_Model_printNumber_128 : decode b_Model_printNumber 128 = .ok (.iconst 1, 1) := by decide +kernel
theorem d_Model_printNumber_129 : decode b_Model_printNumber 129 = .ok (.iaload, 1) := by decide +kernel
theorem d_Model_printNumber_130 : decode b_Model_printNumber 130 = .ok (.isub, 1) := by decide +kernel
theorem d_Model_printNumber_131 : decode b_Model_printNumber 131 = .ok (.bipush 35, 2) := by decide +kernel
theorem d_Model_printNumber_133 : decode b_Model_printNumber 133 = .ok (.invokevirtual 165, 3) := by decide +kernel
theorem d_Model_printNumber_136 : decode b_Model_printNumber 136 = .ok (.aload_n 0, 1) := by decide +kernel
theorem d_Model_printNumber_137 : decode b_Model_printNumber 137 = .ok (.getfield 27, 3) := by decide +kernel
theorem d_Model_printNumber_140 : decode b_Model_printNumber 140 = .ok (.iconst 4, 1) := by decide +kernel
theorem d_Model_printNumber_141 : decode b_Model_printNumber 141 = .ok (.iaload, 1) := by decide +kernel
theorem d_Model_printNumber_142 : decode b_Model_printNumber 142 = .ok (.ifCond .le 21, 3) := by decide +kernel
theorem d_Model_printNumber_145 : decode b_Model_printNumber 145 = .ok (.aload_n 0, 1) := by decide +kernel
theorem d_Model_printNumber_146 : decode b_Model_printNumber 146 = .ok (.bipush 69, 2) := by decide +kernel
theorem d_Model_printNumber_148 : decode b_Model_printNumber 148 = .ok (.invokevirtual 109, 3) := by decide +kernel
theorem d_Model_printNumber_151 : decode b_Model_printNumber 151 = .ok (.aload_n 0, 1) := by decide +kernel
theorem d_Model_printNumber_152 : decode b_Model_printNumber 152 = .ok (.aload_n 0, 1) := by decide +kernel
theorem d_Model_printNumber_153 : decode b_Model_printNumber 153 = .ok (.getfield 27, 3) := by decide +kernel
theorem d_Model_printNumber_156 : decode b_Model_printNumber 156 = .ok (.iconst 4, 1) := by decide +kernel
theorem d_Model_printNumber_157 : decode b_Model_printNumber 157 = .ok (.iaload, 1) := by decide +kernel
theorem d_Model_printNumber_158 : decode b_Model_printNumber 158 = .ok (.bipush 48, 2) := by decide +kernel
theorem d_Model_printNumber_160 : decode b_Model_printNumber 160 = .ok (.invokevirtual 165, 3) := by decide +kernel
theorem d_Model_printNumber_163 : decode b_Model_printNumber 163 = .ok (.return_, 1) := by decide +kernel
theorem d_Model_like_0 : decode b_Model_like 0 = .ok (.aload_n 0, 1) := by decide +kernel
theorem d_Model_like_1 : decode b_Model_like 1 = .ok (.getfield 24, 3) := by decide +kernel
theorem d_Model_like_4 : decode b_Model_like 4 = .ok (.iload_n 1, 1) := by decide +kernel
theorem d_Model_like_5 : decode b_Model_like 5 = .ok (.iaload, 1) := by decide +kernel
theorem d_Model_like_6 : decode b_Model_like 6 = .ok (.aload_n 0, 1) := by decide +kernel
theorem d_Model_like_7 : decode b_Model_like 7 = .ok (.getfield 24, 3) := by decide +kernel
theorem d_Model_like_10 : decode b_Model_like 10 = .ok (.iload_n 2, 1) := by decide +kernel
theorem d_Model_like_11 : decode b_Model_like 11 = .ok (.iaload, 1) := by decide +kernel
theorem d_Model_like_12 : decode b_Model_like 12 = .ok (.iload_n 3, 1) := by decide +kernel
theorem d_Model_like_13 : decode b_Model_like 13 = .ok (.iadd, 1) := by decide +kernel
theorem d_Model_like_14 : decode b_Model_like 14 = .ok (.if_icmp .ne 7, 3) := by decide +kernel
theorem d_Model_like_17 : decode b_Model_like 17 = .ok (.iconst 1, 1) := by decide +kernel
theorem d_Model_like_18 : decode b_Model_like 18 = .ok (.goto 4, 3) := by decide +kernel
theorem d_Model_like_21 : decode b_Model_like 21 = .ok (.iconst 0, 1) := by decide +kernel
theorem d_Model_like_22 : decode b_Model_like 22 = .ok (.istore 4, 2) := by decide +kernel
theorem d_Model_like_24 : decode b_Model_like 24 = .ok (.iconst 0, 1) := by decide +kernel
theorem d_Model_like_25 : decode b_Model_like 25 = .ok (.istore 5, 2) := by decide +kernel
theorem d_Model_like_27 : decode b_Model_like 27 = .ok (.iload 4, 2) := by decide +kernel
theorem d_Model_like_29 : decode b_Model_like 29 = .ok (.ifCond .eq 71, 3) := by decide +kernel
theorem d_Model_like_32 : decode b_Model_like 32 = .ok (.iload 5, 2) := by decide +kernel
theorem d_Model_like_34 : decode b_Model_like 34 = .ok (.aload_n 0, 1) := by decide +kernel
theorem d_Model_like_35 : decode b_Model_like 35 = .ok (.getfield 24, 3) := by decide +kernel
theorem d_Model_like_38 : decode b_Model_like 38 = .ok (.iload_n 1, 1) := by decide +kernel
theorem d_Model_like_39 : decode b_Model_like 39 = .ok (.iaload, 1) := by decide +kernel
theorem d_Model_like_40 : decode b_Model_like 40 = .ok (.if_icmp .ge 60, 3) := by decide +kernel
theorem d_Model_like_43 : decode b_Model_like 43 = .ok (.iload 5, 2) := by decide +kernel
theorem d_Model_like_45 : decode b_Model_like 45 = .ok (.iload_n 3, 1) := by decide +kernel
theorem d_Model_like_46 : decode b_Model_like 46 = .ok (.if_icmp .ge 8, 3) := by decide +kernel
theorem d_Model_like_49 : decode b_Model_like 49 = .ok (.bipush 45, 2) := by decide +kernel
theorem d_Model_like_51 : decode b_Model_like 51 = .ok (.goto 17, 3) := by decide +kernel
theorem d_Model_like_54 : decode b_Model_like 54 = .ok (.aload_n 0, 1) := by decide +kernel
theorem d_Model_like_55 : decode b_Model_like 55 = .ok (.getfield 20, 3) := by decide +kernel
theorem d_Model_like_58 : decode b_Model_like 58 = .ok (.bipush 40, 2) := by decide +kernel
theorem d_Model_like_60 : decode b_Model_like 60 = .ok (.iload_n 2, 1) := by decide +kernel
theorem d_Model_like_61 : decode b_Model_like 61 = .ok (.imul, 1) := by decide +kernel
theorem d_Model_like_62 : decode b_Model_like 62 = .ok (.iload 5, 2) := by decide +kernel
theorem d_Model_like_64 : decode b_Model_like 64 = .ok (.iadd, 1) := by decide +kernel
theorem d_Model_like_65 : decode b_Model_like 65 = .ok (.iload_n 3, 1) := by decide +kernel
theorem d_Model_like_66 : decode b_Model_like 66 = .ok (.isub, 1) := by decide +kernel
theorem d_Model_like_67 : decode b_Model_like 67 = .ok (.iaload, 1) := by decide +kernel
theorem d_Model_like_68 : decode b_Model_like 68 = .ok (.istore 6, 2) := by decide +kernel
theorem d_Model_like_70 : decode b_Model_like 70 = .ok (.aload_n 0, 1) := by decide +kernel
theorem d_Model_like_71 : decode b_Model_like 71 = .ok (.getfield 20, 3) := by decide +kernel
theorem d_Model_like_74 : decode b_Model_like 74 = .ok (.bipush 40, 2) := by decide +kernel
theorem d_Model_like_76 : decode b_Model_like 76 = .ok (.iload_n 1, 1) := by decide +kernel
theorem d_Model_like_77 : decode b_Model_like 77 = .ok (.imul, 1) := by decide +kernel
theorem d_Model_like_78 : decode b_Model_like 78 = .ok (.iload 5, 2) := by decide +kernel
theorem d_Model_like_80 : decode b_Model_like 80 = .ok (.iadd, 1) := by decide +kernel
theorem d_Model_like_81 : decode b_Model_like 81 = .ok (.iaload, 1) := by decide +kernel
theorem d_Model_like_82 : decode b_Model_like 82 = .ok (.iload 6, 2) := by decide +kernel
theorem d_Model_like_84 : decode b_Model_like 84 = .ok (.if_icmp .ne 7, 3) := by decide +kernel
theorem d_Model_like_87 : decode b_Model_like 87 = .ok (.iconst 1, 1) := by decide +kernel
theorem d_Model_like_88 : decode b_Model_like 88 = .ok (.goto 4, 3) := by decide +kernel
theorem d_Model_like_91 : decode b_Model_like 91 = .ok (.iconst 0, 1) := by decide +kernel
theorem d_Model_like_92 : decode b_Model_like 92 = .ok (.istore 4, 2) := by decide +kernel
theorem d_Model_like_94 : decode b_Model_like 94 = .ok (.iinc 5 1, 3) := by decide +kernel
theorem d_Model_like_97 : decode b_Model_like 97 = .ok (.goto (-70), 3) := by decide +kernel
theorem d_Model_like_100 : decode b_Model_like 100 = .ok (.iload 4, 2) := by decide +kernel
theorem d_Model_like_102 : decode b_Model_like 102 = .ok (.ireturn, 1) := by decide +kernel
theorem d_Model_print_0 : decode b_Model_print 0 = .ok (.aload_n 0, 1) := by decide +kernel
theorem d_Model_print_1 : decode b_Model_print 1 = .ok (.getfield 91, 3) := by decide +kernel
theorem d_Model_print_4 : decode b_Model_print 4 = .ok (.ifCond .ne 5, 3) := by decide +kernel
theorem d_Model_print_7 : decode b_Model_print 7 = .ok (.iconst (-1), 1) := by decide +kernel
theorem d_Model_print_8 : decode b_Model_print 8 = .ok (.ireturn, 1) := by decide +kernel
theorem d_Model_print_9 : decode b_Model_print 9 = .ok (.aload_n 0, 1) := by decide +kernel
theorem d_Model_print_10 : decode b_Model_print 10 = .ok (.iconst 0, 1) := by decide +kernel
theorem d_Model_print_11 : decode b_Model_print 11 = .ok (.putfield 39, 3) := by decide +kernel
theorem d_Model_print_14 : decode b_Model_print 14 = .ok (.aload_n 0, 1) := by decide +kernel
theorem d_Model_print_15 : decode b_Model_print 15 = .ok (.iconst 0, 1) := by decide +kernel
theorem d_Model_print_16 : decode b_Model_print 16 = .ok (.putfield 145, 3) := by decide +kernel
theorem d_Model_print_19 : decode b_Model_print 19 = .ok (.aload_n 0, 1) := by decide +kernel
theorem d_Model_print_20 : decode b_Model_print 20 = .ok (.iconst 0, 1) := by decide +kernel
theorem d_Model_print_21 : decode b_Model_print 21 = .ok (.invokevirtual 169, 3) := by decide +kernel
theorem d_Model_print_24 : decode b_Model_print 24 = .ok (.aload_n 0, 1) := by decide +kernel
theorem d_Model_print_25 : decode b_Model_print 25 = .ok (.invokevirtual 172, 3) := by decide +kernel
theorem d_Model_print_28 : decode b_Model_print 28 = .ok (.aload_n 0, 1) := by decide +kernel
theorem d_Model_print_29 : decode b_Model_print 29 = .ok (.iconst 1, 1) := by decide +kernel
theorem d_Model_print_30 : decode b_Model_print 30 = .ok (.invokevirtual 169, 3) := by decide +kernel
theorem d_Model_print_33 : decode b_Model_print 33 = .ok (.aload_n 0, 1) := by decide +kernel
theorem d_Model_print_34 : decode b_Model_print 34 = .ok (.getfield 27, 3) := by decide +kernel
theorem d_Model_print_37 : decode b_Model_print 37 = .ok (.bipush 6, 2) := by decide +kernel
theorem d_Model_print_39 : decode b_Model_print 39 = .ok (.iaload, 1) := by decide +kernel
theorem d_Model_print_40 : decode b_Model_print 40 = .ok (.iconst 1, 1) := by decide +kernel
theorem d_Model_print_41 : decode b_Model_print 41 = .ok (.if_icmp .ne 45, 3) := by decide +kernel
theorem d_Model_print_44 : decode b_Model_print 44 = .ok (.aload_n 0, 1) := by decide +kernel
theorem d_Model_print_45 : decode b_Model_print 45 = .ok (.iconst 2, 1) := by decide +kernel
theorem d_Model_print_46 : decode b_Model_print 46 = .ok (.iconst 0, 1) := by decide +kernel
theorem d_Model_print_47 : decode b_Model_print 47 = .ok (.iconst 1, 1) := by decide +kernel
theorem d_Model_print_48 : decode b_Model_print 48 = .ok (.invokevirtual 175, 3) := by decide +kernel
theorem d_Model_print_51 : decode b_Model_print 51 = .ok (.ifCond .eq 13, 3) := by decide +kernel
theorem d_Model_print_54 : decode b_Model_print 54 = .ok (.aload_n 0, 1) := by decide +kernel
theorem d_Model_print_55 : decode b_Model_print 55 = .ok (.iconst 3, 1) := by decide +kernel
theorem d_Model_print_56 : decode b_Model_print 56 = .ok (.iconst 1, 1) := by decide +kernel
theorem d_Model_print_57 : decode b_Model_print 57 = .ok (.iconst 0, 1) := by decide +kernel
theorem d_Model_print_58 : decode b_Model_print 58 = .ok (.invokevirtual 175, 3) := by decide +kernel
theorem d_Model_print_61 : decode b_Model_print 61 = .ok (.ifCond .ne 25, 3) := by decide +kernel
theorem d_Model_print_64 : decode b_Model_print 64 = .ok (.aload_n 0, 1) := by decide +kernel
theorem d_Model_print_65 : decode b_Model_print 65 = .ok (.bipush 59, 2) := by decide +kernel
theorem d_Model_print_67 : decode b_Model_print 67 = .ok (.invokevirtual 109, 3) := by decide +kernel
theorem d_Model_print_70 : decode b_Model_print 70 = .ok (.aload_n 0, 1) := by decide +kernel
theorem d_Model_print_71 : decode b_Model_print 71 = .ok (.iconst 2, 1) := by decide +kernel
theorem d_Model_print_72 : decode b_Model_print 72 = .ok (.invokevirtual 169, 3) := by decide +kernel
theorem d_Model_print_75 : decode b_Model_print 75 = .ok (.aload_n 0, 1) := by decide +kernel
theorem d_Model_print_76 : decode b_Model_print 76 = .ok (.bipush 35, 2) := by decide +kernel
theorem d_Model_print_78 : decode b_Model_print 78 = .ok (.invokevirtual 109, 3) := by decide +kernel
theorem d_Model_print_81 : decode b_Model_print 81 = .ok (.aload_n 0, 1) := by decide +kernel
theorem d_Model_print_82 : decode b_Model_print 82 = .ok (.iconst 3, 1) := by decide +kernel
theorem d_Model_print_83 : decode b_Model_print 83 = .ok (.invokevirtual 169, 3) := by decide +kernel
theorem d_Model_print_86 : decode b_Model_print 86 = .ok (.aload_n 0, 1) := by decide +kernel
theorem d_Model_print_87 : decode b_Model_print 87 = .ok (.getfield 39, 3) := by decide +kernel
theorem d_Model_print_90 : decode b_Model_print 90 = .ok (.ireturn, 1) := by decide +kernel
theorem d_Model_digitAt_0 : decode b_Model_digitAt 0 = .ok (.iload_n 1, 1) := by decide +kernel
theorem d_Model_digitAt_1 : decode b_Model_digitAt 1 = .ok (.iload_n 2, 1) := by decide +kernel
theorem d_Model_digitAt_2 : decode b_Model_digitAt 2 = .ok (.if_icmp .ge 29, 3) := by decide +kernel
theorem d_Model_digitAt_5 : decode b_Model_digitAt 5 = .ok (.aload_n 0, 1) := by decide +kernel
theorem d_Model_digitAt_6 : decode b_Model_digitAt 6 = .ok (.getfield 7, 3) := by decide +kernel
theorem d_Model_digitAt_9 : decode b_Model_digitAt 9 = .ok (.iload_n 1, 1) := by decide +kernel
theorem d_Model_digitAt_10 : decode b_Model_digitAt 10 = .ok (.caload, 1) := by decide +kernel
theorem d_Model_digitAt_11 : decode b_Model_digitAt 11 = .ok (.bipush 48, 2) := by decide +kernel
theorem d_Model_digitAt_13 : decode b_Model_digitAt 13 = .ok (.if_icmp .lt 18, 3) := by decide +kernel
theorem d_Model_digitAt_16 : decode b_Model_digitAt 16 = .ok (.aload_n 0, 1) := by decide +kernel
theorem d_Model_digitAt_17 : decode b_Model_digitAt 17 = .ok (.getfield 7, 3) := by decide +kernel
theorem d_Model_digitAt_20 : decode b_Model_digitAt 20 = .ok (.iload_n 1, 1) := by decide +kernel
theorem d_Model_digitAt_21 : decode b_Model_digitAt 21 = .ok (.caload, 1) := by decide +kernel
theorem d_Model_digitAt_22 : decode b_Model_digitAt 22 = .ok (.bipush 57, 2) := by decide +kernel
theorem d_Model_digitAt_24 : decode b_Model_digitAt 24 = .ok (.if_icmp .gt 7, 3) := by decide +kernel
theorem d_Model_digitAt_27 : decode b_Model_digitAt 27 = .ok (.iconst 1, 1) := by decide +kernel
theorem d_Model_digitAt_28 : decode b_Model_digitAt 28 = .ok (.goto 4, 3) := by decide +kernel
theorem d_Model_digitAt_31 : decode b_Model_digitAt 31 = .ok (.iconst 0, 1) := by decide +kernel
theorem d_Model_digitAt_32 : decode b_Model_digitAt 32 = .ok (.ireturn, 1) := by decide +kernel
theorem d_Model_body_0 : decode b_Model_body 0 = .ok (.lconst 0, 1) := by decide +kernel
theorem d_Model_body_1 : decode b_Model_body 1 = .ok (.lstore_n 3, 1) := by decide +kernel
theorem d_Model_body_2 : decode b_Model_body 2 = .ok (.iconst 0, 1) := by decide +kernel
theorem d_Model_body_3 : decode b_Model_body 3 = .ok (.istore 5, 2) := by decide +kernel
theorem d_Model_body_5 : decode b_Model_body 5 = .ok (.iconst 0, 1) := by decide +kernel
theorem d_Model_body_6 : decode b_Model_body 6 = .ok (.istore 6, 2) := by decide +kernel
theorem d_Model_body_8 : decode b_Model_body 8 = .ok (.iconst 0, 1) := by decide +kernel
theorem d_Model_body_9 : decode b_Model_body 9 = .ok (.istore 7, 2) := by decide +kernel
theorem d_Model_body_11 : decode b_Model_body 11 = .ok (.iconst 0, 1) := by decide +kernel
theorem d_Model_body_12 : decode b_Model_body 12 = .ok (.istore 8, 2) := by decide +kernel
theorem d_Model_body_14 : decode b_Model_body 14 = .ok (.iconst 0, 1) := by decide +kernel
theorem d_Model_body_15 : decode b_Model_body 15 = .ok (.istore 9, 2) := by decide +kernel
theorem d_Model_body_17 : decode b_Model_body 17 = .ok (.iload_n 1, 1) := by decide +kernel
theorem d_Model_body_18 : decode b_Model_body 18 = .ok (.istore 10, 2) := by decide +kernel
theorem d_Model_body_20 : decode b_Model_body 20 = .ok (.aload_n 0, 1) := by decide +kernel
theorem d_Model_body_21 : decode b_Model_body 21 = .ok (.iconst 0, 1) := by decide +kernel
theorem d_Model_body_22 : decode b_Model_body 22 = .ok (.putfield 179, 3) := by decide +kernel
theorem d_Model_body_25 : decode b_Model_body 25 = .ok (.iconst 1, 1) := by decide +kernel
theorem d_Model_body_26 : decode b_Model_body 26 = .ok (.istore 11, 2) := by decide +kernel
theorem d_Model_body_28 : decode b_Model_body 28 = .ok (.iload 11, 2) := by decide +kernel
theorem d_Model_body_30 : decode b_Model_body 30 = .ok (.ifCond .eq 295, 3) := by decide +kernel
theorem d_Model_body_33 : decode b_Model_body 33 = .ok (.aload_n 0, 1) := by decide +kernel
theorem d_Model_body_34 : decode b_Model_body 34 = .ok (.iload 10, 2) := by decide +kernel
theorem d_Model_body_36 : decode b_Model_body 36 = .ok (.iload_n 2, 1) := by decide +kernel
theorem d_Model_body_37 : decode b_Model_body 37 = .ok (.invokevirtual 182, 3) := by decide +kernel
theorem d_Model_body_40 : decode b_Model_body 40 = .ok (.ifCond .eq 156, 3) := by decide +kernel
theorem d_Model_body_43 : decode b_Model_body 43 = .ok (.aload_n 0, 1) := by decide +kernel
theorem d_Model_body_44 : decode b_Model_body 44 = .ok (.getfield 7, 3) := by decide +kernel
theorem d_Model_body_47 : decode b_Model_body 47 = .ok (.iload 10, 2) := by decide +kernel
theorem d_Model_body_49 : decode b_Model_body 49 = .ok (.caload, 1) := by decide +kernel
theorem d_Model_body_50 : decode b_Model_body 50 = .ok (.bipush 48, 2) := by decide +kernel
theorem d_Model_body_52 : decode b_Model_body 52 = .ok (.isub, 1) := by decide +kernel
theorem d_Model_body_53 : decode b_Model_body 53 = .ok (.istore 12, 2) := by decide +kernel
theorem d_Model_body_55 : decode b_Model_body 55 = .ok (.iload 8, 2) := by decide +kernel
theorem d_Model_body_57 : decode b_Model_body 57 = .ok (.iconst 1, 1) := by decide +kernel
theorem d_Model_body_58 : decode b_Model_body 58 = .ok (.iadd, 1) := by decide +kernel
theorem d_Model_body_59 : decode b_Model_body 59 = .ok (.istore 8, 2) := by decide +kernel
theorem d_Model_body_61 : decode b_Model_body 61 = .ok (.iload 9, 2) := by decide +kernel
theorem d_Model_body_63 : decode b_Model_body 63 = .ok (.ifCond .eq 10, 3) := by decide +kernel
theorem d_Model_body_66 : decode b_Model_body 66 = .ok (.iload 7, 2) := by decide +kernel
theorem d_Model_body_68 : decode b_Model_body 68 = .ok (.iconst 1, 1) := by decide +kernel
theorem d_Model_body_69 : decode b_Model_body 69 = .ok (.iadd, 1) := by decide +kernel
theorem d_Model_body_70 : decode b_Model_body 70 = .ok (.goto 5, 3) := by decide +kernel
theorem d_Model_body_73 : decode b_Model_body 73 = .ok (.iload 7, 2) := by decide +kernel
theorem d_Model_body_75 : decode b_Model_body 75 = .ok (.istore 7, 2) := by decide +kernel
theorem d_Model_body_77 : decode b_Model_body 77 = .ok (.iload 12, 2) := by decide +kernel
theorem d_Model_body_79 : decode b_Model_body 79 = .ok (.ifCond .ne 10, 3) := by decide +kernel
theorem d_Model_body_82 : decode b_Model_body 82 = .ok (.iload 6, 2) := by decide +kernel
theorem d_Model_body_84 : decode b_Model_body 84 = .ok (.iconst 1, 1) := by decide +kernel
theorem d_Model_body_85 : decode b_Model_body 85 = .ok (.iadd, 1) := by decide +kernel
theorem d_Model_body_86 : decode b_Model_body 86 = .ok (.goto 5, 3) := by decide +kernel
theorem d_Model_body_89 : decode b_Model_body 89 = .ok (.iload 6, 2) := by decide +kernel
theorem d_Model_body_91 : decode b_Model_body 91 = .ok (.istore 6, 2) := by decide +kernel
theorem d_Model_body_93 : decode b_Model_body 93 = .ok (.iload 12, 2) := by decide +kernel
theorem d_Model_body_95 : decode b_Model_body 95 = .ok (.ifCond .le 98, 3) := by decide +kernel
theorem d_Model_body_98 : decode b_Model_body 98 = .ok (.lload_n 3, 1) := by decide +kernel
theorem d_Model_body_99 : decode b_Model_body 99 = .ok (.lconst 0, 1) := by decide +kernel
theorem d_Model_body_100 : decode b_Model_body 100 = .ok (.lcmp, 1) := by decide +kernel
theorem d_Model_body_101 : decode b_Model_body 101 = .ok (.ifCond .ne 7, 3) := by decide +kernel
theorem d_Model_body_104 : decode b_Model_body 104 = .ok (.iconst 0, 1) := by decide +kernel
theorem d_Model_body_105 : decode b_Model_body 105 = .ok (.goto 5, 3) := by decide +kernel
theorem d_Model_body_108 : decode b_Model_body 108 = .ok (.iload 6, 2) := by decide +kernel
theorem d_Model_body_110 : decode b_Model_body 110 = .ok (.istore 6, 2) := by decide +kernel
theorem d_Model_body_112 : decode b_Model_body 112 = .ok (.iload 5, 2) := by decide +kernel
theorem d_Model_body_114 : decode b_Model_body 114 = .ok (.iload 6, 2) := by decide +kernel
theorem d_Model_body_116 : decode b_Model_body 116 = .ok (.iadd, 1) := by decide +kernel
theorem d_Model_body_117 : decode b_Model_body 117 = .ok (.iconst 1, 1) := by decide +kernel
theorem d_Model_body_118 : decode b_Model_body 118 = .ok (.iadd, 1) := by decide +kernel
theorem d_Model_body_119 : decode b_Model_body 119 = .ok (.istore 5, 2) := by decide +kernel
theorem d_Model_body_121 : decode b_Model_body 121 = .ok (.aload_n 0, 1) := by decide +kernel
theorem d_Model_body_122 : decode b_Model_body 122 = .ok (.aload_n 0, 1) := by decide +kernel
theorem d_Model_body_123 : decode b_Model_body 123 = .ok (.getfield 179, 3) := by decide +kernel
theorem d_Model_body_126 : decode b_Model_body 126 = .ok (.ifCond .ne 10, 3) := by decide +kernel
theorem d_Model_body_129 : decode b_Model_body 129 = .ok (.iload 5, 2) := by decide +kernel
theorem d_Model_body_131 : decode b_Model_body 131 = .ok (.bipush 17, 2) := by decide +kernel
theorem d_Model_body_133 : decode b_Model_body 133 = .ok (.if_icmp .le 7, 3) := by decide +kernel
theorem d_Model_body_136 : decode b_Model_body 136 = .ok (.iconst 1, 1) := by decide +kernel
theorem d_Model_body_137 : decode b_Model_body 137 = .ok (.goto 4, 3) := by decide +kernel
theorem d_Model_body_140 : decode b_Model_body 140 = .ok (.iconst 0, 1) := by decide +kernel
theorem d_Model_body_141 : decode b_Model_body 141 = .ok (.putfield 179, 3) := by decide +kernel
theorem d_Model_body_144 : decode b_Model_body 144 = .ok (.iconst 0, 1) := by decide +kernel
theorem d_Model_body_145 : decode b_Model_body 145 = .ok (.istore 13, 2) := by decide +kernel
theorem d_Model_body_147 : decode b_Model_body 147 = .ok (.iload 13, 2) := by decide +kernel
theorem d_Model_body_149 : decode b_Model_body 149 = .ok (.iload 6, 2) := by decide +kernel
theorem d_Model_body_151 : decode b_Model_body 151 = .ok (.if_icmp .gt 22, 3) := by decide +kernel
theorem d_Model_body_154 : decode b_Model_body 154 = .ok (.aload_n 0, 1) := by decide +kernel
theorem d_Model_body_155 : decode b_Model_body 155 = .ok (.getfield 179, 3) := by decide +kernel
theorem d_Model_body_158 : decode b_Model_body 158 = .ok (.ifCond .ne 15, 3) := by decide +kernel
theorem d_Model_body_161 : decode b_Model_body 161 = .ok (.lload_n 3, 1) := by decide +kernel
theorem d_Model_body_162 : decode b_Model_body 162 = .ok (.ldc2_w 117, 3) := by decide +kernel
theorem d_Model_body_165 : decode b_Model_body 165 = .ok (.lmul, 1) := by decide +kernel
theorem d_Model_body_166 : decode b_Model_body 166 = .ok (.lstore_n 3, 1) := by decide +kernel
theorem d_Model_body_167 : decode b_Model_body 167 = .ok (.iinc 13 1, 3) := by decide +kernel
theorem d_Model_body_170 : decode b_Model_body 170 = .ok (.goto (-23), 3) := by decide +kernel
theorem d_Model_body_173 : decode b_Model_body 173 = .ok (.aload_n 0, 1) := by decide +kernel
theorem d_Model_body_174 : decode b_Model_body 174 = .ok (.getfield 179, 3) := by decide +kernel
theorem d_Model_body_177 : decode b_Model_body 177 = .ok (.ifCond .eq 7, 3) := by decide +kernel
theorem d_Model_body_180 : decode b_Model_body 180 = .ok (.lload_n 3, 1) := by decide +kernel
theorem d_Model_body_181 : decode b_Model_body 181 = .ok (.goto 8, 3) := by decide +kernel
theorem d_Model_body_184 : decode b_Model_body 184 = .ok (.lload_n 3, 1) := by decide +kernel
theorem d_Model_body_185 : decode b_Model_body 185 = .ok (.iload 12, 2) := by decide +kernel
theorem d_Model_body_187 : decode b_Model_body 187 = .ok (.i2l, 1) := by decide +kernel
theorem d_Model_body_188 : decode b_Model_body 188 = .ok (.ladd, 1) := by decide +kernel
theorem d_Model_body_189 : decode b_Model_body 189 = .ok (.lstore_n 3, 1) := by decide +kernel
theorem d_Model_body_190 : decode b_Model_body 190 = .ok (.iconst 0, 1) := by decide +kernel
theorem d_Model_body_191 : decode b_Model_body 191 = .ok (.istore 6, 2) := by decide +kernel
theorem d_Model_body_193 : decode b_Model_body 193 = .ok (.goto 113, 3) := by decide +kernel
theorem d_Model_body_196 : decode b_Model_body 196 = .ok (.iload 10, 2) := by decide +kernel
theorem d_Model_body_198 : decode b_Model_body 198 = .ok (.iload_n 2, 1) := by decide +kernel
theorem d_Model_body_199 : decode b_Model_body 199 = .ok (.if_icmp .ge 26, 3) := by decide +kernel
theorem d_Model_body_202 : decode b_Model_body 202 = .ok (.aload_n 0, 1) := by decide +kernel
theorem d_Model_body_203 : decode b_Model_body 203 = .ok (.getfield 7, 3) := by decide +kernel
theorem d_Model_body_206 : decode b_Model_body 206 = .ok (.iload 10, 2) := by decide +kernel
theorem d_Model_body_208 : decode b_Model_body 208 = .ok (.caload, 1) := by decide +kernel
theorem d_Model_body_209 : decode b_Model_body 209 = .ok (.bipush 46, 2) := by decide +kernel
theorem d_Model_body_211 : decode b_Model_body 211 = .ok (.if_icmp .ne 14, 3) := by decide +kernel
theorem d_Model_body_214 : decode b_Model_body 214 = .ok (.iload 9, 2) := by decide +kernel
theorem d_Model_body_216 : decode b_Model_body 216 = .ok (.ifCond .ne 9, 3) := by decide +kernel
theorem d_Model_body_219 : decode b_Model_body 219 = .ok (.iconst 1, 1) := by decide +kernel
theorem d_Model_body_220 : decode b_Model_body 220 = .ok (.istore 9, 2) := by decide +kernel
theorem d_Model_body_222 : decode b_Model_body 222 = .ok (.goto 84, 3) := by decide +kernel
theorem d_Model_body_225 : decode b_Model_body 225 = .ok (.iload 10, 2) := by decide +kernel
theorem d_Model_body_227 : decode b_Model_body 227 = .ok (.iload_n 1, 1) := by decide +kernel
theorem d_Model_body_228 : decode b_Model_body 228 = .ok (.if_icmp .le 31, 3) := by decide +kernel
theorem d_Model_body_231 : decode b_Model_body 231 = .ok (.aload_n 0, 1) := by decide +kernel
theorem d_Model_body_232 : decode b_Model_body 232 = .ok (.iload 10, 2) := by decide +kernel
theorem d_Model_body_234 : decode b_Model_body 234 = .ok (.iconst 1, 1) := by decide +kernel
theorem d_Model_body_235 : decode b_Model_body 235 = .ok (.isub, 1) := by decide +kernel
theorem d_Model_body_236 : decode b_Model_body 236 = .ok (.iload_n 2, 1) := by decide +kernel
theorem d_Model_body_237 : decode b_Model_body 237 = .ok (.invokevirtual 182, 3) := by decide +kernel
theorem d_Model_body_240 : decode b_Model_body 240 = .ok (.ifCond .eq 19, 3) := by decide +kernel
theorem d_Model_body_243 : decode b_Model_body 243 = .ok (.aload_n 0, 1) := by decide +kernel
theorem d_Model_body_244 : decode b_Model_body 244 = .ok (.iload 10, 2) := by decide +kernel
theorem d_Model_body_246 : decode b_Model_body 246 = .ok (.iconst 1, 1) := by decide +kernel
theorem d_Model_body_247 : decode b_Model_body 247 = .ok (.iadd, 1) := by decide +kernel
theorem d_Model_body_248 : decode b_Model_body 248 = .ok (.iload_n 2, 1) := by decide +kernel
theorem d_Model_body_249 : decode b_Model_body 249 = .ok (.invokevirtual 182, 3) := by decide +kernel
theorem d_Model_body_252 : decode b_Model_body 252 = .ok (.ifCond .eq 7, 3) := by decide +kernel
theorem d_Model_body_255 : decode b_Model_body 255 = .ok (.iconst 1, 1) := by decide +kernel
theorem d_Model_body_256 : decode b_Model_body 256 = .ok (.goto 4, 3) := by decide +kernel
theorem d_Model_body_259 : decode b_Model_body 259 = .ok (.iconst 0, 1) := by decide +kernel
theorem d_Model_body_260 : decode b_Model_body 260 = .ok (.istore 12, 2) := by decide +kernel
theorem d_Model_body_262 : decode b_Model_body 262 = .ok (.iload 10, 2) := by decide +kernel
theorem d_Model_body_264 : decode b_Model_body 264 = .ok (.iload_n 2, 1) := by decide +kernel
theorem d_Model_body_265 : decode b_Model_body 265 = .ok (.if_icmp .ge 38, 3) := by decide +kernel
theorem d_Model_body_268 : decode b_Model_body 268 = .ok (.aload_n 0, 1) := by decide +kernel
theorem d_Model_body_269 : decode b_Model_body 269 = .ok (.getfield 7, 3) := by decide +kernel
theorem d_Model_body_272 : decode b_Model_body 272 = .ok (.iload 10, 2) := by decide +kernel
theorem d_Model_body_274 : decode b_Model_body 274 = .ok (.caload, 1) := by decide +kernel
theorem d_Model_body_275 : decode b_Model_body 275 = .ok (.bipush 44, 2) := by decide +kernel
theorem d_Model_body_277 : decode b_Model_body 277 = .ok (.if_icmp .ne 26, 3) := by decide +kernel
theorem d_Model_body_280 : decode b_Model_body 280 = .ok (.aload_n 0, 1) := by decide +kernel
theorem d_Model_body_281 : decode b_Model_body 281 = .ok (.getfield 27, 3) := by decide +kernel
theorem d_Model_body_284 : decode b_Model_body 284 = .ok (.iconst 3, 1) := by decide +kernel
theorem d_Model_body_285 : decode b_Model_body 285 = .ok (.iaload, 1) := by decide +kernel
theorem d_Model_body_286 : decode b_Model_body 286 = .ok (.ifCond .le 17, 3) := by decide +kernel
theorem d_Model_body_289 : decode b_Model_body 289 = .ok (.iload 9, 2) := by decide +kernel
theorem d_Model_body_291 : decode b_Model_body 291 = .ok (.ifCond .ne 12, 3) := by decide +kernel
theorem d_Model_body_294 : decode b_Model_body 294 = .ok (.iload 12, 2) := by decide +kernel
theorem d_Model_body_296 : decode b_Model_body 296 = .ok (.ifCond .eq 7, 3) := by decide +kernel
theorem d_Model_body_299 : decode b_Model_body 299 = .ok (.iconst 1, 1) := by decide +kernel
theorem d_Model_body_300 : decode b_Model_body 300 = .ok (.goto 4, 3) := by decide +kernel
theorem d_Model_body_303 : decode b_Model_body 303 = .ok (.iconst 0, 1) := by decide +kernel
theorem d_Model_body_304 : decode b_Model_body 304 = .ok (.istore 11, 2) := by decide +kernel
theorem d_Model_body_306 : decode b_Model_body 306 = .ok (.iload 11, 2) := by decide +kernel
theorem d_Model_body_308 : decode b_Model_body 308 = .ok (.ifCond .eq 10, 3) := by decide +kernel
theorem d_Model_body_311 : decode b_Model_body 311 = .ok (.iload 10, 2) := by decide +kernel
theorem d_Model_body_313 : decode b_Model_body 313 = .ok (.iconst 1, 1) := by decide +kernel
theorem d_Model_body_314 : decode b_Model_body 314 = .ok (.iadd, 1) := by decide +kernel
theorem d_Model_body_315 : decode b_Model_body 315 = .ok (.goto 5, 3) := by decide +kernel
theorem d_Model_body_318 : decode b_Model_body 318 = .ok (.iload 10, 2) := by decide +kernel
theorem d_Model_body_320 : decode b_Model_body 320 = .ok (.istore 10, 2) := by decide +kernel
theorem d_Model_body_322 : decode b_Model_body 322 = .ok (.goto (-294), 3) := by decide +kernel
theorem d_Model_body_325 : decode b_Model_body 325 = .ok (.iconst 0, 1) := by decide +kernel
theorem d_Model_body_326 : decode b_Model_body 326 = .ok (.istore 12, 2) := by decide +kernel
theorem d_Model_body_328 : decode b_Model_body 328 = .ok (.iload 8, 2) := by decide +kernel
theorem d_Model_body_330 : decode b_Model_body 330 = .ok (.ifCond .le 7, 3) := by decide +kernel
theorem d_Model_body_333 : decode b_Model_body 333 = .ok (.iconst 1, 1) := by decide +kernel
theorem d_Model_body_334 : decode b_Model_body 334 = .ok (.goto 4, 3) := by decide +kernel
theorem d_Model_body_337 : decode b_Model_body 337 = .ok (.iconst 0, 1) := by decide +kernel
theorem d_Model_body_338 : decode b_Model_body 338 = .ok (.istore 13, 2) := by decide +kernel
theorem d_Model_body_340 : decode b_Model_body 340 = .ok (.iload 13, 2) := by decide +kernel
theorem d_Model_body_342 : decode b_Model_body 342 = .ok (.ifCond .eq 168, 3) := by decide +kernel
theorem d_Model_body_345 : decode b_Model_body 345 = .ok (.aload_n 0, 1) := by decide +kernel
theorem d_Model_body_346 : decode b_Model_body 346 = .ok (.getfield 27, 3) := by decide +kernel
theorem d_Model_body_349 : decode b_Model_body 349 = .ok (.iconst 4, 1) := by decide +kernel
theorem d_Model_body_350 : decode b_Model_body 350 = .ok (.iaload, 1) := by decide +kernel
theorem d_Model_body_351 : decode b_Model_body 351 = .ok (.ifCond .le 159, 3) := by decide +kernel
theorem d_Model_body_354 : decode b_Model_body 354 = .ok (.iload 10, 2) := by decide +kernel
theorem d_Model_body_356 : decode b_Model_body 356 = .ok (.iload_n 2, 1) := by decide +kernel
theorem d_Model_body_357 : decode b_Model_body 357 = .ok (.if_icmp .ge 19, 3) := by decide +kernel
theorem d_Model_body_360 : decode b_Model_body 360 = .ok (.aload_n 0, 1) := by decide +kernel
theorem d_Model_body_361 : decode b_Model_body 361 = .ok (.getfield 7, 3) := by decide +kernel
theorem d_Model_body_364 : decode b_Model_body 364 = .ok (.iload 10, 2) := by decide +kernel
theorem d_Model_body_366 : decode b_Model_body 366 = .ok (.caload, 1) := by decide +kernel
theorem d_Model_body_367 : decode b_Model_body 367 = .ok (.bipush 69, 2) := by decide +kernel
theorem d_Model_body_369 : decode b_Model_body 369 = .ok (.if_icmp .ne 7, 3) := by decide +kernel
theorem d_Model_body_372 : decode b_Model_body 372 = .ok (.iconst 1, 1) := by decide +kernel
theorem d_Model_body_373 : decode b_Model_body 373 = .ok (.goto 4, 3) := by decide +kernel
theorem d_Model_body_376 : decode b_Model_body 376 = .ok (.iconst 0, 1) := by decide +kernel
theorem d_Model_body_377 : decode b_Model_body 377 = .ok (.istore 13, 2) := by decide +kernel
theorem d_Model_body_379 : decode b_Model_body 379 = .ok (.iload 10, 2) := by decide +kernel
theorem d_Model_body_381 : decode b_Model_body 381 = .ok (.iconst 1, 1) := by decide +kernel
theorem d_Model_body_382 : decode b_Model_body 382 = .ok (.iadd, 1) := by decide +kernel
theorem d_Model_body_383 : decode b_Model_body 383 = .ok (.istore 10, 2) := by decide +kernel
theorem d_Model_body_385 : decode b_Model_body 385 = .ok (.iload 10, 2) := by decide +kernel
theorem d_Model_body_387 : decode b_Model_body 387 = .ok (.iload_n 2, 1) := by decide +kernel
theorem d_Model_body_388 : decode b_Model_body 388 = .ok (.if_icmp .ge 19, 3) := by decide +kernel
theorem d_Model_body_391 : decode b_Model_body 391 = .ok (.aload_n 0, 1) := by decide +kernel
theorem d_Model_body_392 : decode b_Model_body 392 = .ok (.getfield 7, 3) := by decide +kernel
theorem d_Model_body_395 : decode b_Model_body 395 = .ok (.iload 10, 2) := by decide +kernel
theorem d_Model_body_397 : decode b_Model_body 397 = .ok (.caload, 1) := by decide +kernel
theorem d_Model_body_398 : decode b_Model_body 398 = .ok (.bipush 45, 2) := by decide +kernel
theorem d_Model_body_400 : decode b_Model_body 400 = .ok (.if_icmp .ne 7, 3) := by decide +kernel
theorem d_Model_body_403 : decode b_Model_body 403 = .ok (.iconst 1, 1) := by decide +kernel
theorem d_Model_body_404 : decode b_Model_body 404 = .ok (.goto 4, 3) := by decide +kernel
theorem d_Model_body_407 : decode b_Model_body 407 = .ok (.iconst 0, 1) := by decide +kernel
theorem d_Model_body_408 : decode b_Model_body 408 = .ok (.istore 14, 2) := by decide +kernel
theorem d_Model_body_410 : decode b_Model_body 410 = .ok (.iload 14, 2) := by decide +kernel
theorem d_Model_body_412 : decode b_Model_body 412 = .ok (.ifCond .eq 10, 3) := by decide +kernel
theorem d_Model_body_415 : decode b_Model_body 415 = .ok (.iload 10, 2) := by decide +kernel
theorem d_Model_body_417 : decode b_Model_body 417 = .ok (.iconst 1, 1) := by decide +kernel
theorem d_Model_body_418 : decode b_Model_body 418 = .ok (.iadd, 1) := by decide +kernel
theorem d_Model_body_419 : decode b_Model_body 419 = .ok (.goto 5, 3) := by decide +kernel
theorem d_Model_body_422 : decode b_Model_body 422 = .ok (.iload 10, 2) := by decide +kernel
theorem d_Model_body_424 : decode b_Model_body 424 = .ok (.istore 10, 2) := by decide +kernel
theorem d_Model_body_426 : decode b_Model_body 426 = .ok (.iconst 0, 1) := by decide +kernel
theorem d_Model_body_427 : decode b_Model_body 427 = .ok (.istore 15, 2) := by decide +kernel
theorem d_Model_body_429 : decode b_Model_body 429 = .ok (.aload_n 0, 1) := by decide +kernel
theorem d_Model_body_430 : decode b_Model_body 430 = .ok (.iload 10, 2) := by decide +kernel
theorem d_Model_body_432 : decode b_Model_body 432 = .ok (.iload_n 2, 1) := by decide +kernel
theorem d_Model_body_433 : decode b_Model_body 433 = .ok (.invokevirtual 182, 3) := by decide +kernel
theorem d_Model_body_436 : decode b_Model_body 436 = .ok (.ifCond .eq 42, 3) := by decide +kernel
theorem d_Model_body_439 : decode b_Model_body 439 = .ok (.iload 15, 2) := by decide +kernel
theorem d_Model_body_441 : decode b_Model_body 441 = .ok (.iconst 3, 1) := by decide +kernel
theorem d_Model_body_442 : decode b_Model_body 442 = .ok (.if_icmp .ge 36, 3) := by decide +kernel
theorem d_Model_body_445 : decode b_Model_body 445 = .ok (.bipush 10, 2) := by decide +kernel
theorem d_Model_body_447 : decode b_Model_body 447 = .ok (.iload 12, 2) := by decide +kernel
theorem d_Model_body_449 : decode b_Model_body 449 = .ok (.imul, 1) := by decide +kernel
theorem d_Model_body_450 : decode b_Model_body 450 = .ok (.aload_n 0, 1) := by decide +kernel
theorem d_Model_body_451 : decode b_Model_body 451 = .ok (.getfield 7, 3) := by decide +kernel
theorem d_Model_body_454 : decode b_Model_body 454 = .ok (.iload 10, 2) := by decide +kernel
theorem d_Model_body_456 : decode b_Model_body 456 = .ok (.caload, 1) := by decide +kernel
theorem d_Model_body_457 : decode b_Model_body 457 = .ok (.iadd, 1) := by decide +kernel
theorem d_Model_body_458 : decode b_Model_body 458 = .ok (.bipush 48, 2) := by decide +kernel
theorem d_Model_body_460 : decode b_Model_body 460 = .ok (.isub, 1) := by decide +kernel
theorem d_Model_body_461 : decode b_Model_body 461 = .ok (.istore 12, 2) := by decide +kernel
theorem d_Model_body_463 : decode b_Model_body 463 = .ok (.iload 15, 2) := by decide +kernel
theorem d_Model_body_465 : decode b_Model_body 465 = .ok (.iconst 1, 1) := by decide +kernel
theorem d_Model_body_466 : decode b_Model_body 466 = .ok (.iadd, 1) := by decide +kernel
theorem d_Model_body_467 : decode b_Model_body 467 = .ok (.istore 15, 2) := by decide +kernel
theorem d_Model_body_469 : decode b_Model_body 469 = .ok (.iload 10, 2) := by decide +kernel
theorem d_Model_body_471 : decode b_Model_body 471 = .ok (.iconst 1, 1) := by decide +kernel
theorem d_Model_body_472 : decode b_Model_body 472 = .ok (.iadd, 1) := by decide +kernel
theorem d_Model_body_473 : decode b_Model_body 473 = .ok (.istore 10, 2) := by decide +kernel
theorem d_Model_body_475 : decode b_Model_body 475 = .ok (.goto (-46), 3) := by decide +kernel
theorem d_Model_body_478 : decode b_Model_body 478 = .ok (.iload 14, 2) := by decide +kernel
theorem d_Model_body_480 : decode b_Model_body 480 = .ok (.ifCond .eq 9, 3) := by decide +kernel
theorem d_Model_body_483 : decode b_Model_body 483 = .ok (.iload 12, 2) := by decide +kernel
theorem d_Model_body_485 : decode b_Model_body 485 = .ok (.ineg, 1) := by decide +kernel
theorem d_Model_body_486 : decode b_Model_body 486 = .ok (.goto 5, 3) := by decide +kernel
theorem d_Model_body_489 : decode b_Model_body 489 = .ok (.iload 12, 2) := by decide +kernel
theorem d_Model_body_491 : decode b_Model_body 491 = .ok (.istore 12, 2) := by decide +kernel
theorem d_Model_body_493 : decode b_Model_body 493 = .ok (.iload 13, 2) := by decide +kernel
theorem d_Model_body_495 : decode b_Model_body 495 = .ok (.ifCond .eq 12, 3) := by decide +kernel
theorem d_Model_body_498 : decode b_Model_body 498 = .ok (.iload 15, 2) := by decide +kernel
theorem d_Model_body_500 : decode b_Model_body 500 = .ok (.ifCond .le 7, 3) := by decide +kernel
theorem d_Model_body_503 : decode b_Model_body 503 = .ok (.iconst 1, 1) := by decide +kernel
theorem d_Model_body_504 : decode b_Model_body 504 = .ok (.goto 4, 3) := by decide +kernel
theorem d_Model_body_507 : decode b_Model_body 507 = .ok (.iconst 0, 1) := by decide +kernel
theorem d_Model_body_508 : decode b_Model_body 508 = .ok (.istore 13, 2) := by decide +kernel
theorem d_Model_body_510 : decode b_Model_body 510 = .ok (.aload_n 0, 1) := by decide +kernel
theorem d_Model_body_511 : decode b_Model_body 511 = .ok (.lload_n 3, 1) := by decide +kernel
theorem d_Model_body_512 : decode b_Model_body 512 = .ok (.putfield 186, 3) := by decide +kernel
theorem d_Model_body_515 : decode b_Model_body 515 = .ok (.aload_n 0, 1) := by decide +kernel
theorem d_Model_body_516 : decode b_Model_body 516 = .ok (.lload_n 3, 1) := by decide +kernel
theorem d_Model_body_517 : decode b_Model_body 517 = .ok (.lconst 0, 1) := by decide +kernel
theorem d_Model_body_518 : decode b_Model_body 518 = .ok (.lcmp, 1) := by decide +kernel
theorem d_Model_body_519 : decode b_Model_body 519 = .ok (.ifCond .ne 14, 3) := by decide +kernel
theorem d_Model_body_522 : decode b_Model_body 522 = .ok (.aload_n 0, 1) := by decide +kernel
theorem d_Model_body_523 : decode b_Model_body 523 = .ok (.getfield 179, 3) := by decide +kernel
theorem d_Model_body_526 : decode b_Model_body 526 = .ok (.ifCond .ne 7, 3) := by decide +kernel
theorem d_Model_body_529 : decode b_Model_body 529 = .ok (.iconst 0, 1) := by decide +kernel
theorem d_Model_body_530 : decode b_Model_body 530 = .ok (.goto 28, 3) := by decide +kernel
theorem d_Model_body_533 : decode b_Model_body 533 = .ok (.iload 7, 2) := by decide +kernel
theorem d_Model_body_535 : decode b_Model_body 535 = .ok (.iload 6, 2) := by decide +kernel
theorem d_Model_body_537 : decode b_Model_body 537 = .ok (.isub, 1) := by decide +kernel
theorem d_Model_body_538 : decode b_Model_body 538 = .ok (.iload 12, 2) := by decide +kernel
theorem d_Model_body_540 : decode b_Model_body 540 = .ok (.isub, 1) := by decide +kernel
theorem d_Model_body_541 : decode b_Model_body 541 = .ok (.aload_n 0, 1) := by decide +kernel
theorem d_Model_body_542 : decode b_Model_body 542 = .ok (.getfield 27, 3) := by decide +kernel
theorem d_Model_body_545 : decode b_Model_body 545 = .ok (.iconst 5, 1) := by decide +kernel
theorem d_Model_body_546 : decode b_Model_body 546 = .ok (.iaload, 1) := by decide +kernel
theorem d_Model_body_547 : decode b_Model_body 547 = .ok (.bipush 100, 2) := by decide +kernel
theorem d_Model_body_549 : decode b_Model_body 549 = .ok (.if_icmp .ne 7, 3) := by decide +kernel
theorem d_Model_body_552 : decode b_Model_body 552 = .ok (.iconst 2, 1) := by decide +kernel
theorem d_Model_body_553 : decode b_Model_body 553 = .ok (.goto 4, 3) := by decide +kernel
theorem d_Model_body_556 : decode b_Model_body 556 = .ok (.iconst 0, 1) := by decide +kernel
theorem d_Model_body_557 : decode b_Model_body 557 = .ok (.iadd, 1) := by decide +kernel
theorem d_Model_body_558 : decode b_Model_body 558 = .ok (.putfield 190, 3) := by decide +kernel
theorem d_Model_body_561 : decode b_Model_body 561 = .ok (.iload 13, 2) := by decide +kernel
theorem d_Model_body_563 : decode b_Model_body 563 = .ok (.ifCond .eq 13, 3) := by decide +kernel
theorem d_Model_body_566 : decode b_Model_body 566 = .ok (.iload 10, 2) := by decide +kernel
theorem d_Model_body_568 : decode b_Model_body 568 = .ok (.iload_n 2, 1) := by decide +kernel
theorem d_Model_body_569 : decode b_Model_body 569 = .ok (.if_icmp .ne 7, 3) := by decide +kernel
theorem d_Model_body_572 : decode b_Model_body 572 = .ok (.iconst 1, 1) := by decide +kernel
theorem d_Model_body_573 : decode b_Model_body 573 = .ok (.goto 4, 3) := by decide +kernel
theorem d_Model_body_576 : decode b_Model_body 576 = .ok (.iconst 0, 1) := by decide +kernel
theorem d_Model_body_577 : decode b_Model_body 577 = .ok (.ireturn, 1) := by decide +kernel
