theorem d_Row_init_0 : decode b_Row_init 0 = .ok (.aload_n 0, 1) := by decide +kernel
theorem d_Row_init_1 : decode b_Row_init 1 = .ok (.invokespecial 3, 3) := by decide +kernel
theorem d_Row_init_4 : decode b_Row_init 4 = .ok (.aload_n 0, 1) := by decide +kernel
theorem d_Row_init_5 : decode b_Row_init 5 = .ok (.bipush 120, 2) := by decide +kernel
theorem d_Row_init_7 : decode b_Row_init 7 = .ok (.newarray .char, 2) := by decide +kernel
theorem d_Row_init_9 : decode b_Row_init 9 = .ok (.putfield 9, 3) := by decide +kernel
theorem d_Row_init_12 : decode b_Row_init 12 = .ok (.aload_n 0, 1) := by decide +kernel
theorem d_Row_init_13 : decode b_Row_init 13 = .ok (.iconst 0, 1) := by decide +kernel
theorem d_Row_init_14 : decode b_Row_init 14 = .ok (.putfield 15, 3) := by decide +kernel
theorem d_Row_init_17 : decode b_Row_init 17 = .ok (.return_, 1) := by decide +kernel
theorem d_Row_size_0 : decode b_Row_size 0 = .ok (.aload_n 0, 1) := by decide +kernel
theorem d_Row_size_1 : decode b_Row_size 1 = .ok (.getfield 15, 3) := by decide +kernel
theorem d_Row_size_4 : decode b_Row_size 4 = .ok (.ireturn, 1) := by decide +kernel
theorem d_Row_at_0 : decode b_Row_at 0 = .ok (.iload_n 1, 1) := by decide +kernel
theorem d_Row_at_1 : decode b_Row_at 1 = .ok (.ifCond .lt 20, 3) := by decide +kernel
theorem d_Row_at_4 : decode b_Row_at 4 = .ok (.iload_n 1, 1) := by decide +kernel
theorem d_Row_at_5 : decode b_Row_at 5 = .ok (.aload_n 0, 1) := by decide +kernel
theorem d_Row_at_6 : decode b_Row_at 6 = .ok (.getfield 15, 3) := by decide +kernel
theorem d_Row_at_9 : decode b_Row_at 9 = .ok (.if_icmp .ge 12, 3) := by decide +kernel
theorem d_Row_at_12 : decode b_Row_at 12 = .ok (.aload_n 0, 1) := by decide +kernel
theorem d_Row_at_13 : decode b_Row_at 13 = .ok (.getfield 9, 3) := by decide +kernel
theorem d_Row_at_16 : decode b_Row_at 16 = .ok (.iload_n 1, 1) := by decide +kernel
theorem d_Row_at_17 : decode b_Row_at 17 = .ok (.caload, 1) := by decide +kernel
theorem d_Row_at_18 : decode b_Row_at 18 = .ok (.goto 4, 3) := by decide +kernel
theorem d_Row_at_21 : decode b_Row_at 21 = .ok (.iconst (-1), 1) := by decide +kernel
theorem d_Row_at_22 : decode b_Row_at 22 = .ok (.ireturn, 1) := by decide +kernel
theorem d_Row_add_0 : decode b_Row_add 0 = .ok (.aload_n 0, 1) := by decide +kernel
theorem d_Row_add_1 : decode b_Row_add 1 = .ok (.getfield 15, 3) := by decide +kernel
theorem d_Row_add_4 : decode b_Row_add 4 = .ok (.aload_n 0, 1) := by decide +kernel
theorem d_Row_add_5 : decode b_Row_add 5 = .ok (.getfield 9, 3) := by decide +kernel
theorem d_Row_add_8 : decode b_Row_add 8 = .ok (.arraylength, 1) := by decide +kernel
theorem d_Row_add_9 : decode b_Row_add 9 = .ok (.if_icmp .lt 5, 3) := by decide +kernel
theorem d_Row_add_12 : decode b_Row_add 12 = .ok (.iconst 0, 1) := by decide +kernel
theorem d_Row_add_13 : decode b_Row_add 13 = .ok (.ireturn, 1) := by decide +kernel
theorem d_Row_add_14 : decode b_Row_add 14 = .ok (.aload_n 0, 1) := by decide +kernel
theorem d_Row_add_15 : decode b_Row_add 15 = .ok (.getfield 9, 3) := by decide +kernel
theorem d_Row_add_18 : decode b_Row_add 18 = .ok (.aload_n 0, 1) := by decide +kernel
theorem d_Row_add_19 : decode b_Row_add 19 = .ok (.getfield 15, 3) := by decide +kernel
theorem d_Row_add_22 : decode b_Row_add 22 = .ok (.iload_n 1, 1) := by decide +kernel
theorem d_Row_add_23 : decode b_Row_add 23 = .ok (.castore, 1) := by decide +kernel
theorem d_Row_add_24 : decode b_Row_add 24 = .ok (.aload_n 0, 1) := by decide +kernel
theorem d_Row_add_25 : decode b_Row_add 25 = .ok (.dup, 1) := by decide +kernel
theorem d_Row_add_26 : decode b_Row_add 26 = .ok (.getfield 15, 3) := by decide +kernel
theorem d_Row_add_29 : decode b_Row_add 29 = .ok (.iconst 1, 1) := by decide +kernel
theorem d_Row_add_30 : decode b_Row_add 30 = .ok (.iadd, 1) := by decide +kernel
theorem d_Row_add_31 : decode b_Row_add 31 = .ok (.putfield 15, 3) := by decide +kernel
theorem d_Row_add_34 : decode b_Row_add 34 = .ok (.iconst 1, 1) := by decide +kernel
theorem d_Row_add_35 : decode b_Row_add 35 = .ok (.ireturn, 1) := by decide +kernel
theorem d_Row_clear_0 : decode b_Row_clear 0 = .ok (.aload_n 0, 1) := by decide +kernel
theorem d_Row_clear_1 : decode b_Row_clear 1 = .ok (.iconst 0, 1) := by decide +kernel
theorem d_Row_clear_2 : decode b_Row_clear 2 = .ok (.putfield 15, 3) := by decide +kernel
theorem d_Row_clear_5 : decode b_Row_clear 5 = .ok (.return_, 1) := by decide +kernel
theorem d_Row_become_0 : decode b_Row_become 0 = .ok (.aload_n 1, 1) := by decide +kernel
theorem d_Row_become_1 : decode b_Row_become 1 = .ok (.getfield 9, 3) := by decide +kernel
theorem d_Row_become_4 : decode b_Row_become 4 = .ok (.iconst 0, 1) := by decide +kernel
theorem d_Row_become_5 : decode b_Row_become 5 = .ok (.aload_n 0, 1) := by decide +kernel
theorem d_Row_become_6 : decode b_Row_become 6 = .ok (.getfield 9, 3) := by decide +kernel
theorem d_Row_become_9 : decode b_Row_become 9 = .ok (.iconst 0, 1) := by decide +kernel
theorem d_Row_become_10 : decode b_Row_become 10 = .ok (.aload_n 1, 1) := by decide +kernel
theorem d_Row_become_11 : decode b_Row_become 11 = .ok (.getfield 15, 3) := by decide +kernel
theorem d_Row_become_14 : decode b_Row_become 14 = .ok (.invokestatic 19, 3) := by decide +kernel
theorem d_Row_become_17 : decode b_Row_become 17 = .ok (.aload_n 0, 1) := by decide +kernel
theorem d_Row_become_18 : decode b_Row_become 18 = .ok (.aload_n 1, 1) := by decide +kernel
theorem d_Row_become_19 : decode b_Row_become 19 = .ok (.getfield 15, 3) := by decide +kernel
theorem d_Row_become_22 : decode b_Row_become 22 = .ok (.putfield 15, 3) := by decide +kernel
theorem d_Row_become_25 : decode b_Row_become 25 = .ok (.return_, 1) := by decide +kernel
theorem d_Affix_init_0 : decode b_Affix_init 0 = .ok (.aload_n 0, 1) := by decide +kernel
theorem d_Affix_init_1 : decode b_Affix_init 1 = .ok (.invokespecial 3, 3) := by decide +kernel
theorem d_Affix_init_4 : decode b_Affix_init 4 = .ok (.aload_n 0, 1) := by decide +kernel
theorem d_Affix_init_5 : decode b_Affix_init 5 = .ok (.bipush 120, 2) := by decide +kernel
theorem d_Affix_init_7 : decode b_Affix_init 7 = .ok (.newarray .int, 2) := by decide +kernel
theorem d_Affix_init_9 : decode b_Affix_init 9 = .ok (.putfield 9, 3) := by decide +kernel
theorem d_Affix_init_12 : decode b_Affix_init 12 = .ok (.aload_n 0, 1) := by decide +kernel
theorem d_Affix_init_13 : decode b_Affix_init 13 = .ok (.iconst 0, 1) := by decide +kernel
theorem d_Affix_init_14 : decode b_Affix_init 14 = .ok (.putfield 15, 3) := by decide +kernel
theorem d_Affix_init_17 : decode b_Affix_init 17 = .ok (.return_, 1) := by decide +kernel
theorem d_Affix_size_0 : decode b_Affix_size 0 = .ok (.aload_n 0, 1) := by decide +kernel
theorem d_Affix_size_1 : decode b_Affix_size 1 = .ok (.getfield 15, 3) := by decide +kernel
theorem d_Affix_size_4 : decode b_Affix_size 4 = .ok (.ireturn, 1) := by decide +kernel
theorem d_Affix_at_0 : decode b_Affix_at 0 = .ok (.iload_n 1, 1) := by decide +kernel
theorem d_Affix_at_1 : decode b_Affix_at 1 = .ok (.ifCond .lt 20, 3) := by decide +kernel
theorem d_Affix_at_4 : decode b_Affix_at 4 = .ok (.iload_n 1, 1) := by decide +kernel
theorem d_Affix_at_5 : decode b_Affix_at 5 = .ok (.aload_n 0, 1) := by decide +kernel
theorem d_Affix_at_6 : decode b_Affix_at 6 = .ok (.getfield 15, 3) := by decide +kernel
theorem d_Affix_at_9 : decode b_Affix_at 9 = .ok (.if_icmp .ge 12, 3) := by decide +kernel
theorem d_Affix_at_12 : decode b_Affix_at 12 = .ok (.aload_n 0, 1) := by decide +kernel
theorem d_Affix_at_13 : decode b_Affix_at 13 = .ok (.getfield 9, 3) := by decide +kernel
theorem d_Affix_at_16 : decode b_Affix_at 16 = .ok (.iload_n 1, 1) := by decide +kernel
theorem d_Affix_at_17 : decode b_Affix_at 17 = .ok (.iaload, 1) := by decide +kernel
theorem d_Affix_at_18 : decode b_Affix_at 18 = .ok (.goto 4, 3) := by decide +kernel
theorem d_Affix_at_21 : decode b_Affix_at 21 = .ok (.iconst (-1), 1) := by decide +kernel
theorem d_Affix_at_22 : decode b_Affix_at 22 = .ok (.ireturn, 1) := by decide +kernel
theorem d_Affix_clear_0 : decode b_Affix_clear 0 = .ok (.aload_n 0, 1) := by decide +kernel
theorem d_Affix_clear_1 : decode b_Affix_clear 1 = .ok (.iconst 0, 1) := by decide +kernel
theorem d_Affix_clear_2 : decode b_Affix_clear 2 = .ok (.putfield 15, 3) := by decide +kernel
theorem d_Affix_clear_5 : decode b_Affix_clear 5 = .ok (.return_, 1) := by decide +kernel
theorem d_Affix_add_0 : decode b_Affix_add 0 = .ok (.aload_n 0, 1) := by decide +kernel
theorem d_Affix_add_1 : decode b_Affix_add 1 = .ok (.getfield 15, 3) := by decide +kernel
theorem d_Affix_add_4 : decode b_Affix_add 4 = .ok (.aload_n 0, 1) := by decide +kernel
theorem d_Affix_add_5 : decode b_Affix_add 5 = .ok (.getfield 9, 3) := by decide +kernel
theorem d_Affix_add_8 : decode b_Affix_add 8 = .ok (.arraylength, 1) := by decide +kernel
theorem d_Affix_add_9 : decode b_Affix_add 9 = .ok (.if_icmp .ge 23, 3) := by decide +kernel
theorem d_Affix_add_12 : decode b_Affix_add 12 = .ok (.aload_n 0, 1) := by decide +kernel
theorem d_Affix_add_13 : decode b_Affix_add 13 = .ok (.getfield 9, 3) := by decide +kernel
theorem d_Affix_add_16 : decode b_Affix_add 16 = .ok (.aload_n 0, 1) := by decide +kernel
theorem d_Affix_add_17 : decode b_Affix_add 17 = .ok (.getfield 15, 3) := by decide +kernel
theorem d_Affix_add_20 : decode b_Affix_add 20 = .ok (.iload_n 1, 1) := by decide +kernel
theorem d_Affix_add_21 : decode b_Affix_add 21 = .ok (.iastore, 1) := by decide +kernel
theorem d_Affix_add_22 : decode b_Affix_add 22 = .ok (.aload_n 0, 1) := by decide +kernel
theorem d_Affix_add_23 : decode b_Affix_add 23 = .ok (.dup, 1) := by decide +kernel
theorem d_Affix_add_24 : decode b_Affix_add 24 = .ok (.getfield 15, 3) := by decide +kernel
theorem d_Affix_add_27 : decode b_Affix_add 27 = .ok (.iconst 1, 1) := by decide +kernel
theorem d_Affix_add_28 : decode b_Affix_add 28 = .ok (.iadd, 1) := by decide +kernel
theorem d_Affix_add_29 : decode b_Affix_add 29 = .ok (.putfield 15, 3) := by decide +kernel
theorem d_Affix_add_32 : decode b_Affix_add 32 = .ok (.return_, 1) := by decide +kernel
theorem d_Affix_addAll_0 : decode b_Affix_addAll 0 = .ok (.iconst 0, 1) := by decide +kernel
theorem d_Affix_addAll_1 : decode b_Affix_addAll 1 = .ok (.istore_n 2, 1) := by decide +kernel
theorem d_Affix_addAll_2 : decode b_Affix_addAll 2 = .ok (.iload_n 2, 1) := by decide +kernel
theorem d_Affix_addAll_3 : decode b_Affix_addAll 3 = .ok (.aload_n 1, 1) := by decide +kernel
theorem d_Affix_addAll_4 : decode b_Affix_addAll 4 = .ok (.getfield 15, 3) := by decide +kernel
theorem d_Affix_addAll_7 : decode b_Affix_addAll 7 = .ok (.if_icmp .ge 18, 3) := by decide +kernel
theorem d_Affix_addAll_10 : decode b_Affix_addAll 10 = .ok (.aload_n 0, 1) := by decide +kernel
theorem d_Affix_addAll_11 : decode b_Affix_addAll 11 = .ok (.aload_n 1, 1) := by decide +kernel
theorem d_Affix_addAll_12 : decode b_Affix_addAll 12 = .ok (.iload_n 2, 1) := by decide +kernel
theorem d_Affix_addAll_13 : decode b_Affix_addAll 13 = .ok (.invokevirtual 19, 3) := by decide +kernel
theorem d_Affix_addAll_16 : decode b_Affix_addAll 16 = .ok (.invokevirtual 23, 3) := by decide +kernel
theorem d_Affix_addAll_19 : decode b_Affix_addAll 19 = .ok (.iinc 2 1, 3) := by decide +kernel
theorem d_Affix_addAll_22 : decode b_Affix_addAll 22 = .ok (.goto (-20), 3) := by decide +kernel
theorem d_Affix_addAll_25 : decode b_Affix_addAll 25 = .ok (.return_, 1) := by decide +kernel
theorem d_Affix_hasPercent_0 : decode b_Affix_hasPercent 0 = .ok (.iconst 0, 1) := by decide +kernel
theorem d_Affix_hasPercent_1 : decode b_Affix_hasPercent 1 = .ok (.istore_n 1, 1) := by decide +kernel
theorem d_Affix_hasPercent_2 : decode b_Affix_hasPercent 2 = .ok (.iload_n 1, 1) := by decide +kernel
theorem d_Affix_hasPercent_3 : decode b_Affix_hasPercent 3 = .ok (.aload_n 0, 1) := by decide +kernel
theorem d_Affix_hasPercent_4 : decode b_Affix_hasPercent 4 = .ok (.getfield 15, 3) := by decide +kernel
theorem d_Affix_hasPercent_7 : decode b_Affix_hasPercent 7 = .ok (.if_icmp .ge 23, 3) := by decide +kernel
theorem d_Affix_hasPercent_10 : decode b_Affix_hasPercent 10 = .ok (.aload_n 0, 1) := by decide +kernel
theorem d_Affix_hasPercent_11 : decode b_Affix_hasPercent 11 = .ok (.getfield 9, 3) := by decide +kernel
theorem d_Affix_hasPercent_14 : decode b_Affix_hasPercent 14 = .ok (.iload_n 1, 1) := by decide +kernel
theorem d_Affix_hasPercent_15 : decode b_Affix_hasPercent 15 = .ok (.iaload, 1) := by decide +kernel
theorem d_Affix_hasPercent_16 : decode b_Affix_hasPercent 16 = .ok (.sipush 256, 3) := by decide +kernel
theorem d_Affix_hasPercent_19 : decode b_Affix_hasPercent 19 = .ok (.if_icmp .ne 5, 3) := by decide +kernel
theorem d_Affix_hasPercent_22 : decode b_Affix_hasPercent 22 = .ok (.iconst 1, 1) := by decide +kernel
theorem d_Affix_hasPercent_23 : decode b_Affix_hasPercent 23 = .ok (.ireturn, 1) := by decide +kernel
theorem d_Affix_hasPercent_24 : decode b_Affix_hasPercent 24 = .ok (.iinc 1 1, 3) := by decide +kernel
theorem d_Affix_hasPercent_27 : decode b_Affix_hasPercent 27 = .ok (.goto (-25), 3) := by decide +kernel
theorem d_Affix_hasPercent_30 : decode b_Affix_hasPercent 30 = .ok (.iconst 0, 1) := by decide +kernel
theorem d_Affix_hasPercent_31 : decode b_Affix_hasPercent 31 = .ok (.ireturn, 1) := by decide +kernel
theorem d_Affix_endsAs_0 : decode b_Affix_endsAs 0 = .ok (.aload_n 0, 1) := by decide +kernel
theorem d_Affix_endsAs_1 : decode b_Affix_endsAs 1 = .ok (.getfield 15, 3) := by decide +kernel
theorem d_Affix_endsAs_4 : decode b_Affix_endsAs 4 = .ok (.iload_n 2, 1) := by decide +kernel
theorem d_Affix_endsAs_5 : decode b_Affix_endsAs 5 = .ok (.isub, 1) := by decide +kernel
theorem d_Affix_endsAs_6 : decode b_Affix_endsAs 6 = .ok (.aload_n 1, 1) := by decide +kernel
theorem d_Affix_endsAs_7 : decode b_Affix_endsAs 7 = .ok (.getfield 15, 3) := by decide +kernel
theorem d_Affix_endsAs_10 : decode b_Affix_endsAs 10 = .ok (.if_icmp .eq 5, 3) := by decide +kernel
theorem d_Affix_endsAs_13 : decode b_Affix_endsAs 13 = .ok (.iconst 0, 1) := by decide +kernel
theorem d_Affix_endsAs_14 : decode b_Affix_endsAs 14 = .ok (.ireturn, 1) := by decide +kernel
theorem d_Affix_endsAs_15 : decode b_Affix_endsAs 15 = .ok (.iconst 0, 1) := by decide +kernel
theorem d_Affix_endsAs_16 : decode b_Affix_endsAs 16 = .ok (.istore_n 3, 1) := by decide +kernel
theorem d_Affix_endsAs_17 : decode b_Affix_endsAs 17 = .ok (.iload_n 3, 1) := by decide +kernel
theorem d_Affix_endsAs_18 : decode b_Affix_endsAs 18 = .ok (.aload_n 1, 1) := by decide +kernel
theorem d_Affix_endsAs_19 : decode b_Affix_endsAs 19 = .ok (.getfield 15, 3) := by decide +kernel
theorem d_Affix_endsAs_22 : decode b_Affix_endsAs 22 = .ok (.if_icmp .ge 26, 3) := by decide +kernel
theorem d_Affix_endsAs_25 : decode b_Affix_endsAs 25 = .ok (.aload_n 0, 1) := by decide +kernel
theorem d_Affix_endsAs_26 : decode b_Affix_endsAs 26 = .ok (.iload_n 2, 1) := by decide +kernel
theorem d_Affix_endsAs_27 : decode b_Affix_endsAs 27 = .ok (.iload_n 3, 1) := by decide +kernel
theorem d_Affix_endsAs_28 : decode b_Affix_endsAs 28 = .ok (.iadd, 1) := by decide +kernel
theorem d_Affix_endsAs_29 : decode b_Affix_endsAs 29 = .ok (.invokevirtual 19, 3) := by decide +kernel
theorem d_Affix_endsAs_32 : decode b_Affix_endsAs 32 = .ok (.aload_n 1, 1) := by decide +kernel
theorem d_Affix_endsAs_33 : decode b_Affix_endsAs 33 = .ok (.iload_n 3, 1) := by decide +kernel
theorem d_Affix_endsAs_34 : decode b_Affix_endsAs 34 = .ok (.invokevirtual 19, 3) := by decide +kernel
theorem d_Affix_endsAs_37 : decode b_Affix_endsAs 37 = .ok (.if_icmp .eq 5, 3) := by decide +kernel
theorem d_Affix_endsAs_40 : decode b_Affix_endsAs 40 = .ok (.iconst 0, 1) := by decide +kernel
theorem d_Affix_endsAs_41 : decode b_Affix_endsAs 41 = .ok (.ireturn, 1) := by decide +kernel
theorem d_Affix_endsAs_42 : decode b_Affix_endsAs 42 = .ok (.iinc 3 1, 3) := by decide +kernel
theorem d_Affix_endsAs_45 : decode b_Affix_endsAs 45 = .ok (.goto (-28), 3) := by decide +kernel
theorem d_Affix_endsAs_48 : decode b_Affix_endsAs 48 = .ok (.iconst 1, 1) := by decide +kernel
theorem d_Affix_endsAs_49 : decode b_Affix_endsAs 49 = .ok (.ireturn, 1) := by decide +kernel
theorem d_Affix_shownAt_0 : decode b_Affix_shownAt 0 = .ok (.aload_n 0, 1) := by decide +kernel
theorem d_Affix_shownAt_1 : decode b_Affix_shownAt 1 = .ok (.iload_n 1, 1) := by decide +kernel
theorem d_Affix_shownAt_2 : decode b_Affix_shownAt 2 = .ok (.invokevirtual 19, 3) := by decide +kernel
theorem d_Affix_shownAt_5 : decode b_Affix_shownAt 5 = .ok (.istore_n 2, 1) := by decide +kernel
theorem d_Affix_shownAt_6 : decode b_Affix_shownAt 6 = .ok (.iload_n 2, 1) := by decide +kernel
theorem d_Affix_shownAt_7 : decode b_Affix_shownAt 7 = .ok (.sipush 256, 3) := by decide +kernel
theorem d_Affix_shownAt_10 : decode b_Affix_shownAt 10 = .ok (.if_icmp .ne 8, 3) := by decide +kernel
theorem d_Affix_shownAt_13 : decode b_Affix_shownAt 13 = .ok (.bipush 37, 2) := by decide +kernel
theorem d_Affix_shownAt_15 : decode b_Affix_shownAt 15 = .ok (.goto 4, 3) := by decide +kernel
theorem d_Affix_shownAt_18 : decode b_Affix_shownAt 18 = .ok (.iload_n 2, 1) := by decide +kernel
theorem d_Affix_shownAt_19 : decode b_Affix_shownAt 19 = .ok (.ireturn, 1) := by decide +kernel
theorem d_Affix_show_0 : decode b_Affix_show 0 = .ok (.iconst 0, 1) := by decide +kernel
theorem d_Affix_show_1 : decode b_Affix_show 1 = .ok (.istore_n 2, 1) := by decide +kernel
theorem d_Affix_show_2 : decode b_Affix_show 2 = .ok (.iload_n 2, 1) := by decide +kernel
theorem d_Affix_show_3 : decode b_Affix_show 3 = .ok (.aload_n 0, 1) := by decide +kernel
theorem d_Affix_show_4 : decode b_Affix_show 4 = .ok (.getfield 15, 3) := by decide +kernel
theorem d_Affix_show_7 : decode b_Affix_show 7 = .ok (.if_icmp .ge 20, 3) := by decide +kernel
theorem d_Affix_show_10 : decode b_Affix_show 10 = .ok (.aload_n 1, 1) := by decide +kernel
theorem d_Affix_show_11 : decode b_Affix_show 11 = .ok (.aload_n 0, 1) := by decide +kernel
theorem d_Affix_show_12 : decode b_Affix_show 12 = .ok (.iload_n 2, 1) := by decide +kernel
theorem d_Affix_show_13 : decode b_Affix_show 13 = .ok (.invokevirtual 27, 3) := by decide +kernel
theorem d_Affix_show_16 : decode b_Affix_show 16 = .ok (.i2c, 1) := by decide +kernel
theorem d_Affix_show_17 : decode b_Affix_show 17 = .ok (.invokevirtual 30, 3) := by decide +kernel
theorem d_Affix_show_20 : decode b_Affix_show 20 = .ok (.pop, 1) := by decide +kernel
theorem d_Affix_show_21 : decode b_Affix_show 21 = .ok (.iinc 2 1, 3) := by decide +kernel
theorem d_Affix_show_24 : decode b_Affix_show 24 = .ok (.goto (-22), 3) := by decide +kernel
theorem d_Affix_show_27 : decode b_Affix_show 27 = .ok (.return_, 1) := by decide +kernel
theorem d_Affix_standsIn_0 : decode b_Affix_standsIn 0 = .ok (.iconst 0, 1) := by decide +kernel
theorem d_Affix_standsIn_1 : decode b_Affix_standsIn 1 = .ok (.istore_n 3, 1) := by decide +kernel
theorem d_Affix_standsIn_2 : decode b_Affix_standsIn 2 = .ok (.iload_n 3, 1) := by decide +kernel
theorem d_Affix_standsIn_3 : decode b_Affix_standsIn 3 = .ok (.aload_n 0, 1) := by decide +kernel
theorem d_Affix_standsIn_4 : decode b_Affix_standsIn 4 = .ok (.getfield 15, 3) := by decide +kernel
theorem d_Affix_standsIn_7 : decode b_Affix_standsIn 7 = .ok (.if_icmp .ge 26, 3) := by decide +kernel
theorem d_Affix_standsIn_10 : decode b_Affix_standsIn 10 = .ok (.aload_n 1, 1) := by decide +kernel
theorem d_Affix_standsIn_11 : decode b_Affix_standsIn 11 = .ok (.iload_n 2, 1) := by decide +kernel
theorem d_Affix_standsIn_12 : decode b_Affix_standsIn 12 = .ok (.iload_n 3, 1) := by decide +kernel
theorem d_Affix_standsIn_13 : decode b_Affix_standsIn 13 = .ok (.iadd, 1) := by decide +kernel
theorem d_Affix_standsIn_14 : decode b_Affix_standsIn 14 = .ok (.invokevirtual 35, 3) := by decide +kernel
theorem d_Affix_standsIn_17 : decode b_Affix_standsIn 17 = .ok (.aload_n 0, 1) := by decide +kernel
theorem d_Affix_standsIn_18 : decode b_Affix_standsIn 18 = .ok (.iload_n 3, 1) := by decide +kernel
theorem d_Affix_standsIn_19 : decode b_Affix_standsIn 19 = .ok (.invokevirtual 27, 3) := by decide +kernel
theorem d_Affix_standsIn_22 : decode b_Affix_standsIn 22 = .ok (.if_icmp .eq 5, 3) := by decide +kernel
theorem d_Affix_standsIn_25 : decode b_Affix_standsIn 25 = .ok (.iconst 0, 1) := by decide +kernel
theorem d_Affix_standsIn_26 : decode b_Affix_standsIn 26 = .ok (.ireturn, 1) := by decide +kernel
theorem d_Affix_standsIn_27 : decode b_Affix_standsIn 27 = .ok (.iinc 3 1, 3) := by decide +kernel
theorem d_Affix_standsIn_30 : decode b_Affix_standsIn 30 = .ok (.goto (-28), 3) := by decide +kernel
theorem d_Affix_standsIn_33 : decode b_Affix_standsIn 33 = .ok (.iconst 1, 1) := by decide +kernel
theorem d_Affix_standsIn_34 : decode b_Affix_standsIn 34 = .ok (.ireturn, 1) := by decide +kernel
theorem d_Shape_init_0 : decode b_Shape_init 0 = .ok (.aload_n 0, 1) := by decide +kernel
theorem d_Shape_init_1 : decode b_Shape_init 1 = .ok (.invokespecial 1, 3) := by decide +kernel
theorem d_Shape_init_4 : decode b_Shape_init 4 = .ok (.aload_n 0, 1) := by decide +kernel
theorem d_Shape_init_5 : decode b_Shape_init 5 = .ok (.invokevirtual 7, 3) := by decide +kernel
theorem d_Shape_init_8 : decode b_Shape_init 8 = .ok (.return_, 1) := by decide +kernel
theorem d_Shape_clear_0 : decode b_Shape_clear 0 = .ok (.aload_n 0, 1) := by decide +kernel
theorem d_Shape_clear_1 : decode b_Shape_clear 1 = .ok (.iconst 0, 1) := by decide +kernel
theorem d_Shape_clear_2 : decode b_Shape_clear 2 = .ok (.putfield 12, 3) := by decide +kernel
theorem d_Shape_clear_5 : decode b_Shape_clear 5 = .ok (.aload_n 0, 1) := by decide +kernel
theorem d_Shape_clear_6 : decode b_Shape_clear 6 = .ok (.iconst 0, 1) := by decide +kernel
theorem d_Shape_clear_7 : decode b_Shape_clear 7 = .ok (.putfield 16, 3) := by decide +kernel
theorem d_Shape_clear_10 : decode b_Shape_clear 10 = .ok (.aload_n 0, 1) := by decide +kernel
theorem d_Shape_clear_11 : decode b_Shape_clear 11 = .ok (.iconst 0, 1) := by decide +kernel
theorem d_Shape_clear_12 : decode b_Shape_clear 12 = .ok (.putfield 19, 3) := by decide +kernel
theorem d_Shape_clear_15 : decode b_Shape_clear 15 = .ok (.aload_n 0, 1) := by decide +kernel
theorem d_Shape_clear_16 : decode b_Shape_clear 16 = .ok (.iconst 0, 1) := by decide +kernel
theorem d_Shape_clear_17 : decode b_Shape_clear 17 = .ok (.putfield 22, 3) := by decide +kernel
theorem d_Shape_clear_20 : decode b_Shape_clear 20 = .ok (.aload_n 0, 1) := by decide +kernel
theorem d_Shape_clear_21 : decode b_Shape_clear 21 = .ok (.iconst 0, 1) := by decide +kernel
theorem d_Shape_clear_22 : decode b_Shape_clear 22 = .ok (.putfield 25, 3) := by decide +kernel
theorem d_Shape_clear_25 : decode b_Shape_clear 25 = .ok (.aload_n 0, 1) := by decide +kernel
theorem d_Shape_clear_26 : decode b_Shape_clear 26 = .ok (.iconst 0, 1) := by decide +kernel
theorem d_Shape_clear_27 : decode b_Shape_clear 27 = .ok (.putfield 29, 3) := by decide +kernel
theorem d_Shape_clear_30 : decode b_Shape_clear 30 = .ok (.aload_n 0, 1) := by decide +kernel
theorem d_Shape_clear_31 : decode b_Shape_clear 31 = .ok (.iconst 0, 1) := by decide +kernel
theorem d_Shape_clear_32 : decode b_Shape_clear 32 = .ok (.putfield 32, 3) := by decide +kernel
theorem d_Shape_clear_35 : decode b_Shape_clear 35 = .ok (.return_, 1) := by decide +kernel
theorem d_Shape_startGroup_0 : decode b_Shape_startGroup 0 = .ok (.aload_n 0, 1) := by decide +kernel
theorem d_Shape_startGroup_1 : decode b_Shape_startGroup 1 = .ok (.iconst 1, 1) := by decide +kernel
theorem d_Shape_startGroup_2 : decode b_Shape_startGroup 2 = .ok (.putfield 25, 3) := by decide +kernel
theorem d_Shape_startGroup_5 : decode b_Shape_startGroup 5 = .ok (.aload_n 0, 1) := by decide +kernel
theorem d_Shape_startGroup_6 : decode b_Shape_startGroup 6 = .ok (.iconst 0, 1) := by decide +kernel
theorem d_Shape_startGroup_7 : decode b_Shape_startGroup 7 = .ok (.putfield 29, 3) := by decide +kernel
theorem d_Shape_startGroup_10 : decode b_Shape_startGroup 10 = .ok (.return_, 1) := by decide +kernel
theorem d_Shape_takeInteger_0 : decode b_Shape_takeInteger 0 = .ok (.iload_n 1, 1) := by decide +kernel
theorem d_Shape_takeInteger_1 : decode b_Shape_takeInteger 1 = .ok (.bipush 35, 2) := by decide +kernel
theorem d_Shape_takeInteger_3 : decode b_Shape_takeInteger 3 = .ok (.if_icmp .ne 23, 3) := by decide +kernel
theorem d_Shape_takeInteger_6 : decode b_Shape_takeInteger 6 = .ok (.aload_n 0, 1) := by decide +kernel
theorem d_Shape_takeInteger_7 : decode b_Shape_takeInteger 7 = .ok (.getfield 16, 3) := by decide +kernel
theorem d_Shape_takeInteger_10 : decode b_Shape_takeInteger 10 = .ok (.ifCond .ne 16, 3) := by decide +kernel
theorem d_Shape_takeInteger_13 : decode b_Shape_takeInteger 13 = .ok (.aload_n 0, 1) := by decide +kernel
theorem d_Shape_takeInteger_14 : decode b_Shape_takeInteger 14 = .ok (.dup, 1) := by decide +kernel
theorem d_Shape_takeInteger_15 : decode b_Shape_takeInteger 15 = .ok (.getfield 12, 3) := by decide +kernel
theorem d_Shape_takeInteger_18 : decode b_Shape_takeInteger 18 = .ok (.iconst 1, 1) := by decide +kernel
theorem d_Shape_takeInteger_19 : decode b_Shape_takeInteger 19 = .ok (.iadd, 1) := by decide +kernel
theorem d_Shape_takeInteger_20 : decode b_Shape_takeInteger 20 = .ok (.putfield 12, 3) := by decide +kernel
theorem d_Shape_takeInteger_23 : decode b_Shape_takeInteger 23 = .ok (.goto 24, 3) := by decide +kernel
theorem d_Shape_takeInteger_26 : decode b_Shape_takeInteger 26 = .ok (.iload_n 1, 1) := by decide +kernel
theorem d_Shape_takeInteger_27 : decode b_Shape_takeInteger 27 = .ok (.bipush 48, 2) := by decide +kernel
theorem d_Shape_takeInteger_29 : decode b_Shape_takeInteger 29 = .ok (.if_icmp .ne 16, 3) := by decide +kernel
theorem d_Shape_takeInteger_32 : decode b_Shape_takeInteger 32 = .ok (.aload_n 0, 1) := by decide +kernel
theorem d_Shape_takeInteger_33 : decode b_Shape_takeInteger 33 = .ok (.dup, 1) := by decide +kernel
theorem d_Shape_takeInteger_34 : decode b_Shape_takeInteger 34 = .ok (.getfield 16, 3) := by decide +kernel
theorem d_Shape_takeInteger_37 : decode b_Shape_takeInteger 37 = .ok (.iconst 1, 1) := by decide +kernel
theorem d_Shape_takeInteger_38 : decode b_Shape_takeInteger 38 = .ok (.iadd, 1) := by decide +kernel
theorem d_Shape_takeInteger_39 : decode b_Shape_takeInteger 39 = .ok (.putfield 16, 3) := by decide +kernel
theorem d_Shape_takeInteger_42 : decode b_Shape_takeInteger 42 = .ok (.goto 5, 3) := by decide +kernel
theorem d_Shape_takeInteger_45 : decode b_Shape_takeInteger 45 = .ok (.iconst 0, 1) := by decide +kernel
theorem d_Shape_takeInteger_46 : decode b_Shape_takeInteger 46 = .ok (.ireturn, 1) := by decide +kernel
theorem d_Shape_takeInteger_47 : decode b_Shape_takeInteger 47 = .ok (.aload_n 0, 1) := by decide +kernel
theorem d_Shape_takeInteger_48 : decode b_Shape_takeInteger 48 = .ok (.getfield 25, 3) := by decide +kernel
theorem d_Shape_takeInteger_51 : decode b_Shape_takeInteger 51 = .ok (.ifCond .eq 13, 3) := by decide +kernel
theorem d_Shape_takeInteger_54 : decode b_Shape_takeInteger 54 = .ok (.aload_n 0, 1) := by decide +kernel
theorem d_Shape_takeInteger_55 : decode b_Shape_takeInteger 55 = .ok (.dup, 1) := by decide +kernel
theorem d_Shape_takeInteger_56 : decode b_Shape_takeInteger 56 = .ok (.getfield 29, 3) := by decide +kernel
theorem d_Shape_takeInteger_59 : decode b_Shape_takeInteger 59 = .ok (.iconst 1, 1) := by decide +kernel
theorem d_Shape_takeInteger_60 : decode b_Shape_takeInteger 60 = .ok (.iadd, 1) := by decide +kernel
theorem d_Shape_takeInteger_61 : decode b_Shape_takeInteger 61 = .ok (.putfield 29, 3) := by decide +kernel
theorem d_Shape_takeInteger_64 : decode b_Shape_takeInteger 64 = .ok (.iconst 1, 1) := by decide +kernel
theorem d_Shape_takeInteger_65 : decode b_Shape_takeInteger 65 = .ok (.ireturn, 1) := by decide +kernel
theorem d_Shape_takeFraction_0 : decode b_Shape_takeFraction 0 = .ok (.iload_n 1, 1) := by decide +kernel
theorem d_Shape_takeFraction_1 : decode b_Shape_takeFraction 1 = .ok (.bipush 48, 2) := by decide +kernel
theorem d_Shape_takeFraction_3 : decode b_Shape_takeFraction 3 = .ok (.if_icmp .ne 27, 3) := by decide +kernel
theorem d_Shape_takeFraction_6 : decode b_Shape_takeFraction 6 = .ok (.aload_n 0, 1) := by decide +kernel
theorem d_Shape_takeFraction_7 : decode b_Shape_takeFraction 7 = .ok (.getfield 22, 3) := by decide +kernel
theorem d_Shape_takeFraction_10 : decode b_Shape_takeFraction 10 = .ok (.aload_n 0, 1) := by decide +kernel
theorem d_Shape_takeFraction_11 : decode b_Shape_takeFraction 11 = .ok (.getfield 19, 3) := by decide +kernel
theorem d_Shape_takeFraction_14 : decode b_Shape_takeFraction 14 = .ok (.if_icmp .ne 16, 3) := by decide +kernel
theorem d_Shape_takeFraction_17 : decode b_Shape_takeFraction 17 = .ok (.aload_n 0, 1) := by decide +kernel
theorem d_Shape_takeFraction_18 : decode b_Shape_takeFraction 18 = .ok (.dup, 1) := by decide +kernel
theorem d_Shape_takeFraction_19 : decode b_Shape_takeFraction 19 = .ok (.getfield 19, 3) := by decide +kernel
theorem d_Shape_takeFraction_22 : decode b_Shape_takeFraction 22 = .ok (.iconst 1, 1) := by decide +kernel
theorem d_Shape_takeFraction_23 : decode b_Shape_takeFraction 23 = .ok (.iadd, 1) := by decide +kernel
theorem d_Shape_takeFraction_24 : decode b_Shape_takeFraction 24 = .ok (.putfield 19, 3) := by decide +kernel
theorem d_Shape_takeFraction_27 : decode b_Shape_takeFraction 27 = .ok (.goto 11, 3) := by decide +kernel
theorem d_Shape_takeFraction_30 : decode b_Shape_takeFraction 30 = .ok (.iload_n 1, 1) := by decide +kernel
theorem d_Shape_takeFraction_31 : decode b_Shape_takeFraction 31 = .ok (.bipush 35, 2) := by decide +kernel
theorem d_Shape_takeFraction_33 : decode b_Shape_takeFraction 33 = .ok (.if_icmp .eq 5, 3) := by decide +kernel
theorem d_Shape_takeFraction_36 : decode b_Shape_takeFraction 36 = .ok (.iconst 0, 1) := by decide +kernel
theorem d_Shape_takeFraction_37 : decode b_Shape_takeFraction 37 = .ok (.ireturn, 1) := by decide +kernel
theorem d_Shape_takeFraction_38 : decode b_Shape_takeFraction 38 = .ok (.aload_n 0, 1) := by decide +kernel
theorem d_Shape_takeFraction_39 : decode b_Shape_takeFraction 39 = .ok (.dup, 1) := by decide +kernel
theorem d_Shape_takeFraction_40 : decode b_Shape_takeFraction 40 = .ok (.getfield 22, 3) := by decide +kernel
theorem d_Shape_takeFraction_43 : decode b_Shape_takeFraction 43 = .ok (.iconst 1, 1) := by decide +kernel
theorem d_Shape_takeFraction_44 : decode b_Shape_takeFraction 44 = .ok (.iadd, 1) := by decide +kernel
theorem d_Shape_takeFraction_45 : decode b_Shape_takeFraction 45 = .ok (.putfield 22, 3) := by decide +kernel
theorem d_Shape_takeFraction_48 : decode b_Shape_takeFraction 48 = .ok (.iconst 1, 1) := by decide +kernel
theorem d_Shape_takeFraction_49 : decode b_Shape_takeFraction 49 = .ok (.ireturn, 1) := by decide +kernel
theorem d_Shape_allowsExponent_0 : decode b_Shape_allowsExponent 0 = .ok (.aload_n 0, 1) := by decide +kernel
theorem d_Shape_allowsExponent_1 : decode b_Shape_allowsExponent 1 = .ok (.getfield 12, 3) := by decide +kernel
theorem d_Shape_allowsExponent_4 : decode b_Shape_allowsExponent 4 = .ok (.ifCond .ne 14, 3) := by decide +kernel
theorem d_Shape_allowsExponent_7 : decode b_Shape_allowsExponent 7 = .ok (.aload_n 0, 1) := by decide +kernel
theorem d_Shape_allowsExponent_8 : decode b_Shape_allowsExponent 8 = .ok (.getfield 25, 3) := by decide +kernel
theorem d_Shape_allowsExponent_11 : decode b_Shape_allowsExponent 11 = .ok (.ifCond .ne 7, 3) := by decide +kernel
theorem d_Shape_allowsExponent_14 : decode b_Shape_allowsExponent 14 = .ok (.iconst 1, 1) := by decide +kernel
theorem d_Shape_allowsExponent_15 : decode b_Shape_allowsExponent 15 = .ok (.goto 4, 3) := by decide +kernel
theorem d_Shape_allowsExponent_18 : decode b_Shape_allowsExponent 18 = .ok (.iconst 0, 1) := by decide +kernel
theorem d_Shape_allowsExponent_19 : decode b_Shape_allowsExponent 19 = .ok (.ireturn, 1) := by decide +kernel
theorem d_Part_init_0 : decode b_Part_init 0 = .ok (.aload_n 0, 1) := by decide +kernel
theorem d_Part_init_1 : decode b_Part_init 1 = .ok (.invokespecial 1, 3) := by decide +kernel
theorem d_Part_init_4 : decode b_Part_init 4 = .ok (.aload_n 0, 1) := by decide +kernel
theorem d_Part_init_5 : decode b_Part_init 5 = .ok (.new 7, 3) := by decide +kernel
theorem d_Part_init_8 : decode b_Part_init 8 = .ok (.dup, 1) := by decide +kernel
theorem d_Part_init_9 : decode b_Part_init 9 = .ok (.invokespecial 9, 3) := by decide +kernel
theorem d_Part_init_12 : decode b_Part_init 12 = .ok (.putfield 10, 3) := by decide +kernel
theorem d_Part_init_15 : decode b_Part_init 15 = .ok (.aload_n 0, 1) := by decide +kernel
theorem d_Part_init_16 : decode b_Part_init 16 = .ok (.new 16, 3) := by decide +kernel
theorem d_Part_init_19 : decode b_Part_init 19 = .ok (.dup, 1) := by decide +kernel
theorem d_Part_init_20 : decode b_Part_init 20 = .ok (.invokespecial 18, 3) := by decide +kernel
theorem d_Part_init_23 : decode b_Part_init 23 = .ok (.putfield 19, 3) := by decide +kernel
theorem d_Part_init_26 : decode b_Part_init 26 = .ok (.aload_n 0, 1) := by decide +kernel
theorem d_Part_init_27 : decode b_Part_init 27 = .ok (.new 7, 3) := by decide +kernel
theorem d_Part_init_30 : decode b_Part_init 30 = .ok (.dup, 1) := by decide +kernel
theorem d_Part_init_31 : decode b_Part_init 31 = .ok (.invokespecial 9, 3) := by decide +kernel
theorem d_Part_init_34 : decode b_Part_init 34 = .ok (.putfield 23, 3) := by decide +kernel
theorem d_Part_init_37 : decode b_Part_init 37 = .ok (.return_, 1) := by decide +kernel
theorem d_Pattern_init_0 : decode b_Pattern_init 0 = .ok (.aload_n 0, 1) := by decide +kernel
theorem d_Pattern_init_1 : decode b_Pattern_init 1 = .ok (.invokespecial 1, 3) := by decide +kernel
theorem d_Pattern_init_4 : decode b_Pattern_init 4 = .ok (.aload_n 0, 1) := by decide +kernel
theorem d_Pattern_init_5 : decode b_Pattern_init 5 = .ok (.new 7, 3) := by decide +kernel
theorem d_Pattern_init_8 : decode b_Pattern_init 8 = .ok (.dup, 1) := by decide +kernel
theorem d_Pattern_init_9 : decode b_Pattern_init 9 = .ok (.invokespecial 9, 3) := by decide +kernel
theorem d_Pattern_init_12 : decode b_Pattern_init 12 = .ok (.putfield 10, 3) := by decide +kernel
theorem d_Pattern_init_15 : decode b_Pattern_init 15 = .ok (.aload_n 0, 1) := by decide +kernel
theorem d_Pattern_init_16 : decode b_Pattern_init 16 = .ok (.new 7, 3) := by decide +kernel
theorem d_Pattern_init_19 : decode b_Pattern_init 19 = .ok (.dup, 1) := by decide +kernel
theorem d_Pattern_init_20 : decode b_Pattern_init 20 = .ok (.invokespecial 9, 3) := by decide +kernel
theorem d_Pattern_init_23 : decode b_Pattern_init 23 = .ok (.putfield 16, 3) := by decide +kernel
theorem d_Pattern_init_26 : decode b_Pattern_init 26 = .ok (.aload_n 0, 1) := by decide +kernel
theorem d_Pattern_init_27 : decode b_Pattern_init 27 = .ok (.iconst 0, 1) := by decide +kernel
theorem d_Pattern_init_28 : decode b_Pattern_init 28 = .ok (.putfield 19, 3) := by decide +kernel
theorem d_Pattern_init_31 : decode b_Pattern_init 31 = .ok (.aload_n 0, 1) := by decide +kernel
theorem d_Pattern_init_32 : decode b_Pattern_init 32 = .ok (.iconst 0, 1) := by decide +kernel
theorem d_Pattern_init_33 : decode b_Pattern_init 33 = .ok (.putfield 23, 3) := by decide +kernel
theorem d_Pattern_init_36 : decode b_Pattern_init 36 = .ok (.return_, 1) := by decide +kernel
theorem d_Pattern_complete_0 : decode b_Pattern_complete 0 = .ok (.aload_n 0, 1) := by decide +kernel
theorem d_Pattern_complete_1 : decode b_Pattern_complete 1 = .ok (.aload_n 0, 1) := by decide +kernel
theorem d_Pattern_complete_2 : decode b_Pattern_complete 2 = .ok (.getfield 10, 3) := by decide +kernel
theorem d_Pattern_complete_5 : decode b_Pattern_complete 5 = .ok (.getfield 26, 3) := by decide +kernel
theorem d_Pattern_complete_8 : decode b_Pattern_complete 8 = .ok (.invokevirtual 30, 3) := by decide +kernel
theorem d_Pattern_complete_11 : decode b_Pattern_complete 11 = .ok (.ifCond .ne 16, 3) := by decide +kernel
theorem d_Pattern_complete_14 : decode b_Pattern_complete 14 = .ok (.aload_n 0, 1) := by decide +kernel
theorem d_Pattern_complete_15 : decode b_Pattern_complete 15 = .ok (.getfield 10, 3) := by decide +kernel
theorem d_Pattern_complete_18 : decode b_Pattern_complete 18 = .ok (.getfield 35, 3) := by decide +kernel
theorem d_Pattern_complete_21 : decode b_Pattern_complete 21 = .ok (.invokevirtual 30, 3) := by decide +kernel
theorem d_Pattern_complete_24 : decode b_Pattern_complete 24 = .ok (.ifCond .eq 7, 3) := by decide +kernel
theorem d_Pattern_complete_27 : decode b_Pattern_complete 27 = .ok (.iconst 1, 1) := by decide +kernel
theorem d_Pattern_complete_28 : decode b_Pattern_complete 28 = .ok (.goto 4, 3) := by decide +kernel
theorem d_Pattern_complete_31 : decode b_Pattern_complete 31 = .ok (.iconst 0, 1) := by decide +kernel
theorem d_Pattern_complete_32 : decode b_Pattern_complete 32 = .ok (.putfield 23, 3) := by decide +kernel
theorem d_Pattern_complete_35 : decode b_Pattern_complete 35 = .ok (.aload_n 0, 1) := by decide +kernel
theorem d_Pattern_complete_36 : decode b_Pattern_complete 36 = .ok (.getfield 19, 3) := by decide +kernel
theorem d_Pattern_complete_39 : decode b_Pattern_complete 39 = .ok (.ifCond .ne 69, 3) := by decide +kernel
theorem d_Pattern_complete_42 : decode b_Pattern_complete 42 = .ok (.aload_n 0, 1) := by decide +kernel
theorem d_Pattern_complete_43 : decode b_Pattern_complete 43 = .ok (.getfield 16, 3) := by decide +kernel
theorem d_Pattern_complete_46 : decode b_Pattern_complete 46 = .ok (.getfield 26, 3) := by decide +kernel
theorem d_Pattern_complete_49 : decode b_Pattern_complete 49 = .ok (.invokevirtual 38, 3) := by decide +kernel
theorem d_Pattern_complete_52 : decode b_Pattern_complete 52 = .ok (.aload_n 0, 1) := by decide +kernel
theorem d_Pattern_complete_53 : decode b_Pattern_complete 53 = .ok (.getfield 16, 3) := by decide +kernel
theorem d_Pattern_complete_56 : decode b_Pattern_complete 56 = .ok (.getfield 26, 3) := by decide +kernel
theorem d_Pattern_complete_59 : decode b_Pattern_complete 59 = .ok (.bipush 45, 2) := by decide +kernel
theorem d_Pattern_complete_61 : decode b_Pattern_complete 61 = .ok (.invokevirtual 41, 3) := by decide +kernel
theorem d_Pattern_complete_64 : decode b_Pattern_complete 64 = .ok (.aload_n 0, 1) := by decide +kernel
theorem d_Pattern_complete_65 : decode b_Pattern_complete 65 = .ok (.getfield 16, 3) := by decide +kernel
theorem d_Pattern_complete_68 : decode b_Pattern_complete 68 = .ok (.getfield 26, 3) := by decide +kernel
theorem d_Pattern_complete_71 : decode b_Pattern_complete 71 = .ok (.aload_n 0, 1) := by decide +kernel
theorem d_Pattern_complete_72 : decode b_Pattern_complete 72 = .ok (.getfield 10, 3) := by decide +kernel
theorem d_Pattern_complete_75 : decode b_Pattern_complete 75 = .ok (.getfield 26, 3) := by decide +kernel
theorem d_Pattern_complete_78 : decode b_Pattern_complete 78 = .ok (.invokevirtual 45, 3) := by decide +kernel
theorem d_Pattern_complete_81 : decode b_Pattern_complete 81 = .ok (.aload_n 0, 1) := by decide +kernel
theorem d_Pattern_complete_82 : decode b_Pattern_complete 82 = .ok (.getfield 16, 3) := by decide +kernel
theorem d_Pattern_complete_85 : decode b_Pattern_complete 85 = .ok (.getfield 35, 3) := by decide +kernel
theorem d_Pattern_complete_88 : decode b_Pattern_complete 88 = .ok (.invokevirtual 38, 3) := by decide +kernel
theorem d_Pattern_complete_91 : decode b_Pattern_complete 91 = .ok (.aload_n 0, 1) := by decide +kernel
theorem d_Pattern_complete_92 : decode b_Pattern_complete 92 = .ok (.getfield 16, 3) := by decide +kernel
theorem d_Pattern_complete_95 : decode b_Pattern_complete 95 = .ok (.getfield 35, 3) := by decide +kernel
theorem d_Pattern_complete_98 : decode b_Pattern_complete 98 = .ok (.aload_n 0, 1) := by decide +kernel
theorem d_Pattern_complete_99 : decode b_Pattern_complete 99 = .ok (.getfield 10, 3) := by decide +kernel
theorem d_Pattern_complete_102 : decode b_Pattern_complete 102 = .ok (.getfield 35, 3) := by decide +kernel
theorem d_Pattern_complete_105 : decode b_Pattern_complete 105 = .ok (.invokevirtual 45, 3) := by decide +kernel
theorem d_Pattern_complete_108 : decode b_Pattern_complete 108 = .ok (.return_, 1) := by decide +kernel
theorem d_Pattern_secondIsUsual_0 : decode b_Pattern_secondIsUsual 0 = .ok (.aload_n 0, 1) := by decide +kernel
theorem d_Pattern_secondIsUsual_1 : decode b_Pattern_secondIsUsual 1 = .ok (.getfield 16, 3) := by decide +kernel
theorem d_Pattern_secondIsUsual_4 : decode b_Pattern_secondIsUsual 4 = .ok (.getfield 26, 3) := by decide +kernel
theorem d_Pattern_secondIsUsual_7 : decode b_Pattern_secondIsUsual 7 = .ok (.iconst 0, 1) := by decide +kernel
theorem d_Pattern_secondIsUsual_8 : decode b_Pattern_secondIsUsual 8 = .ok (.invokevirtual 49, 3) := by decide +kernel
theorem d_Pattern_secondIsUsual_11 : decode b_Pattern_secondIsUsual 11 = .ok (.bipush 45, 2) := by decide +kernel
theorem d_Pattern_secondIsUsual_13 : decode b_Pattern_secondIsUsual 13 = .ok (.if_icmp .ne 49, 3) := by decide +kernel
theorem d_Pattern_secondIsUsual_16 : decode b_Pattern_secondIsUsual 16 = .ok (.aload_n 0, 1) := by decide +kernel
theorem d_Pattern_secondIsUsual_17 : decode b_Pattern_secondIsUsual 17 = .ok (.getfield 16, 3) := by decide +kernel
theorem d_Pattern_secondIsUsual_20 : decode b_Pattern_secondIsUsual 20 = .ok (.getfield 26, 3) := by decide +kernel
theorem d_Pattern_secondIsUsual_23 : decode b_Pattern_secondIsUsual 23 = .ok (.aload_n 0, 1) := by decide +kernel
theorem d_Pattern_secondIsUsual_24 : decode b_Pattern_secondIsUsual 24 = .ok (.getfield 10, 3) := by decide +kernel
theorem d_Pattern_secondIsUsual_27 : decode b_Pattern_secondIsUsual 27 = .ok (.getfield 26, 3) := by decide +kernel
theorem d_Pattern_secondIsUsual_30 : decode b_Pattern_secondIsUsual 30 = .ok (.iconst 1, 1) := by decide +kernel
theorem d_Pattern_secondIsUsual_31 : decode b_Pattern_secondIsUsual 31 = .ok (.invokevirtual 53, 3) := by decide +kernel
theorem d_Pattern_secondIsUsual_34 : decode b_Pattern_secondIsUsual 34 = .ok (.ifCond .eq 28, 3) := by decide +kernel
theorem d_Pattern_secondIsUsual_37 : decode b_Pattern_secondIsUsual 37 = .ok (.aload_n 0, 1) := by decide +kernel
theorem d_Pattern_secondIsUsual_38 : decode b_Pattern_secondIsUsual 38 = .ok (.getfield 16, 3) := by decide +kernel
theorem d_Pattern_secondIsUsual_41 : decode b_Pattern_secondIsUsual 41 = .ok (.getfield 35, 3) := by decide +kernel
theorem d_Pattern_secondIsUsual_44 : decode b_Pattern_secondIsUsual 44 = .ok (.aload_n 0, 1) := by decide +kernel
theorem d_Pattern_secondIsUsual_45 : decode b_Pattern_secondIsUsual 45 = .ok (.getfield 10, 3) := by decide +kernel
theorem d_Pattern_secondIsUsual_48 : decode b_Pattern_secondIsUsual 48 = .ok (.getfield 35, 3) := by decide +kernel
theorem d_Pattern_secondIsUsual_51 : decode b_Pattern_secondIsUsual 51 = .ok (.iconst 0, 1) := by decide +kernel
theorem d_Pattern_secondIsUsual_52 : decode b_Pattern_secondIsUsual 52 = .ok (.invokevirtual 53, 3) := by decide +kernel
theorem d_Pattern_secondIsUsual_55 : decode b_Pattern_secondIsUsual 55 = .ok (.ifCond .eq 7, 3) := by decide +kernel
theorem d_Pattern_secondIsUsual_58 : decode b_Pattern_secondIsUsual 58 = .ok (.iconst 1, 1) := by decide +kernel
theorem d_Pattern_secondIsUsual_59 : decode b_Pattern_secondIsUsual 59 = .ok (.goto 4, 3) := by decide +kernel
theorem d_Pattern_secondIsUsual_62 : decode b_Pattern_secondIsUsual 62 = .ok (.iconst 0, 1) := by decide +kernel
theorem d_Pattern_secondIsUsual_63 : decode b_Pattern_secondIsUsual 63 = .ok (.ireturn, 1) := by decide +kernel
theorem d_PatternReader_init_0 : decode b_PatternReader_init 0 = .ok (.aload_n 0, 1) := by decide +kernel
theorem d_PatternReader_init_1 : decode b_PatternReader_init 1 = .ok (.invokespecial 3, 3) := by decide +kernel
theorem d_PatternReader_init_4 : decode b_PatternReader_init 4 = .ok (.aload_n 0, 1) := by decide +kernel
theorem d_PatternReader_init_5 : decode b_PatternReader_init 5 = .ok (.iconst 0, 1) := by decide +kernel
theorem d_PatternReader_init_6 : decode b_PatternReader_init 6 = .ok (.putfield 9, 3) := by decide +kernel
theorem d_PatternReader_init_9 : decode b_PatternReader_init 9 = .ok (.return_, 1) := by decide +kernel
theorem d_PatternReader_read_0 : decode b_PatternReader_read 0 = .ok (.aload_n 0, 1) := by decide +kernel
theorem d_PatternReader_read_1 : decode b_PatternReader_read 1 = .ok (.iconst 0, 1) := by decide +kernel
theorem d_PatternReader_read_2 : decode b_PatternReader_read 2 = .ok (.putfield 9, 3) := by decide +kernel
theorem d_PatternReader_read_5 : decode b_PatternReader_read 5 = .ok (.aload_n 2, 1) := by decide +kernel
theorem d_PatternReader_read_6 : decode b_PatternReader_read 6 = .ok (.iconst 0, 1) := by decide +kernel
theorem d_PatternReader_read_7 : decode b_PatternReader_read 7 = .ok (.putfield 15, 3) := by decide +kernel
theorem d_PatternReader_read_10 : decode b_PatternReader_read 10 = .ok (.aload_n 0, 1) := by decide +kernel
theorem d_PatternReader_read_11 : decode b_PatternReader_read 11 = .ok (.aload_n 1, 1) := by decide +kernel
theorem d_PatternReader_read_12 : decode b_PatternReader_read 12 = .ok (.aload_n 2, 1) := by decide +kernel
theorem d_PatternReader_read_13 : decode b_PatternReader_read 13 = .ok (.getfield 21, 3) := by decide +kernel
theorem d_PatternReader_read_16 : decode b_PatternReader_read 16 = .ok (.invokevirtual 25, 3) := by decide +kernel
theorem d_PatternReader_read_19 : decode b_PatternReader_read 19 = .ok (.ifCond .ne 8, 3) := by decide +kernel
theorem d_PatternReader_read_22 : decode b_PatternReader_read 22 = .ok (.aload_n 0, 1) := by decide +kernel
theorem d_PatternReader_read_23 : decode b_PatternReader_read 23 = .ok (.getfield 9, 3) := by decide +kernel
theorem d_PatternReader_read_26 : decode b_PatternReader_read 26 = .ok (.ireturn, 1) := by decide +kernel
theorem d_PatternReader_read_27 : decode b_PatternReader_read 27 = .ok (.aload_n 1, 1) := by decide +kernel
theorem d_PatternReader_read_28 : decode b_PatternReader_read 28 = .ok (.aload_n 0, 1) := by decide +kernel
theorem d_PatternReader_read_29 : decode b_PatternReader_read 29 = .ok (.getfield 9, 3) := by decide +kernel
theorem d_PatternReader_read_32 : decode b_PatternReader_read 32 = .ok (.invokevirtual 29, 3) := by decide +kernel
theorem d_PatternReader_read_35 : decode b_PatternReader_read 35 = .ok (.bipush 59, 2) := by decide +kernel
theorem d_PatternReader_read_37 : decode b_PatternReader_read 37 = .ok (.if_icmp .ne 35, 3) := by decide +kernel
theorem d_PatternReader_read_40 : decode b_PatternReader_read 40 = .ok (.aload_n 0, 1) := by decide +kernel
theorem d_PatternReader_read_41 : decode b_PatternReader_read 41 = .ok (.dup, 1) := by decide +kernel
theorem d_PatternReader_read_42 : decode b_PatternReader_read 42 = .ok (.getfield 9, 3) := by decide +kernel
theorem d_PatternReader_read_45 : decode b_PatternReader_read 45 = .ok (.iconst 1, 1) := by decide +kernel
theorem d_PatternReader_read_46 : decode b_PatternReader_read 46 = .ok (.iadd, 1) := by decide +kernel
theorem d_PatternReader_read_47 : decode b_PatternReader_read 47 = .ok (.putfield 9, 3) := by decide +kernel
theorem d_PatternReader_read_50 : decode b_PatternReader_read 50 = .ok (.aload_n 2, 1) := by decide +kernel
theorem d_PatternReader_read_51 : decode b_PatternReader_read 51 = .ok (.iconst 1, 1) := by decide +kernel
theorem d_PatternReader_read_52 : decode b_PatternReader_read 52 = .ok (.putfield 15, 3) := by decide +kernel
theorem d_PatternReader_read_55 : decode b_PatternReader_read 55 = .ok (.aload_n 0, 1) := by decide +kernel
theorem d_PatternReader_read_56 : decode b_PatternReader_read 56 = .ok (.aload_n 1, 1) := by decide +kernel
theorem d_PatternReader_read_57 : decode b_PatternReader_read 57 = .ok (.aload_n 2, 1) := by decide +kernel
theorem d_PatternReader_read_58 : decode b_PatternReader_read 58 = .ok (.getfield 35, 3) := by decide +kernel
theorem d_PatternReader_read_61 : decode b_PatternReader_read 61 = .ok (.invokevirtual 25, 3) := by decide +kernel
theorem d_PatternReader_read_64 : decode b_PatternReader_read 64 = .ok (.ifCond .ne 8, 3) := by decide +kernel
theorem d_PatternReader_read_67 : decode b_PatternReader_read 67 = .ok (.aload_n 0, 1) := by decide +kernel
theorem d_PatternReader_read_68 : decode b_PatternReader_read 68 = .ok (.getfield 9, 3) := by decide +kernel
theorem d_PatternReader_read_71 : decode b_PatternReader_read 71 = .ok (.ireturn, 1) := by decide +kernel
theorem d_PatternReader_read_72 : decode b_PatternReader_read 72 = .ok (.aload_n 0, 1) := by decide +kernel
theorem d_PatternReader_read_73 : decode b_PatternReader_read 73 = .ok (.getfield 9, 3) := by decide +kernel
theorem d_PatternReader_read_76 : decode b_PatternReader_read 76 = .ok (.aload_n 1, 1) := by decide +kernel
theorem d_PatternReader_read_77 : decode b_PatternReader_read 77 = .ok (.invokevirtual 38, 3) := by decide +kernel
theorem d_PatternReader_read_80 : decode b_PatternReader_read 80 = .ok (.if_icmp .ge 10, 3) := by decide +kernel
theorem d_PatternReader_read_83 : decode b_PatternReader_read 83 = .ok (.aload_n 0, 1) := by decide +kernel
theorem d_PatternReader_read_84 : decode b_PatternReader_read 84 = .ok (.getfield 9, 3) := by decide +kernel
theorem d_PatternReader_read_87 : decode b_PatternReader_read 87 = .ok (.goto 4, 3) := by decide +kernel
theorem d_PatternReader_read_90 : decode b_PatternReader_read 90 = .ok (.iconst (-1), 1) := by decide +kernel
theorem d_PatternReader_read_91 : decode b_PatternReader_read 91 = .ok (.ireturn, 1) := by decide +kernel
theorem d_PatternReader_readPart_0 : decode b_PatternReader_readPart 0 = .ok (.aload_n 0, 1) := by decide +kernel
theorem d_PatternReader_readPart_1 : decode b_PatternReader_readPart 1 = .ok (.aload_n 1, 1) := by decide +kernel
theorem d_PatternReader_readPart_2 : decode b_PatternReader_readPart 2 = .ok (.aload_n 2, 1) := by decide +kernel
theorem d_PatternReader_readPart_3 : decode b_PatternReader_readPart 3 = .ok (.getfield 42, 3) := by decide +kernel
theorem d_PatternReader_readPart_6 : decode b_PatternReader_readPart 6 = .ok (.invokevirtual 48, 3) := by decide +kernel
theorem d_PatternReader_readPart_9 : decode b_PatternReader_readPart 9 = .ok (.ifCond .eq 31, 3) := by decide +kernel
theorem d_PatternReader_readPart_12 : decode b_PatternReader_readPart 12 = .ok (.aload_n 0, 1) := by decide +kernel
theorem d_PatternReader_readPart_13 : decode b_PatternReader_readPart 13 = .ok (.aload_n 1, 1) := by decide +kernel
theorem d_PatternReader_readPart_14 : decode b_PatternReader_readPart 14 = .ok (.aload_n 2, 1) := by decide +kernel
theorem d_PatternReader_readPart_15 : decode b_PatternReader_readPart 15 = .ok (.getfield 52, 3) := by decide +kernel
theorem d_PatternReader_readPart_18 : decode b_PatternReader_readPart 18 = .ok (.invokevirtual 56, 3) := by decide +kernel
theorem d_PatternReader_readPart_21 : decode b_PatternReader_readPart 21 = .ok (.ifCond .eq 19, 3) := by decide +kernel
theorem d_PatternReader_readPart_24 : decode b_PatternReader_readPart 24 = .ok (.aload_n 0, 1) := by decide +kernel
theorem d_PatternReader_readPart_25 : decode b_PatternReader_readPart 25 = .ok (.aload_n 1, 1) := by decide +kernel
theorem d_PatternReader_readPart_26 : decode b_PatternReader_readPart 26 = .ok (.aload_n 2, 1) := by decide +kernel
theorem d_PatternReader_readPart_27 : decode b_PatternReader_readPart 27 = .ok (.getfield 60, 3) := by decide +kernel
theorem d_PatternReader_readPart_30 : decode b_PatternReader_readPart 30 = .ok (.invokevirtual 48, 3) := by decide +kernel
theorem d_PatternReader_readPart_33 : decode b_PatternReader_readPart 33 = .ok (.ifCond .eq 7, 3) := by decide +kernel
theorem d_PatternReader_readPart_36 : decode b_PatternReader_readPart 36 = .ok (.iconst 1, 1) := by decide +kernel
theorem d_PatternReader_readPart_37 : decode b_PatternReader_readPart 37 = .ok (.goto 4, 3) := by decide +kernel
theorem d_PatternReader_readPart_40 : decode b_PatternReader_readPart 40 = .ok (.iconst 0, 1) := by decide +kernel
theorem d_PatternReader_readPart_41 : decode b_PatternReader_readPart 41 = .ok (.ireturn, 1) := by decide +kernel
theorem d_PatternReader_readAffix_0 : decode b_PatternReader_readAffix 0 = .ok (.aload_n 2, 1) := by decide +kernel
theorem d_PatternReader_readAffix_1 : decode b_PatternReader_readAffix 1 = .ok (.invokevirtual 63, 3) := by decide +kernel
theorem d_PatternReader_readAffix_4 : decode b_PatternReader_readAffix 4 = .ok (.iconst 0, 1) := by decide +kernel
theorem d_PatternReader_readAffix_5 : decode b_PatternReader_readAffix 5 = .ok (.istore_n 3, 1) := by decide +kernel
theorem d_PatternReader_readAffix_6 : decode b_PatternReader_readAffix 6 = .ok (.aload_n 1, 1) := by decide +kernel
theorem d_PatternReader_readAffix_7 : decode b_PatternReader_readAffix 7 = .ok (.invokevirtual 38, 3) := by decide +kernel
theorem d_PatternReader_readAffix_10 : decode b_PatternReader_readAffix 10 = .ok (.istore 4, 2) := by decide +kernel
theorem d_PatternReader_readAffix_12 : decode b_PatternReader_readAffix 12 = .ok (.aload_n 0, 1) := by decide +kernel
theorem d_PatternReader_readAffix_13 : decode b_PatternReader_readAffix 13 = .ok (.getfield 9, 3) := by decide +kernel
theorem d_PatternReader_readAffix_16 : decode b_PatternReader_readAffix 16 = .ok (.iload 4, 2) := by decide +kernel
theorem d_PatternReader_readAffix_18 : decode b_PatternReader_readAffix 18 = .ok (.if_icmp .ge 122, 3) := by decide +kernel
theorem d_PatternReader_readAffix_21 : decode b_PatternReader_readAffix 21 = .ok (.aload_n 1, 1) := by decide +kernel
theorem d_PatternReader_readAffix_22 : decode b_PatternReader_readAffix 22 = .ok (.aload_n 0, 1) := by decide +kernel
theorem d_PatternReader_readAffix_23 : decode b_PatternReader_readAffix 23 = .ok (.getfield 9, 3) := by decide +kernel
theorem d_PatternReader_readAffix_26 : decode b_PatternReader_readAffix 26 = .ok (.invokevirtual 29, 3) := by decide +kernel
theorem d_PatternReader_readAffix_29 : decode b_PatternReader_readAffix 29 = .ok (.istore 5, 2) := by decide +kernel
theorem d_PatternReader_readAffix_31 : decode b_PatternReader_readAffix 31 = .ok (.iload 5, 2) := by decide +kernel
theorem d_PatternReader_readAffix_33 : decode b_PatternReader_readAffix 33 = .ok (.bipush 39, 2) := by decide +kernel
theorem d_PatternReader_readAffix_35 : decode b_PatternReader_readAffix 35 = .ok (.if_icmp .ne 50, 3) := by decide +kernel
theorem d_PatternReader_readAffix_38 : decode b_PatternReader_readAffix 38 = .ok (.aload_n 1, 1) := by decide +kernel
theorem d_PatternReader_readAffix_39 : decode b_PatternReader_readAffix 39 = .ok (.aload_n 0, 1) := by decide +kernel
theorem d_PatternReader_readAffix_40 : decode b_PatternReader_readAffix 40 = .ok (.getfield 9, 3) := by decide +kernel
theorem d_PatternReader_readAffix_43 : decode b_PatternReader_readAffix 43 = .ok (.iconst 1, 1) := by decide +kernel
theorem d_PatternReader_readAffix_44 : decode b_PatternReader_readAffix 44 = .ok (.iadd, 1) := by decide +kernel
theorem d_PatternReader_readAffix_45 : decode b_PatternReader_readAffix 45 = .ok (.invokevirtual 29, 3) := by decide +kernel
theorem d_PatternReader_readAffix_48 : decode b_PatternReader_readAffix 48 = .ok (.bipush 39, 2) := by decide +kernel
theorem d_PatternReader_readAffix_50 : decode b_PatternReader_readAffix 50 = .ok (.if_icmp .ne 22, 3) := by decide +kernel
theorem d_PatternReader_readAffix_53 : decode b_PatternReader_readAffix 53 = .ok (.aload_n 2, 1) := by decide +kernel
theorem d_PatternReader_readAffix_54 : decode b_PatternReader_readAffix 54 = .ok (.bipush 39, 2) := by decide +kernel
theorem d_PatternReader_readAffix_56 : decode b_PatternReader_readAffix 56 = .ok (.invokevirtual 68, 3) := by decide +kernel
theorem d_PatternReader_readAffix_59 : decode b_PatternReader_readAffix 59 = .ok (.aload_n 0, 1) := by decide +kernel
theorem d_PatternReader_readAffix_60 : decode b_PatternReader_readAffix 60 = .ok (.dup, 1) := by decide +kernel
theorem d_PatternReader_readAffix_61 : decode b_PatternReader_readAffix 61 = .ok (.getfield 9, 3) := by decide +kernel
theorem d_PatternReader_readAffix_64 : decode b_PatternReader_readAffix 64 = .ok (.iconst 1, 1) := by decide +kernel
theorem d_PatternReader_readAffix_65 : decode b_PatternReader_readAffix 65 = .ok (.iadd, 1) := by decide +kernel
theorem d_PatternReader_readAffix_66 : decode b_PatternReader_readAffix 66 = .ok (.putfield 9, 3) := by decide +kernel
theorem d_PatternReader_readAffix_69 : decode b_PatternReader_readAffix 69 = .ok (.goto 58, 3) := by decide +kernel
theorem d_PatternReader_readAffix_72 : decode b_PatternReader_readAffix 72 = .ok (.iload_n 3, 1) := by decide +kernel
theorem d_PatternReader_readAffix_73 : decode b_PatternReader_readAffix 73 = .ok (.ifCond .ne 7, 3) := by decide +kernel
theorem d_PatternReader_readAffix_76 : decode b_PatternReader_readAffix 76 = .ok (.iconst 1, 1) := by decide +kernel
theorem d_PatternReader_readAffix_77 : decode b_PatternReader_readAffix 77 = .ok (.goto 4, 3) := by decide +kernel
theorem d_PatternReader_readAffix_80 : decode b_PatternReader_readAffix 80 = .ok (.iconst 0, 1) := by decide +kernel
theorem d_PatternReader_readAffix_81 : decode b_PatternReader_readAffix 81 = .ok (.istore_n 3, 1) := by decide +kernel
theorem d_PatternReader_readAffix_82 : decode b_PatternReader_readAffix 82 = .ok (.goto 45, 3) := by decide +kernel
theorem d_PatternReader_readAffix_85 : decode b_PatternReader_readAffix 85 = .ok (.iload_n 3, 1) := by decide +kernel
theorem d_PatternReader_readAffix_86 : decode b_PatternReader_readAffix 86 = .ok (.ifCond .eq 12, 3) := by decide +kernel
theorem d_PatternReader_readAffix_89 : decode b_PatternReader_readAffix 89 = .ok (.aload_n 2, 1) := by decide +kernel
theorem d_PatternReader_readAffix_90 : decode b_PatternReader_readAffix 90 = .ok (.iload 5, 2) := by decide +kernel
theorem d_PatternReader_readAffix_92 : decode b_PatternReader_readAffix 92 = .ok (.invokevirtual 68, 3) := by decide +kernel
theorem d_PatternReader_readAffix_95 : decode b_PatternReader_readAffix 95 = .ok (.goto 32, 3) := by decide +kernel
theorem d_PatternReader_readAffix_98 : decode b_PatternReader_readAffix 98 = .ok (.iload 5, 2) := by decide +kernel
theorem d_PatternReader_readAffix_100 : decode b_PatternReader_readAffix 100 = .ok (.invokestatic 72, 3) := by decide +kernel
theorem d_PatternReader_readAffix_103 : decode b_PatternReader_readAffix 103 = .ok (.ifCond .eq 5, 3) := by decide +kernel
theorem d_PatternReader_readAffix_106 : decode b_PatternReader_readAffix 106 = .ok (.iconst 1, 1) := by decide +kernel
theorem d_PatternReader_readAffix_107 : decode b_PatternReader_readAffix 107 = .ok (.ireturn, 1) := by decide +kernel
theorem d_PatternReader_readAffix_108 : decode b_PatternReader_readAffix 108 = .ok (.aload_n 2, 1) := by decide +kernel
theorem d_PatternReader_readAffix_109 : decode b_PatternReader_readAffix 109 = .ok (.iload 5, 2) := by decide +kernel
theorem d_PatternReader_readAffix_111 : decode b_PatternReader_readAffix 111 = .ok (.bipush 37, 2) := by decide +kernel
theorem d_PatternReader_readAffix_113 : decode b_PatternReader_readAffix 113 = .ok (.if_icmp .ne 9, 3) := by decide +kernel
theorem d_PatternReader_readAffix_116 : decode b_PatternReader_readAffix 116 = .ok (.sipush 256, 3) := by decide +kernel
theorem d_PatternReader_readAffix_119 : decode b_PatternReader_readAffix 119 = .ok (.goto 5, 3) := by decide +kernel
theorem d_PatternReader_readAffix_122 : decode b_PatternReader_readAffix 122 = .ok (.iload 5, 2) := by decide +kernel
theorem d_PatternReader_readAffix_124 : decode b_PatternReader_readAffix 124 = .ok (.invokevirtual 68, 3) := by decide +kernel
theorem d_PatternReader_readAffix_127 : decode b_PatternReader_readAffix 127 = .ok (.aload_n 0, 1) := by decide +kernel
theorem d_PatternReader_readAffix_128 : decode b_PatternReader_readAffix 128 = .ok (.dup, 1) := by decide +kernel
theorem d_PatternReader_readAffix_129 : decode b_PatternReader_readAffix 129 = .ok (.getfield 9, 3) := by decide +kernel
theorem d_PatternReader_readAffix_132 : decode b_PatternReader_readAffix 132 = .ok (.iconst 1, 1) := by decide +kernel
theorem d_PatternReader_readAffix_133 : decode b_PatternReader_readAffix 133 = .ok (.iadd, 1) := by decide +kernel
theorem d_PatternReader_readAffix_134 : decode b_PatternReader_readAffix 134 = .ok (.putfield 9, 3) := by decide +kernel
theorem d_PatternReader_readAffix_137 : decode b_PatternReader_readAffix 137 = .ok (.goto (-125), 3) := by decide +kernel
theorem d_PatternReader_readAffix_140 : decode b_PatternReader_readAffix 140 = .ok (.iload_n 3, 1) := by decide +kernel
theorem d_PatternReader_readAffix_141 : decode b_PatternReader_readAffix 141 = .ok (.ifCond .ne 7, 3) := by decide +kernel
theorem d_PatternReader_readAffix_144 : decode b_PatternReader_readAffix 144 = .ok (.iconst 1, 1) := by decide +kernel
theorem d_PatternReader_readAffix_145 : decode b_PatternReader_readAffix 145 = .ok (.goto 4, 3) := by decide +kernel
theorem d_PatternReader_readAffix_148 : decode b_PatternReader_readAffix 148 = .ok (.iconst 0, 1) := by decide +kernel
theorem d_PatternReader_readAffix_149 : decode b_PatternReader_readAffix 149 = .ok (.ireturn, 1) := by decide +kernel
theorem d_PatternReader_readNumber_0 : decode b_PatternReader_readNumber 0 = .ok (.aload_n 2, 1) := by decide +kernel
theorem d_PatternReader_readNumber_1 : decode b_PatternReader_readNumber 1 = .ok (.invokevirtual 76, 3) := by decide +kernel
theorem d_PatternReader_readNumber_4 : decode b_PatternReader_readNumber 4 = .ok (.aload_n 0, 1) := by decide +kernel
theorem d_PatternReader_readNumber_5 : decode b_PatternReader_readNumber 5 = .ok (.aload_n 1, 1) := by decide +kernel
theorem d_PatternReader_readNumber_6 : decode b_PatternReader_readNumber 6 = .ok (.aload_n 2, 1) := by decide +kernel
theorem d_PatternReader_readNumber_7 : decode b_PatternReader_readNumber 7 = .ok (.invokevirtual 79, 3) := by decide +kernel
theorem d_PatternReader_readNumber_10 : decode b_PatternReader_readNumber 10 = .ok (.ifCond .ne 5, 3) := by decide +kernel
theorem d_PatternReader_readNumber_13 : decode b_PatternReader_readNumber 13 = .ok (.iconst 0, 1) := by decide +kernel
theorem d_PatternReader_readNumber_14 : decode b_PatternReader_readNumber 14 = .ok (.ireturn, 1) := by decide +kernel
theorem d_PatternReader_readNumber_15 : decode b_PatternReader_readNumber 15 = .ok (.aload_n 1, 1) := by decide +kernel
theorem d_PatternReader_readNumber_16 : decode b_PatternReader_readNumber 16 = .ok (.aload_n 0, 1) := by decide +kernel
theorem d_PatternReader_readNumber_17 : decode b_PatternReader_readNumber 17 = .ok (.getfield 9, 3) := by decide +kernel
theorem d_PatternReader_readNumber_20 : decode b_PatternReader_readNumber 20 = .ok (.invokevirtual 29, 3) := by decide +kernel
theorem d_PatternReader_readNumber_23 : decode b_PatternReader_readNumber 23 = .ok (.bipush 46, 2) := by decide +kernel
theorem d_PatternReader_readNumber_25 : decode b_PatternReader_readNumber 25 = .ok (.if_icmp .ne 19, 3) := by decide +kernel
theorem d_PatternReader_readNumber_28 : decode b_PatternReader_readNumber 28 = .ok (.aload_n 0, 1) := by decide +kernel
theorem d_PatternReader_readNumber_29 : decode b_PatternReader_readNumber 29 = .ok (.dup, 1) := by decide +kernel
theorem d_PatternReader_readNumber_30 : decode b_PatternReader_readNumber 30 = .ok (.getfield 9, 3) := by decide +kernel
theorem d_PatternReader_readNumber_33 : decode b_PatternReader_readNumber 33 = .ok (.iconst 1, 1) := by decide +kernel
theorem d_PatternReader_readNumber_34 : decode b_PatternReader_readNumber 34 = .ok (.iadd, 1) := by decide +kernel
theorem d_PatternReader_readNumber_35 : decode b_PatternReader_readNumber 35 = .ok (.putfield 9, 3) := by decide +kernel
theorem d_PatternReader_readNumber_38 : decode b_PatternReader_readNumber 38 = .ok (.aload_n 0, 1) := by decide +kernel
theorem d_PatternReader_readNumber_39 : decode b_PatternReader_readNumber 39 = .ok (.aload_n 1, 1) := by decide +kernel
theorem d_PatternReader_readNumber_40 : decode b_PatternReader_readNumber 40 = .ok (.aload_n 2, 1) := by decide +kernel
theorem d_PatternReader_readNumber_41 : decode b_PatternReader_readNumber 41 = .ok (.invokevirtual 82, 3) := by decide +kernel
theorem d_PatternReader_readNumber_44 : decode b_PatternReader_readNumber 44 = .ok (.aload_n 1, 1) := by decide +kernel
theorem d_PatternReader_readNumber_45 : decode b_PatternReader_readNumber 45 = .ok (.aload_n 0, 1) := by decide +kernel
theorem d_PatternReader_readNumber_46 : decode b_PatternReader_readNumber 46 = .ok (.getfield 9, 3) := by decide +kernel
theorem d_PatternReader_readNumber_49 : decode b_PatternReader_readNumber 49 = .ok (.invokevirtual 29, 3) := by decide +kernel
theorem d_PatternReader_readNumber_52 : decode b_PatternReader_readNumber 52 = .ok (.bipush 69, 2) := by decide +kernel
theorem d_PatternReader_readNumber_54 : decode b_PatternReader_readNumber 54 = .ok (.if_icmp .ne 27, 3) := by decide +kernel
theorem d_PatternReader_readNumber_57 : decode b_PatternReader_readNumber 57 = .ok (.aload_n 2, 1) := by decide +kernel
theorem d_PatternReader_readNumber_58 : decode b_PatternReader_readNumber 58 = .ok (.invokevirtual 86, 3) := by decide +kernel
theorem d_PatternReader_readNumber_61 : decode b_PatternReader_readNumber 61 = .ok (.ifCond .eq 20, 3) := by decide +kernel
theorem d_PatternReader_readNumber_64 : decode b_PatternReader_readNumber 64 = .ok (.aload_n 0, 1) := by decide +kernel
theorem d_PatternReader_readNumber_65 : decode b_PatternReader_readNumber 65 = .ok (.dup, 1) := by decide +kernel
theorem d_PatternReader_readNumber_66 : decode b_PatternReader_readNumber 66 = .ok (.getfield 9, 3) := by decide +kernel
theorem d_PatternReader_readNumber_69 : decode b_PatternReader_readNumber 69 = .ok (.iconst 1, 1) := by decide +kernel
theorem d_PatternReader_readNumber_70 : decode b_PatternReader_readNumber 70 = .ok (.iadd, 1) := by decide +kernel
theorem d_PatternReader_readNumber_71 : decode b_PatternReader_readNumber 71 = .ok (.putfield 9, 3) := by decide +kernel
theorem d_PatternReader_readNumber_74 : decode b_PatternReader_readNumber 74 = .ok (.aload_n 0, 1) := by decide +kernel
theorem d_PatternReader_readNumber_75 : decode b_PatternReader_readNumber 75 = .ok (.aload_n 1, 1) := by decide +kernel
theorem d_PatternReader_readNumber_76 : decode b_PatternReader_readNumber 76 = .ok (.aload_n 2, 1) := by decide +kernel
theorem d_PatternReader_readNumber_77 : decode b_PatternReader_readNumber 77 = .ok (.invokevirtual 90, 3) := by decide +kernel
theorem d_PatternReader_readNumber_80 : decode b_PatternReader_readNumber 80 = .ok (.ireturn, 1) := by decide +kernel
theorem d_PatternReader_readNumber_81 : decode b_PatternReader_readNumber 81 = .ok (.iconst 1, 1) := by decide +kernel
theorem d_PatternReader_readNumber_82 : decode b_PatternReader_readNumber 82 = .ok (.ireturn, 1) := by decide +kernel
theorem d_PatternReader_readInteger_0 : decode b_PatternReader_readInteger 0 = .ok (.iconst 0, 1) := by decide +kernel
theorem d_PatternReader_readInteger_1 : decode b_PatternReader_readInteger 1 = .ok (.istore_n 3, 1) := by decide +kernel
theorem d_PatternReader_readInteger_2 : decode b_PatternReader_readInteger 2 = .ok (.iload_n 3, 1) := by decide +kernel
theorem d_PatternReader_readInteger_3 : decode b_PatternReader_readInteger 3 = .ok (.bipush 12, 2) := by decide +kernel
theorem d_PatternReader_readInteger_5 : decode b_PatternReader_readInteger 5 = .ok (.if_icmp .ge 92, 3) := by decide +kernel
theorem d_PatternReader_readInteger_8 : decode b_PatternReader_readInteger 8 = .ok (.iload_n 3, 1) := by decide +kernel
theorem d_PatternReader_readInteger_9 : decode b_PatternReader_readInteger 9 = .ok (.ifCond .le 20, 3) := by decide +kernel
theorem d_PatternReader_readInteger_12 : decode b_PatternReader_readInteger 12 = .ok (.aload_n 1, 1) := by decide +kernel
theorem d_PatternReader_readInteger_13 : decode b_PatternReader_readInteger 13 = .ok (.aload_n 0, 1) := by decide +kernel
theorem d_PatternReader_readInteger_14 : decode b_PatternReader_readInteger 14 = .ok (.getfield 9, 3) := by decide +kernel
theorem d_PatternReader_readInteger_17 : decode b_PatternReader_readInteger 17 = .ok (.invokevirtual 29, 3) := by decide +kernel
theorem d_PatternReader_readInteger_20 : decode b_PatternReader_readInteger 20 = .ok (.bipush 44, 2) := by decide +kernel
theorem d_PatternReader_readInteger_22 : decode b_PatternReader_readInteger 22 = .ok (.if_icmp .ne 7, 3) := by decide +kernel
theorem d_PatternReader_readInteger_25 : decode b_PatternReader_readInteger 25 = .ok (.iconst 1, 1) := by decide +kernel
theorem d_PatternReader_readInteger_26 : decode b_PatternReader_readInteger 26 = .ok (.goto 4, 3) := by decide +kernel
theorem d_PatternReader_readInteger_29 : decode b_PatternReader_readInteger 29 = .ok (.iconst 0, 1) := by decide +kernel
theorem d_PatternReader_readInteger_30 : decode b_PatternReader_readInteger 30 = .ok (.istore 4, 2) := by decide +kernel
theorem d_PatternReader_readInteger_32 : decode b_PatternReader_readInteger 32 = .ok (.iload 4, 2) := by decide +kernel
theorem d_PatternReader_readInteger_34 : decode b_PatternReader_readInteger 34 = .ok (.ifCond .eq 17, 3) := by decide +kernel
theorem d_PatternReader_readInteger_37 : decode b_PatternReader_readInteger 37 = .ok (.aload_n 0, 1) := by decide +kernel
theorem d_PatternReader_readInteger_38 : decode b_PatternReader_readInteger 38 = .ok (.dup, 1) := by decide +kernel
theorem d_PatternReader_readInteger_39 : decode b_PatternReader_readInteger 39 = .ok (.getfield 9, 3) := by decide +kernel
theorem d_PatternReader_readInteger_42 : decode b_PatternReader_readInteger 42 = .ok (.iconst 1, 1) := by decide +kernel
theorem d_PatternReader_readInteger_43 : decode b_PatternReader_readInteger 43 = .ok (.iadd, 1) := by decide +kernel
theorem d_PatternReader_readInteger_44 : decode b_PatternReader_readInteger 44 = .ok (.putfield 9, 3) := by decide +kernel
theorem d_PatternReader_readInteger_47 : decode b_PatternReader_readInteger 47 = .ok (.aload_n 2, 1) := by decide +kernel
theorem d_PatternReader_readInteger_48 : decode b_PatternReader_readInteger 48 = .ok (.invokevirtual 93, 3) := by decide +kernel
theorem d_PatternReader_readInteger_51 : decode b_PatternReader_readInteger 51 = .ok (.aload_n 2, 1) := by decide +kernel
theorem d_PatternReader_readInteger_52 : decode b_PatternReader_readInteger 52 = .ok (.aload_n 1, 1) := by decide +kernel
theorem d_PatternReader_readInteger_53 : decode b_PatternReader_readInteger 53 = .ok (.aload_n 0, 1) := by decide +kernel
theorem d_PatternReader_readInteger_54 : decode b_PatternReader_readInteger 54 = .ok (.getfield 9, 3) := by decide +kernel
theorem d_PatternReader_readInteger_57 : decode b_PatternReader_readInteger 57 = .ok (.invokevirtual 29, 3) := by decide +kernel
theorem d_PatternReader_readInteger_60 : decode b_PatternReader_readInteger 60 = .ok (.invokevirtual 96, 3) := by decide +kernel
theorem d_PatternReader_readInteger_63 : decode b_PatternReader_readInteger 63 = .ok (.ifCond .ne 18, 3) := by decide +kernel
theorem d_PatternReader_readInteger_66 : decode b_PatternReader_readInteger 66 = .ok (.iload_n 3, 1) := by decide +kernel
theorem d_PatternReader_readInteger_67 : decode b_PatternReader_readInteger 67 = .ok (.ifCond .le 12, 3) := by decide +kernel
theorem d_PatternReader_readInteger_70 : decode b_PatternReader_readInteger 70 = .ok (.iload 4, 2) := by decide +kernel
theorem d_PatternReader_readInteger_72 : decode b_PatternReader_readInteger 72 = .ok (.ifCond .ne 7, 3) := by decide +kernel
theorem d_PatternReader_readInteger_75 : decode b_PatternReader_readInteger 75 = .ok (.iconst 1, 1) := by decide +kernel
theorem d_PatternReader_readInteger_76 : decode b_PatternReader_readInteger 76 = .ok (.goto 4, 3) := by decide +kernel
theorem d_PatternReader_readInteger_79 : decode b_PatternReader_readInteger 79 = .ok (.iconst 0, 1) := by decide +kernel
theorem d_PatternReader_readInteger_80 : decode b_PatternReader_readInteger 80 = .ok (.ireturn, 1) := by decide +kernel
theorem d_PatternReader_readInteger_81 : decode b_PatternReader_readInteger 81 = .ok (.aload_n 0, 1) := by decide +kernel
theorem d_PatternReader_readInteger_82 : decode b_PatternReader_readInteger 82 = .ok (.dup, 1) := by decide +kernel
theorem d_PatternReader_readInteger_83 : decode b_PatternReader_readInteger 83 = .ok (.getfield 9, 3) := by decide +kernel
theorem d_PatternReader_readInteger_86 : decode b_PatternReader_readInteger 86 = .ok (.iconst 1, 1) := by decide +kernel
theorem d_PatternReader_readInteger_87 : decode b_PatternReader_readInteger 87 = .ok (.iadd, 1) := by decide +kernel
theorem d_PatternReader_readInteger_88 : decode b_PatternReader_readInteger 88 = .ok (.putfield 9, 3) := by decide +kernel
theorem d_PatternReader_readInteger_91 : decode b_PatternReader_readInteger 91 = .ok (.iinc 3 1, 3) := by decide +kernel
theorem d_PatternReader_readInteger_94 : decode b_PatternReader_readInteger 94 = .ok (.goto (-92), 3) := by decide +kernel
theorem d_PatternReader_readInteger_97 : decode b_PatternReader_readInteger 97 = .ok (.iconst 1, 1) := by decide +kernel
theorem d_PatternReader_readInteger_98 : decode b_PatternReader_readInteger 98 = .ok (.ireturn, 1) := by decide +kernel
theorem d_PatternReader_readFraction_0 : decode b_PatternReader_readFraction 0 = .ok (.iconst 0, 1) := by decide +kernel
theorem d_PatternReader_readFraction_1 : decode b_PatternReader_readFraction 1 = .ok (.istore_n 3, 1) := by decide +kernel
theorem d_PatternReader_readFraction_2 : decode b_PatternReader_readFraction 2 = .ok (.iload_n 3, 1) := by decide +kernel
theorem d_PatternReader_readFraction_3 : decode b_PatternReader_readFraction 3 = .ok (.bipush 9, 2) := by decide +kernel
theorem d_PatternReader_readFraction_5 : decode b_PatternReader_readFraction 5 = .ok (.if_icmp .ge 35, 3) := by decide +kernel
theorem d_PatternReader_readFraction_8 : decode b_PatternReader_readFraction 8 = .ok (.aload_n 2, 1) := by decide +kernel
theorem d_PatternReader_readFraction_9 : decode b_PatternReader_readFraction 9 = .ok (.aload_n 1, 1) := by decide +kernel
theorem d_PatternReader_readFraction_10 : decode b_PatternReader_readFraction 10 = .ok (.aload_n 0, 1) := by decide +kernel
theorem d_PatternReader_readFraction_11 : decode b_PatternReader_readFraction 11 = .ok (.getfield 9, 3) := by decide +kernel
theorem d_PatternReader_readFraction_14 : decode b_PatternReader_readFraction 14 = .ok (.invokevirtual 29, 3) := by decide +kernel
theorem d_PatternReader_readFraction_17 : decode b_PatternReader_readFraction 17 = .ok (.invokevirtual 99, 3) := by decide +kernel
theorem d_PatternReader_readFraction_20 : decode b_PatternReader_readFraction 20 = .ok (.ifCond .ne 4, 3) := by decide +kernel
theorem d_PatternReader_readFraction_23 : decode b_PatternReader_readFraction 23 = .ok (.return_, 1) := by decide +kernel
theorem d_PatternReader_readFraction_24 : decode b_PatternReader_readFraction 24 = .ok (.aload_n 0, 1) := by decide +kernel
theorem d_PatternReader_readFraction_25 : decode b_PatternReader_readFraction 25 = .ok (.dup, 1) := by decide +kernel
theorem d_PatternReader_readFraction_26 : decode b_PatternReader_readFraction 26 = .ok (.getfield 9, 3) := by decide +kernel
theorem d_PatternReader_readFraction_29 : decode b_PatternReader_readFraction 29 = .ok (.iconst 1, 1) := by decide +kernel
theorem d_PatternReader_readFraction_30 : decode b_PatternReader_readFraction 30 = .ok (.iadd, 1) := by decide +kernel
theorem d_PatternReader_readFraction_31 : decode b_PatternReader_readFraction 31 = .ok (.putfield 9, 3) := by decide +kernel
theorem d_PatternReader_readFraction_34 : decode b_PatternReader_readFraction 34 = .ok (.iinc 3 1, 3) := by decide +kernel
theorem d_PatternReader_readFraction_37 : decode b_PatternReader_readFraction 37 = .ok (.goto (-35), 3) := by decide +kernel
theorem d_PatternReader_readFraction_40 : decode b_PatternReader_readFraction 40 = .ok (.return_, 1) := by decide +kernel
