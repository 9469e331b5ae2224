theorem dX0_init_0 : decode cX0_init 0 = .ok (.aload_n 0, 1) := by decide +kernel
theorem dX0_init_1 : decode cX0_init 1 = .ok (.invokespecial 3, 3) := by decide +kernel
theorem dX0_init_4 : decode cX0_init 4 = .ok (.aload_n 0, 1) := by decide +kernel
theorem dX0_init_5 : decode cX0_init 5 = .ok (.bipush 80, 2) := by decide +kernel
theorem dX0_init_7 : decode cX0_init 7 = .ok (.newarray .int, 2) := by decide +kernel
theorem dX0_init_9 : decode cX0_init 9 = .ok (.putfield 11, 3) := by decide +kernel
theorem dX0_init_12 : decode cX0_init 12 = .ok (.aload_n 0, 1) := by decide +kernel
theorem dX0_init_13 : decode cX0_init 13 = .ok (.bipush 80, 2) := by decide +kernel
theorem dX0_init_15 : decode cX0_init 15 = .ok (.newarray .boolean, 2) := by decide +kernel
theorem dX0_init_17 : decode cX0_init 17 = .ok (.putfield 15, 3) := by decide +kernel
theorem dX0_init_20 : decode cX0_init 20 = .ok (.aload_n 0, 1) := by decide +kernel
theorem dX0_init_21 : decode cX0_init 21 = .ok (.iconst 2, 1) := by decide +kernel
theorem dX0_init_22 : decode cX0_init 22 = .ok (.putfield 19, 3) := by decide +kernel
theorem dX0_init_25 : decode cX0_init 25 = .ok (.aload_n 0, 1) := by decide +kernel
theorem dX0_init_26 : decode cX0_init 26 = .ok (.bipush 81, 2) := by decide +kernel
theorem dX0_init_28 : decode cX0_init 28 = .ok (.newarray .int, 2) := by decide +kernel
theorem dX0_init_30 : decode cX0_init 30 = .ok (.putfield 23, 3) := by decide +kernel
theorem dX0_init_33 : decode cX0_init 33 = .ok (.aload_n 0, 1) := by decide +kernel
theorem dX0_init_34 : decode cX0_init 34 = .ok (.bipush 14, 2) := by decide +kernel
theorem dX0_init_36 : decode cX0_init 36 = .ok (.newarray .int, 2) := by decide +kernel
theorem dX0_init_38 : decode cX0_init 38 = .ok (.putfield 28, 3) := by decide +kernel
theorem dX0_init_41 : decode cX0_init 41 = .ok (.aload_n 0, 1) := by decide +kernel
theorem dX0_init_42 : decode cX0_init 42 = .ok (.bipush 14, 2) := by decide +kernel
theorem dX0_init_44 : decode cX0_init 44 = .ok (.newarray .int, 2) := by decide +kernel
theorem dX0_init_46 : decode cX0_init 46 = .ok (.putfield 31, 3) := by decide +kernel
theorem dX0_init_49 : decode cX0_init 49 = .ok (.aload_n 0, 1) := by decide +kernel
theorem dX0_init_50 : decode cX0_init 50 = .ok (.iconst (-1), 1) := by decide +kernel
theorem dX0_init_51 : decode cX0_init 51 = .ok (.putfield 34, 3) := by decide +kernel
theorem dX0_init_54 : decode cX0_init 54 = .ok (.aload_n 0, 1) := by decide +kernel
theorem dX0_init_55 : decode cX0_init 55 = .ok (.aload_n 1, 1) := by decide +kernel
theorem dX0_init_56 : decode cX0_init 56 = .ok (.putfield 37, 3) := by decide +kernel
theorem dX0_init_59 : decode cX0_init 59 = .ok (.aload_n 0, 1) := by decide +kernel
theorem dX0_init_60 : decode cX0_init 60 = .ok (.getfield 11, 3) := by decide +kernel
theorem dX0_init_63 : decode cX0_init 63 = .ok (.bipush 8, 2) := by decide +kernel
theorem dX0_init_65 : decode cX0_init 65 = .ok (.invokestatic 41, 3) := by decide +kernel
theorem dX0_init_68 : decode cX0_init 68 = .ok (.return_, 1) := by decide +kernel
theorem dX0_forget_0 : decode cX0_forget 0 = .ok (.aload_n 0, 1) := by decide +kernel
theorem dX0_forget_1 : decode cX0_forget 1 = .ok (.iconst (-1), 1) := by decide +kernel
theorem dX0_forget_2 : decode cX0_forget 2 = .ok (.putfield 34, 3) := by decide +kernel
theorem dX0_forget_5 : decode cX0_forget 5 = .ok (.return_, 1) := by decide +kernel
theorem dX0_setLight_0 : decode cX0_setLight 0 = .ok (.iload_n 1, 1) := by decide +kernel
theorem dX0_setLight_1 : decode cX0_setLight 1 = .ok (.istore 4, 2) := by decide +kernel
theorem dX0_setLight_3 : decode cX0_setLight 3 = .ok (.iload 4, 2) := by decide +kernel
theorem dX0_setLight_5 : decode cX0_setLight 5 = .ok (.iload_n 2, 1) := by decide +kernel
theorem dX0_setLight_6 : decode cX0_setLight 6 = .ok (.if_icmp .gt 24, 3) := by decide +kernel
theorem dX0_setLight_9 : decode cX0_setLight 9 = .ok (.iload 4, 2) := by decide +kernel
theorem dX0_setLight_11 : decode cX0_setLight 11 = .ok (.bipush 80, 2) := by decide +kernel
theorem dX0_setLight_13 : decode cX0_setLight 13 = .ok (.if_icmp .ge 17, 3) := by decide +kernel
theorem dX0_setLight_16 : decode cX0_setLight 16 = .ok (.aload_n 0, 1) := by decide +kernel
theorem dX0_setLight_17 : decode cX0_setLight 17 = .ok (.getfield 11, 3) := by decide +kernel
theorem dX0_setLight_20 : decode cX0_setLight 20 = .ok (.iload 4, 2) := by decide +kernel
theorem dX0_setLight_22 : decode cX0_setLight 22 = .ok (.iload_n 3, 1) := by decide +kernel
theorem dX0_setLight_23 : decode cX0_setLight 23 = .ok (.iastore, 1) := by decide +kernel
theorem dX0_setLight_24 : decode cX0_setLight 24 = .ok (.iinc 4 1, 3) := by decide +kernel
theorem dX0_setLight_27 : decode cX0_setLight 27 = .ok (.goto (-24), 3) := by decide +kernel
theorem dX0_setLight_30 : decode cX0_setLight 30 = .ok (.return_, 1) := by decide +kernel
theorem dX0_frostDays_0 : decode cX0_frostDays 0 = .ok (.iconst 0, 1) := by decide +kernel
theorem dX0_frostDays_1 : decode cX0_frostDays 1 = .ok (.istore_n 1, 1) := by decide +kernel
theorem dX0_frostDays_2 : decode cX0_frostDays 2 = .ok (.iconst 0, 1) := by decide +kernel
theorem dX0_frostDays_3 : decode cX0_frostDays 3 = .ok (.istore_n 2, 1) := by decide +kernel
theorem dX0_frostDays_4 : decode cX0_frostDays 4 = .ok (.iload_n 2, 1) := by decide +kernel
theorem dX0_frostDays_5 : decode cX0_frostDays 5 = .ok (.bipush 80, 2) := by decide +kernel
theorem dX0_frostDays_7 : decode cX0_frostDays 7 = .ok (.if_icmp .ge 26, 3) := by decide +kernel
theorem dX0_frostDays_10 : decode cX0_frostDays 10 = .ok (.iload_n 1, 1) := by decide +kernel
theorem dX0_frostDays_11 : decode cX0_frostDays 11 = .ok (.aload_n 0, 1) := by decide +kernel
theorem dX0_frostDays_12 : decode cX0_frostDays 12 = .ok (.getfield 15, 3) := by decide +kernel
theorem dX0_frostDays_15 : decode cX0_frostDays 15 = .ok (.iload_n 2, 1) := by decide +kernel
theorem dX0_frostDays_16 : decode cX0_frostDays 16 = .ok (.baload, 1) := by decide +kernel
theorem dX0_frostDays_17 : decode cX0_frostDays 17 = .ok (.ifCond .eq 7, 3) := by decide +kernel
theorem dX0_frostDays_20 : decode cX0_frostDays 20 = .ok (.iconst 1, 1) := by decide +kernel
theorem dX0_frostDays_21 : decode cX0_frostDays 21 = .ok (.goto 4, 3) := by decide +kernel
theorem dX0_frostDays_24 : decode cX0_frostDays 24 = .ok (.iconst 0, 1) := by decide +kernel
theorem dX0_frostDays_25 : decode cX0_frostDays 25 = .ok (.iadd, 1) := by decide +kernel
theorem dX0_frostDays_26 : decode cX0_frostDays 26 = .ok (.istore_n 1, 1) := by decide +kernel
theorem dX0_frostDays_27 : decode cX0_frostDays 27 = .ok (.iinc 2 1, 3) := by decide +kernel
theorem dX0_frostDays_30 : decode cX0_frostDays 30 = .ok (.goto (-26), 3) := by decide +kernel
theorem dX0_frostDays_33 : decode cX0_frostDays 33 = .ok (.iload_n 1, 1) := by decide +kernel
theorem dX0_frostDays_34 : decode cX0_frostDays 34 = .ok (.ireturn, 1) := by decide +kernel
theorem dX0_worstDay_0 : decode cX0_worstDay 0 = .ok (.aload_n 0, 1) := by decide +kernel
theorem dX0_worstDay_1 : decode cX0_worstDay 1 = .ok (.getfield 47, 3) := by decide +kernel
theorem dX0_worstDay_4 : decode cX0_worstDay 4 = .ok (.iconst (-1), 1) := by decide +kernel
theorem dX0_worstDay_5 : decode cX0_worstDay 5 = .ok (.if_icmp .eq 11, 3) := by decide +kernel
theorem dX0_worstDay_8 : decode cX0_worstDay 8 = .ok (.iload_n 1, 1) := by decide +kernel
theorem dX0_worstDay_9 : decode cX0_worstDay 9 = .ok (.aload_n 0, 1) := by decide +kernel
theorem dX0_worstDay_10 : decode cX0_worstDay 10 = .ok (.getfield 34, 3) := by decide +kernel
theorem dX0_worstDay_13 : decode cX0_worstDay 13 = .ok (.if_icmp .lt 5, 3) := by decide +kernel
theorem dX0_worstDay_16 : decode cX0_worstDay 16 = .ok (.iconst (-1), 1) := by decide +kernel
theorem dX0_worstDay_17 : decode cX0_worstDay 17 = .ok (.ireturn, 1) := by decide +kernel
theorem dX0_worstDay_18 : decode cX0_worstDay 18 = .ok (.iload_n 1, 1) := by decide +kernel
theorem dX0_worstDay_19 : decode cX0_worstDay 19 = .ok (.ifCond .ne 10, 3) := by decide +kernel
theorem dX0_worstDay_22 : decode cX0_worstDay 22 = .ok (.aload_n 0, 1) := by decide +kernel
theorem dX0_worstDay_23 : decode cX0_worstDay 23 = .ok (.getfield 50, 3) := by decide +kernel
theorem dX0_worstDay_26 : decode cX0_worstDay 26 = .ok (.goto 7, 3) := by decide +kernel
theorem dX0_worstDay_29 : decode cX0_worstDay 29 = .ok (.aload_n 0, 1) := by decide +kernel
theorem dX0_worstDay_30 : decode cX0_worstDay 30 = .ok (.getfield 53, 3) := by decide +kernel
theorem dX0_worstDay_33 : decode cX0_worstDay 33 = .ok (.ireturn, 1) := by decide +kernel
theorem dX0_endWith_0 : decode cX0_endWith 0 = .ok (.aload_n 0, 1) := by decide +kernel
theorem dX0_endWith_1 : decode cX0_endWith 1 = .ok (.iload_n 1, 1) := by decide +kernel
theorem dX0_endWith_2 : decode cX0_endWith 2 = .ok (.iload_n 2, 1) := by decide +kernel
theorem dX0_endWith_3 : decode cX0_endWith 3 = .ok (.invokevirtual 56, 3) := by decide +kernel
theorem dX0_endWith_6 : decode cX0_endWith 6 = .ok (.iconst 0, 1) := by decide +kernel
theorem dX0_endWith_7 : decode cX0_endWith 7 = .ok (.istore_n 3, 1) := by decide +kernel
theorem dX0_endWith_8 : decode cX0_endWith 8 = .ok (.aload_n 0, 1) := by decide +kernel
theorem dX0_endWith_9 : decode cX0_endWith 9 = .ok (.iconst 0, 1) := by decide +kernel
theorem dX0_endWith_10 : decode cX0_endWith 10 = .ok (.invokevirtual 60, 3) := by decide +kernel
theorem dX0_endWith_13 : decode cX0_endWith 13 = .ok (.istore 4, 2) := by decide +kernel
theorem dX0_endWith_15 : decode cX0_endWith 15 = .ok (.iconst 0, 1) := by decide +kernel
theorem dX0_endWith_16 : decode cX0_endWith 16 = .ok (.istore 5, 2) := by decide +kernel
theorem dX0_endWith_18 : decode cX0_endWith 18 = .ok (.iload 5, 2) := by decide +kernel
theorem dX0_endWith_20 : decode cX0_endWith 20 = .ok (.aload_n 0, 1) := by decide +kernel
theorem dX0_endWith_21 : decode cX0_endWith 21 = .ok (.getfield 37, 3) := by decide +kernel
theorem dX0_endWith_24 : decode cX0_endWith 24 = .ok (.getfield 64, 3) := by decide +kernel
theorem dX0_endWith_27 : decode cX0_endWith 27 = .ok (.if_icmp .ge 108, 3) := by decide +kernel
theorem dX0_endWith_30 : decode cX0_endWith 30 = .ok (.aload_n 0, 1) := by decide +kernel
theorem dX0_endWith_31 : decode cX0_endWith 31 = .ok (.getfield 28, 3) := by decide +kernel
theorem dX0_endWith_34 : decode cX0_endWith 34 = .ok (.iload 5, 2) := by decide +kernel
theorem dX0_endWith_36 : decode cX0_endWith 36 = .ok (.iaload, 1) := by decide +kernel
theorem dX0_endWith_37 : decode cX0_endWith 37 = .ok (.istore 6, 2) := by decide +kernel
theorem dX0_endWith_39 : decode cX0_endWith 39 = .ok (.aload_n 0, 1) := by decide +kernel
theorem dX0_endWith_40 : decode cX0_endWith 40 = .ok (.getfield 37, 3) := by decide +kernel
theorem dX0_endWith_43 : decode cX0_endWith 43 = .ok (.getfield 67, 3) := by decide +kernel
theorem dX0_endWith_46 : decode cX0_endWith 46 = .ok (.iload 6, 2) := by decide +kernel
theorem dX0_endWith_48 : decode cX0_endWith 48 = .ok (.iaload, 1) := by decide +kernel
theorem dX0_endWith_49 : decode cX0_endWith 49 = .ok (.istore 7, 2) := by decide +kernel
theorem dX0_endWith_51 : decode cX0_endWith 51 = .ok (.aload_n 0, 1) := by decide +kernel
theorem dX0_endWith_52 : decode cX0_endWith 52 = .ok (.iload 6, 2) := by decide +kernel
theorem dX0_endWith_54 : decode cX0_endWith 54 = .ok (.invokevirtual 70, 3) := by decide +kernel
theorem dX0_endWith_57 : decode cX0_endWith 57 = .ok (.istore 8, 2) := by decide +kernel
theorem dX0_endWith_59 : decode cX0_endWith 59 = .ok (.iload_n 3, 1) := by decide +kernel
theorem dX0_endWith_60 : decode cX0_endWith 60 = .ok (.bipush 80, 2) := by decide +kernel
theorem dX0_endWith_62 : decode cX0_endWith 62 = .ok (.if_icmp .ge 37, 3) := by decide +kernel
theorem dX0_endWith_65 : decode cX0_endWith 65 = .ok (.iload 4, 2) := by decide +kernel
theorem dX0_endWith_67 : decode cX0_endWith 67 = .ok (.iload 7, 2) := by decide +kernel
theorem dX0_endWith_69 : decode cX0_endWith 69 = .ok (.if_icmp .lt 17, 3) := by decide +kernel
theorem dX0_endWith_72 : decode cX0_endWith 72 = .ok (.aload_n 0, 1) := by decide +kernel
theorem dX0_endWith_73 : decode cX0_endWith 73 = .ok (.iload 8, 2) := by decide +kernel
theorem dX0_endWith_75 : decode cX0_endWith 75 = .ok (.iload_n 3, 1) := by decide +kernel
theorem dX0_endWith_76 : decode cX0_endWith 76 = .ok (.invokevirtual 73, 3) := by decide +kernel
theorem dX0_endWith_79 : decode cX0_endWith 79 = .ok (.aload_n 0, 1) := by decide +kernel
theorem dX0_endWith_80 : decode cX0_endWith 80 = .ok (.getfield 19, 3) := by decide +kernel
theorem dX0_endWith_83 : decode cX0_endWith 83 = .ok (.if_icmp .ge 16, 3) := by decide +kernel
theorem dX0_endWith_86 : decode cX0_endWith 86 = .ok (.iinc 3 1, 3) := by decide +kernel
theorem dX0_endWith_89 : decode cX0_endWith 89 = .ok (.aload_n 0, 1) := by decide +kernel
theorem dX0_endWith_90 : decode cX0_endWith 90 = .ok (.iload_n 3, 1) := by decide +kernel
theorem dX0_endWith_91 : decode cX0_endWith 91 = .ok (.invokevirtual 60, 3) := by decide +kernel
theorem dX0_endWith_94 : decode cX0_endWith 94 = .ok (.istore 4, 2) := by decide +kernel
theorem dX0_endWith_96 : decode cX0_endWith 96 = .ok (.goto (-37), 3) := by decide +kernel
theorem dX0_endWith_99 : decode cX0_endWith 99 = .ok (.iload_n 3, 1) := by decide +kernel
theorem dX0_endWith_100 : decode cX0_endWith 100 = .ok (.bipush 80, 2) := by decide +kernel
theorem dX0_endWith_102 : decode cX0_endWith 102 = .ok (.if_icmp .lt 12, 3) := by decide +kernel
theorem dX0_endWith_105 : decode cX0_endWith 105 = .ok (.aload_n 0, 1) := by decide +kernel
theorem dX0_endWith_106 : decode cX0_endWith 106 = .ok (.iload 5, 2) := by decide +kernel
theorem dX0_endWith_108 : decode cX0_endWith 108 = .ok (.invokevirtual 77, 3) := by decide +kernel
theorem dX0_endWith_111 : decode cX0_endWith 111 = .ok (.bipush 80, 2) := by decide +kernel
theorem dX0_endWith_113 : decode cX0_endWith 113 = .ok (.ireturn, 1) := by decide +kernel
theorem dX0_endWith_114 : decode cX0_endWith 114 = .ok (.aload_n 0, 1) := by decide +kernel
theorem dX0_endWith_115 : decode cX0_endWith 115 = .ok (.getfield 31, 3) := by decide +kernel
theorem dX0_endWith_118 : decode cX0_endWith 118 = .ok (.iload 6, 2) := by decide +kernel
theorem dX0_endWith_120 : decode cX0_endWith 120 = .ok (.iload_n 3, 1) := by decide +kernel
theorem dX0_endWith_121 : decode cX0_endWith 121 = .ok (.iastore, 1) := by decide +kernel
theorem dX0_endWith_122 : decode cX0_endWith 122 = .ok (.iload 4, 2) := by decide +kernel
theorem dX0_endWith_124 : decode cX0_endWith 124 = .ok (.iload 7, 2) := by decide +kernel
theorem dX0_endWith_126 : decode cX0_endWith 126 = .ok (.isub, 1) := by decide +kernel
theorem dX0_endWith_127 : decode cX0_endWith 127 = .ok (.istore 4, 2) := by decide +kernel
theorem dX0_endWith_129 : decode cX0_endWith 129 = .ok (.iinc 5 1, 3) := by decide +kernel
theorem dX0_endWith_132 : decode cX0_endWith 132 = .ok (.goto (-114), 3) := by decide +kernel
theorem dX0_endWith_135 : decode cX0_endWith 135 = .ok (.iload_n 3, 1) := by decide +kernel
theorem dX0_endWith_136 : decode cX0_endWith 136 = .ok (.ireturn, 1) := by decide +kernel
theorem dX0_countThawed_0 : decode cX0_countThawed 0 = .ok (.iconst 0, 1) := by decide +kernel
theorem dX0_countThawed_1 : decode cX0_countThawed 1 = .ok (.istore_n 3, 1) := by decide +kernel
theorem dX0_countThawed_2 : decode cX0_countThawed 2 = .ok (.iload_n 3, 1) := by decide +kernel
theorem dX0_countThawed_3 : decode cX0_countThawed 3 = .ok (.bipush 80, 2) := by decide +kernel
theorem dX0_countThawed_5 : decode cX0_countThawed 5 = .ok (.if_icmp .ge 60, 3) := by decide +kernel
theorem dX0_countThawed_8 : decode cX0_countThawed 8 = .ok (.aload_n 0, 1) := by decide +kernel
theorem dX0_countThawed_9 : decode cX0_countThawed 9 = .ok (.getfield 15, 3) := by decide +kernel
theorem dX0_countThawed_12 : decode cX0_countThawed 12 = .ok (.iload_n 3, 1) := by decide +kernel
theorem dX0_countThawed_13 : decode cX0_countThawed 13 = .ok (.baload, 1) := by decide +kernel
theorem dX0_countThawed_14 : decode cX0_countThawed 14 = .ok (.ifCond .ne 13, 3) := by decide +kernel
theorem dX0_countThawed_17 : decode cX0_countThawed 17 = .ok (.iload_n 3, 1) := by decide +kernel
theorem dX0_countThawed_18 : decode cX0_countThawed 18 = .ok (.iload_n 1, 1) := by decide +kernel
theorem dX0_countThawed_19 : decode cX0_countThawed 19 = .ok (.if_icmp .eq 8, 3) := by decide +kernel
theorem dX0_countThawed_22 : decode cX0_countThawed 22 = .ok (.iload_n 3, 1) := by decide +kernel
theorem dX0_countThawed_23 : decode cX0_countThawed 23 = .ok (.iload_n 2, 1) := by decide +kernel
theorem dX0_countThawed_24 : decode cX0_countThawed 24 = .ok (.if_icmp .ne 7, 3) := by decide +kernel
theorem dX0_countThawed_27 : decode cX0_countThawed 27 = .ok (.iconst 1, 1) := by decide +kernel
theorem dX0_countThawed_28 : decode cX0_countThawed 28 = .ok (.goto 4, 3) := by decide +kernel
theorem dX0_countThawed_31 : decode cX0_countThawed 31 = .ok (.iconst 0, 1) := by decide +kernel
theorem dX0_countThawed_32 : decode cX0_countThawed 32 = .ok (.istore 4, 2) := by decide +kernel
theorem dX0_countThawed_34 : decode cX0_countThawed 34 = .ok (.aload_n 0, 1) := by decide +kernel
theorem dX0_countThawed_35 : decode cX0_countThawed 35 = .ok (.getfield 23, 3) := by decide +kernel
theorem dX0_countThawed_38 : decode cX0_countThawed 38 = .ok (.iload_n 3, 1) := by decide +kernel
theorem dX0_countThawed_39 : decode cX0_countThawed 39 = .ok (.iconst 1, 1) := by decide +kernel
theorem dX0_countThawed_40 : decode cX0_countThawed 40 = .ok (.iadd, 1) := by decide +kernel
theorem dX0_countThawed_41 : decode cX0_countThawed 41 = .ok (.aload_n 0, 1) := by decide +kernel
theorem dX0_countThawed_42 : decode cX0_countThawed 42 = .ok (.getfield 23, 3) := by decide +kernel
theorem dX0_countThawed_45 : decode cX0_countThawed 45 = .ok (.iload_n 3, 1) := by decide +kernel
theorem dX0_countThawed_46 : decode cX0_countThawed 46 = .ok (.iaload, 1) := by decide +kernel
theorem dX0_countThawed_47 : decode cX0_countThawed 47 = .ok (.iload 4, 2) := by decide +kernel
theorem dX0_countThawed_49 : decode cX0_countThawed 49 = .ok (.ifCond .eq 7, 3) := by decide +kernel
theorem dX0_countThawed_52 : decode cX0_countThawed 52 = .ok (.iconst 0, 1) := by decide +kernel
theorem dX0_countThawed_53 : decode cX0_countThawed 53 = .ok (.goto 4, 3) := by decide +kernel
theorem dX0_countThawed_56 : decode cX0_countThawed 56 = .ok (.iconst 1, 1) := by decide +kernel
theorem dX0_countThawed_57 : decode cX0_countThawed 57 = .ok (.iadd, 1) := by decide +kernel
theorem dX0_countThawed_58 : decode cX0_countThawed 58 = .ok (.iastore, 1) := by decide +kernel
theorem dX0_countThawed_59 : decode cX0_countThawed 59 = .ok (.iinc 3 1, 3) := by decide +kernel
theorem dX0_countThawed_62 : decode cX0_countThawed 62 = .ok (.goto (-60), 3) := by decide +kernel
theorem dX0_countThawed_65 : decode cX0_countThawed 65 = .ok (.return_, 1) := by decide +kernel
theorem dX0_workOn_0 : decode cX0_workOn 0 = .ok (.iload_n 1, 1) := by decide +kernel
theorem dX0_workOn_1 : decode cX0_workOn 1 = .ok (.bipush 80, 2) := by decide +kernel
theorem dX0_workOn_3 : decode cX0_workOn 3 = .ok (.if_icmp .ge 29, 3) := by decide +kernel
theorem dX0_workOn_6 : decode cX0_workOn 6 = .ok (.aload_n 0, 1) := by decide +kernel
theorem dX0_workOn_7 : decode cX0_workOn 7 = .ok (.getfield 23, 3) := by decide +kernel
theorem dX0_workOn_10 : decode cX0_workOn 10 = .ok (.iload_n 1, 1) := by decide +kernel
theorem dX0_workOn_11 : decode cX0_workOn 11 = .ok (.iconst 1, 1) := by decide +kernel
theorem dX0_workOn_12 : decode cX0_workOn 12 = .ok (.iadd, 1) := by decide +kernel
theorem dX0_workOn_13 : decode cX0_workOn 13 = .ok (.iaload, 1) := by decide +kernel
theorem dX0_workOn_14 : decode cX0_workOn 14 = .ok (.aload_n 0, 1) := by decide +kernel
theorem dX0_workOn_15 : decode cX0_workOn 15 = .ok (.getfield 23, 3) := by decide +kernel
theorem dX0_workOn_18 : decode cX0_workOn 18 = .ok (.iload_n 1, 1) := by decide +kernel
theorem dX0_workOn_19 : decode cX0_workOn 19 = .ok (.iaload, 1) := by decide +kernel
theorem dX0_workOn_20 : decode cX0_workOn 20 = .ok (.if_icmp .le 12, 3) := by decide +kernel
theorem dX0_workOn_23 : decode cX0_workOn 23 = .ok (.aload_n 0, 1) := by decide +kernel
theorem dX0_workOn_24 : decode cX0_workOn 24 = .ok (.getfield 11, 3) := by decide +kernel
theorem dX0_workOn_27 : decode cX0_workOn 27 = .ok (.iload_n 1, 1) := by decide +kernel
theorem dX0_workOn_28 : decode cX0_workOn 28 = .ok (.iaload, 1) := by decide +kernel
theorem dX0_workOn_29 : decode cX0_workOn 29 = .ok (.goto 4, 3) := by decide +kernel
theorem dX0_workOn_32 : decode cX0_workOn 32 = .ok (.iconst 0, 1) := by decide +kernel
theorem dX0_workOn_33 : decode cX0_workOn 33 = .ok (.ireturn, 1) := by decide +kernel
theorem dX0_lastBed_0 : decode cX0_lastBed 0 = .ok (.iconst (-1), 1) := by decide +kernel
theorem dX0_lastBed_1 : decode cX0_lastBed 1 = .ok (.istore_n 2, 1) := by decide +kernel
theorem dX0_lastBed_2 : decode cX0_lastBed 2 = .ok (.iconst 0, 1) := by decide +kernel
theorem dX0_lastBed_3 : decode cX0_lastBed 3 = .ok (.istore_n 3, 1) := by decide +kernel
theorem dX0_lastBed_4 : decode cX0_lastBed 4 = .ok (.iload_n 3, 1) := by decide +kernel
theorem dX0_lastBed_5 : decode cX0_lastBed 5 = .ok (.aload_n 0, 1) := by decide +kernel
theorem dX0_lastBed_6 : decode cX0_lastBed 6 = .ok (.getfield 37, 3) := by decide +kernel
theorem dX0_lastBed_9 : decode cX0_lastBed 9 = .ok (.getfield 64, 3) := by decide +kernel
theorem dX0_lastBed_12 : decode cX0_lastBed 12 = .ok (.if_icmp .ge 37, 3) := by decide +kernel
theorem dX0_lastBed_15 : decode cX0_lastBed 15 = .ok (.aload_n 0, 1) := by decide +kernel
theorem dX0_lastBed_16 : decode cX0_lastBed 16 = .ok (.getfield 37, 3) := by decide +kernel
theorem dX0_lastBed_19 : decode cX0_lastBed 19 = .ok (.getfield 81, 3) := by decide +kernel
theorem dX0_lastBed_22 : decode cX0_lastBed 22 = .ok (.iload_n 1, 1) := by decide +kernel
theorem dX0_lastBed_23 : decode cX0_lastBed 23 = .ok (.iaload, 1) := by decide +kernel
theorem dX0_lastBed_24 : decode cX0_lastBed 24 = .ok (.iload_n 3, 1) := by decide +kernel
theorem dX0_lastBed_25 : decode cX0_lastBed 25 = .ok (.ishr, 1) := by decide +kernel
theorem dX0_lastBed_26 : decode cX0_lastBed 26 = .ok (.iconst 1, 1) := by decide +kernel
theorem dX0_lastBed_27 : decode cX0_lastBed 27 = .ok (.iand, 1) := by decide +kernel
theorem dX0_lastBed_28 : decode cX0_lastBed 28 = .ok (.iconst 1, 1) := by decide +kernel
theorem dX0_lastBed_29 : decode cX0_lastBed 29 = .ok (.if_icmp .ne 14, 3) := by decide +kernel
theorem dX0_lastBed_32 : decode cX0_lastBed 32 = .ok (.iload_n 2, 1) := by decide +kernel
theorem dX0_lastBed_33 : decode cX0_lastBed 33 = .ok (.aload_n 0, 1) := by decide +kernel
theorem dX0_lastBed_34 : decode cX0_lastBed 34 = .ok (.getfield 31, 3) := by decide +kernel
theorem dX0_lastBed_37 : decode cX0_lastBed 37 = .ok (.iload_n 3, 1) := by decide +kernel
theorem dX0_lastBed_38 : decode cX0_lastBed 38 = .ok (.iaload, 1) := by decide +kernel
theorem dX0_lastBed_39 : decode cX0_lastBed 39 = .ok (.invokestatic 84, 3) := by decide +kernel
theorem dX0_lastBed_42 : decode cX0_lastBed 42 = .ok (.istore_n 2, 1) := by decide +kernel
theorem dX0_lastBed_43 : decode cX0_lastBed 43 = .ok (.iinc 3 1, 3) := by decide +kernel
theorem dX0_lastBed_46 : decode cX0_lastBed 46 = .ok (.goto (-42), 3) := by decide +kernel
theorem dX0_lastBed_49 : decode cX0_lastBed 49 = .ok (.iload_n 2, 1) := by decide +kernel
theorem dX0_lastBed_50 : decode cX0_lastBed 50 = .ok (.ireturn, 1) := by decide +kernel
theorem dX0_thawedBetween_0 : decode cX0_thawedBetween 0 = .ok (.iload_n 1, 1) := by decide +kernel
theorem dX0_thawedBetween_1 : decode cX0_thawedBetween 1 = .ok (.iconst (-1), 1) := by decide +kernel
theorem dX0_thawedBetween_2 : decode cX0_thawedBetween 2 = .ok (.if_icmp .ne 8, 3) := by decide +kernel
theorem dX0_thawedBetween_5 : decode cX0_thawedBetween 5 = .ok (.aload_n 0, 1) := by decide +kernel
theorem dX0_thawedBetween_6 : decode cX0_thawedBetween 6 = .ok (.getfield 19, 3) := by decide +kernel
theorem dX0_thawedBetween_9 : decode cX0_thawedBetween 9 = .ok (.ireturn, 1) := by decide +kernel
theorem dX0_thawedBetween_10 : decode cX0_thawedBetween 10 = .ok (.iload_n 2, 1) := by decide +kernel
theorem dX0_thawedBetween_11 : decode cX0_thawedBetween 11 = .ok (.iload_n 1, 1) := by decide +kernel
theorem dX0_thawedBetween_12 : decode cX0_thawedBetween 12 = .ok (.if_icmp .le 21, 3) := by decide +kernel
theorem dX0_thawedBetween_15 : decode cX0_thawedBetween 15 = .ok (.aload_n 0, 1) := by decide +kernel
theorem dX0_thawedBetween_16 : decode cX0_thawedBetween 16 = .ok (.getfield 23, 3) := by decide +kernel
theorem dX0_thawedBetween_19 : decode cX0_thawedBetween 19 = .ok (.iload_n 2, 1) := by decide +kernel
theorem dX0_thawedBetween_20 : decode cX0_thawedBetween 20 = .ok (.iaload, 1) := by decide +kernel
theorem dX0_thawedBetween_21 : decode cX0_thawedBetween 21 = .ok (.aload_n 0, 1) := by decide +kernel
theorem dX0_thawedBetween_22 : decode cX0_thawedBetween 22 = .ok (.getfield 23, 3) := by decide +kernel
theorem dX0_thawedBetween_25 : decode cX0_thawedBetween 25 = .ok (.iload_n 1, 1) := by decide +kernel
theorem dX0_thawedBetween_26 : decode cX0_thawedBetween 26 = .ok (.iconst 1, 1) := by decide +kernel
theorem dX0_thawedBetween_27 : decode cX0_thawedBetween 27 = .ok (.iadd, 1) := by decide +kernel
theorem dX0_thawedBetween_28 : decode cX0_thawedBetween 28 = .ok (.iaload, 1) := by decide +kernel
theorem dX0_thawedBetween_29 : decode cX0_thawedBetween 29 = .ok (.isub, 1) := by decide +kernel
theorem dX0_thawedBetween_30 : decode cX0_thawedBetween 30 = .ok (.goto 4, 3) := by decide +kernel
theorem dX0_thawedBetween_33 : decode cX0_thawedBetween 33 = .ok (.iconst 0, 1) := by decide +kernel
theorem dX0_thawedBetween_34 : decode cX0_thawedBetween 34 = .ok (.ireturn, 1) := by decide +kernel
theorem dX0_layOnNone_0 : decode cX0_layOnNone 0 = .ok (.iload_n 1, 1) := by decide +kernel
theorem dX0_layOnNone_1 : decode cX0_layOnNone 1 = .ok (.istore_n 2, 1) := by decide +kernel
theorem dX0_layOnNone_2 : decode cX0_layOnNone 2 = .ok (.iload_n 2, 1) := by decide +kernel
theorem dX0_layOnNone_3 : decode cX0_layOnNone 3 = .ok (.aload_n 0, 1) := by decide +kernel
theorem dX0_layOnNone_4 : decode cX0_layOnNone 4 = .ok (.getfield 37, 3) := by decide +kernel
theorem dX0_layOnNone_7 : decode cX0_layOnNone 7 = .ok (.getfield 64, 3) := by decide +kernel
theorem dX0_layOnNone_10 : decode cX0_layOnNone 10 = .ok (.if_icmp .ge 21, 3) := by decide +kernel
theorem dX0_layOnNone_13 : decode cX0_layOnNone 13 = .ok (.aload_n 0, 1) := by decide +kernel
theorem dX0_layOnNone_14 : decode cX0_layOnNone 14 = .ok (.getfield 31, 3) := by decide +kernel
theorem dX0_layOnNone_17 : decode cX0_layOnNone 17 = .ok (.aload_n 0, 1) := by decide +kernel
theorem dX0_layOnNone_18 : decode cX0_layOnNone 18 = .ok (.getfield 28, 3) := by decide +kernel
theorem dX0_layOnNone_21 : decode cX0_layOnNone 21 = .ok (.iload_n 2, 1) := by decide +kernel
theorem dX0_layOnNone_22 : decode cX0_layOnNone 22 = .ok (.iaload, 1) := by decide +kernel
theorem dX0_layOnNone_23 : decode cX0_layOnNone 23 = .ok (.iconst (-1), 1) := by decide +kernel
theorem dX0_layOnNone_24 : decode cX0_layOnNone 24 = .ok (.iastore, 1) := by decide +kernel
theorem dX0_layOnNone_25 : decode cX0_layOnNone 25 = .ok (.iinc 2 1, 3) := by decide +kernel
theorem dX0_layOnNone_28 : decode cX0_layOnNone 28 = .ok (.goto (-26), 3) := by decide +kernel
theorem dX0_layOnNone_31 : decode cX0_layOnNone 31 = .ok (.return_, 1) := by decide +kernel
theorem dX0_findWorst_0 : decode cX0_findWorst 0 = .ok (.aload_n 0, 1) := by decide +kernel
theorem dX0_findWorst_1 : decode cX0_findWorst 1 = .ok (.getfield 34, 3) := by decide +kernel
theorem dX0_findWorst_4 : decode cX0_findWorst 4 = .ok (.iload_n 1, 1) := by decide +kernel
theorem dX0_findWorst_5 : decode cX0_findWorst 5 = .ok (.if_icmp .ne 4, 3) := by decide +kernel
theorem dX0_findWorst_8 : decode cX0_findWorst 8 = .ok (.return_, 1) := by decide +kernel
theorem dX0_findWorst_9 : decode cX0_findWorst 9 = .ok (.aload_n 0, 1) := by decide +kernel
theorem dX0_findWorst_10 : decode cX0_findWorst 10 = .ok (.iload_n 1, 1) := by decide +kernel
theorem dX0_findWorst_11 : decode cX0_findWorst 11 = .ok (.putfield 34, 3) := by decide +kernel
theorem dX0_findWorst_14 : decode cX0_findWorst 14 = .ok (.aload_n 0, 1) := by decide +kernel
theorem dX0_findWorst_15 : decode cX0_findWorst 15 = .ok (.iconst (-1), 1) := by decide +kernel
theorem dX0_findWorst_16 : decode cX0_findWorst 16 = .ok (.putfield 47, 3) := by decide +kernel
theorem dX0_findWorst_19 : decode cX0_findWorst 19 = .ok (.aload_n 0, 1) := by decide +kernel
theorem dX0_findWorst_20 : decode cX0_findWorst 20 = .ok (.iconst (-1), 1) := by decide +kernel
theorem dX0_findWorst_21 : decode cX0_findWorst 21 = .ok (.iconst (-1), 1) := by decide +kernel
theorem dX0_findWorst_22 : decode cX0_findWorst 22 = .ok (.invokevirtual 89, 3) := by decide +kernel
theorem dX0_findWorst_25 : decode cX0_findWorst 25 = .ok (.istore_n 2, 1) := by decide +kernel
theorem dX0_findWorst_26 : decode cX0_findWorst 26 = .ok (.iload_n 1, 1) := by decide +kernel
theorem dX0_findWorst_27 : decode cX0_findWorst 27 = .ok (.ifCond .ne 8, 3) := by decide +kernel
theorem dX0_findWorst_30 : decode cX0_findWorst 30 = .ok (.aload_n 0, 1) := by decide +kernel
theorem dX0_findWorst_31 : decode cX0_findWorst 31 = .ok (.iload_n 2, 1) := by decide +kernel
theorem dX0_findWorst_32 : decode cX0_findWorst 32 = .ok (.putfield 47, 3) := by decide +kernel
theorem dX0_findWorst_35 : decode cX0_findWorst 35 = .ok (.iconst 0, 1) := by decide +kernel
theorem dX0_findWorst_36 : decode cX0_findWorst 36 = .ok (.istore_n 3, 1) := by decide +kernel
theorem dX0_findWorst_37 : decode cX0_findWorst 37 = .ok (.iload_n 1, 1) := by decide +kernel
theorem dX0_findWorst_38 : decode cX0_findWorst 38 = .ok (.ifCond .le 63, 3) := by decide +kernel
theorem dX0_findWorst_41 : decode cX0_findWorst 41 = .ok (.iload_n 3, 1) := by decide +kernel
theorem dX0_findWorst_42 : decode cX0_findWorst 42 = .ok (.bipush 60, 2) := by decide +kernel
theorem dX0_findWorst_44 : decode cX0_findWorst 44 = .ok (.if_icmp .ge 57, 3) := by decide +kernel
theorem dX0_findWorst_47 : decode cX0_findWorst 47 = .ok (.aload_n 0, 1) := by decide +kernel
theorem dX0_findWorst_48 : decode cX0_findWorst 48 = .ok (.getfield 47, 3) := by decide +kernel
theorem dX0_findWorst_51 : decode cX0_findWorst 51 = .ok (.bipush 80, 2) := by decide +kernel
theorem dX0_findWorst_53 : decode cX0_findWorst 53 = .ok (.if_icmp .eq 48, 3) := by decide +kernel
theorem dX0_findWorst_56 : decode cX0_findWorst 56 = .ok (.aload_n 0, 1) := by decide +kernel
theorem dX0_findWorst_57 : decode cX0_findWorst 57 = .ok (.getfield 15, 3) := by decide +kernel
theorem dX0_findWorst_60 : decode cX0_findWorst 60 = .ok (.iload_n 3, 1) := by decide +kernel
theorem dX0_findWorst_61 : decode cX0_findWorst 61 = .ok (.baload, 1) := by decide +kernel
theorem dX0_findWorst_62 : decode cX0_findWorst 62 = .ok (.ifCond .eq 6, 3) := by decide +kernel
theorem dX0_findWorst_65 : decode cX0_findWorst 65 = .ok (.goto 30, 3) := by decide +kernel
theorem dX0_findWorst_68 : decode cX0_findWorst 68 = .ok (.iload_n 1, 1) := by decide +kernel
theorem dX0_findWorst_69 : decode cX0_findWorst 69 = .ok (.iconst 1, 1) := by decide +kernel
theorem dX0_findWorst_70 : decode cX0_findWorst 70 = .ok (.if_icmp .ne 12, 3) := by decide +kernel
theorem dX0_findWorst_73 : decode cX0_findWorst 73 = .ok (.aload_n 0, 1) := by decide +kernel
theorem dX0_findWorst_74 : decode cX0_findWorst 74 = .ok (.iload_n 3, 1) := by decide +kernel
theorem dX0_findWorst_75 : decode cX0_findWorst 75 = .ok (.iconst (-1), 1) := by decide +kernel
theorem dX0_findWorst_76 : decode cX0_findWorst 76 = .ok (.invokevirtual 92, 3) := by decide +kernel
theorem dX0_findWorst_79 : decode cX0_findWorst 79 = .ok (.goto 8, 3) := by decide +kernel
theorem dX0_findWorst_82 : decode cX0_findWorst 82 = .ok (.aload_n 0, 1) := by decide +kernel
theorem dX0_findWorst_83 : decode cX0_findWorst 83 = .ok (.iload_n 3, 1) := by decide +kernel
theorem dX0_findWorst_84 : decode cX0_findWorst 84 = .ok (.invokevirtual 95, 3) := by decide +kernel
theorem dX0_findWorst_87 : decode cX0_findWorst 87 = .ok (.iload_n 3, 1) := by decide +kernel
theorem dX0_findWorst_88 : decode cX0_findWorst 88 = .ok (.iload_n 2, 1) := by decide +kernel
theorem dX0_findWorst_89 : decode cX0_findWorst 89 = .ok (.if_icmp .le 6, 3) := by decide +kernel
theorem dX0_findWorst_92 : decode cX0_findWorst 92 = .ok (.goto 9, 3) := by decide +kernel
theorem dX0_findWorst_95 : decode cX0_findWorst 95 = .ok (.iinc 3 1, 3) := by decide +kernel
theorem dX0_findWorst_98 : decode cX0_findWorst 98 = .ok (.goto (-61), 3) := by decide +kernel
theorem dX0_findWorst_101 : decode cX0_findWorst 101 = .ok (.return_, 1) := by decide +kernel
theorem dX0_trySecond_0 : decode cX0_trySecond 0 = .ok (.aload_n 0, 1) := by decide +kernel
theorem dX0_trySecond_1 : decode cX0_trySecond 1 = .ok (.iload_n 1, 1) := by decide +kernel
theorem dX0_trySecond_2 : decode cX0_trySecond 2 = .ok (.iconst (-1), 1) := by decide +kernel
theorem dX0_trySecond_3 : decode cX0_trySecond 3 = .ok (.invokevirtual 89, 3) := by decide +kernel
theorem dX0_trySecond_6 : decode cX0_trySecond 6 = .ok (.istore_n 2, 1) := by decide +kernel
theorem dX0_trySecond_7 : decode cX0_trySecond 7 = .ok (.iload_n 1, 1) := by decide +kernel
theorem dX0_trySecond_8 : decode cX0_trySecond 8 = .ok (.iconst 1, 1) := by decide +kernel
theorem dX0_trySecond_9 : decode cX0_trySecond 9 = .ok (.iadd, 1) := by decide +kernel
theorem dX0_trySecond_10 : decode cX0_trySecond 10 = .ok (.istore_n 3, 1) := by decide +kernel
theorem dX0_trySecond_11 : decode cX0_trySecond 11 = .ok (.iload_n 3, 1) := by decide +kernel
theorem dX0_trySecond_12 : decode cX0_trySecond 12 = .ok (.bipush 60, 2) := by decide +kernel
theorem dX0_trySecond_14 : decode cX0_trySecond 14 = .ok (.if_icmp .ge 44, 3) := by decide +kernel
theorem dX0_trySecond_17 : decode cX0_trySecond 17 = .ok (.aload_n 0, 1) := by decide +kernel
theorem dX0_trySecond_18 : decode cX0_trySecond 18 = .ok (.getfield 47, 3) := by decide +kernel
theorem dX0_trySecond_21 : decode cX0_trySecond 21 = .ok (.bipush 80, 2) := by decide +kernel
theorem dX0_trySecond_23 : decode cX0_trySecond 23 = .ok (.if_icmp .eq 35, 3) := by decide +kernel
theorem dX0_trySecond_26 : decode cX0_trySecond 26 = .ok (.aload_n 0, 1) := by decide +kernel
theorem dX0_trySecond_27 : decode cX0_trySecond 27 = .ok (.getfield 15, 3) := by decide +kernel
theorem dX0_trySecond_30 : decode cX0_trySecond 30 = .ok (.iload_n 3, 1) := by decide +kernel
theorem dX0_trySecond_31 : decode cX0_trySecond 31 = .ok (.baload, 1) := by decide +kernel
theorem dX0_trySecond_32 : decode cX0_trySecond 32 = .ok (.ifCond .eq 6, 3) := by decide +kernel
theorem dX0_trySecond_35 : decode cX0_trySecond 35 = .ok (.goto 17, 3) := by decide +kernel
theorem dX0_trySecond_38 : decode cX0_trySecond 38 = .ok (.aload_n 0, 1) := by decide +kernel
theorem dX0_trySecond_39 : decode cX0_trySecond 39 = .ok (.iload_n 1, 1) := by decide +kernel
theorem dX0_trySecond_40 : decode cX0_trySecond 40 = .ok (.iload_n 3, 1) := by decide +kernel
theorem dX0_trySecond_41 : decode cX0_trySecond 41 = .ok (.invokevirtual 92, 3) := by decide +kernel
theorem dX0_trySecond_44 : decode cX0_trySecond 44 = .ok (.iload_n 3, 1) := by decide +kernel
theorem dX0_trySecond_45 : decode cX0_trySecond 45 = .ok (.iload_n 2, 1) := by decide +kernel
theorem dX0_trySecond_46 : decode cX0_trySecond 46 = .ok (.if_icmp .le 6, 3) := by decide +kernel
theorem dX0_trySecond_49 : decode cX0_trySecond 49 = .ok (.goto 9, 3) := by decide +kernel
theorem dX0_trySecond_52 : decode cX0_trySecond 52 = .ok (.iinc 3 1, 3) := by decide +kernel
theorem dX0_trySecond_55 : decode cX0_trySecond 55 = .ok (.goto (-44), 3) := by decide +kernel
theorem dX0_trySecond_58 : decode cX0_trySecond 58 = .ok (.return_, 1) := by decide +kernel
theorem dX0_tryFrost_0 : decode cX0_tryFrost 0 = .ok (.aload_n 0, 1) := by decide +kernel
theorem dX0_tryFrost_1 : decode cX0_tryFrost 1 = .ok (.iload_n 1, 1) := by decide +kernel
theorem dX0_tryFrost_2 : decode cX0_tryFrost 2 = .ok (.iload_n 2, 1) := by decide +kernel
theorem dX0_tryFrost_3 : decode cX0_tryFrost 3 = .ok (.invokevirtual 89, 3) := by decide +kernel
theorem dX0_tryFrost_6 : decode cX0_tryFrost 6 = .ok (.istore_n 3, 1) := by decide +kernel
theorem dX0_tryFrost_7 : decode cX0_tryFrost 7 = .ok (.iload_n 3, 1) := by decide +kernel
theorem dX0_tryFrost_8 : decode cX0_tryFrost 8 = .ok (.aload_n 0, 1) := by decide +kernel
theorem dX0_tryFrost_9 : decode cX0_tryFrost 9 = .ok (.getfield 47, 3) := by decide +kernel
theorem dX0_tryFrost_12 : decode cX0_tryFrost 12 = .ok (.if_icmp .le 18, 3) := by decide +kernel
theorem dX0_tryFrost_15 : decode cX0_tryFrost 15 = .ok (.aload_n 0, 1) := by decide +kernel
theorem dX0_tryFrost_16 : decode cX0_tryFrost 16 = .ok (.iload_n 3, 1) := by decide +kernel
theorem dX0_tryFrost_17 : decode cX0_tryFrost 17 = .ok (.putfield 47, 3) := by decide +kernel
theorem dX0_tryFrost_20 : decode cX0_tryFrost 20 = .ok (.aload_n 0, 1) := by decide +kernel
theorem dX0_tryFrost_21 : decode cX0_tryFrost 21 = .ok (.iload_n 1, 1) := by decide +kernel
theorem dX0_tryFrost_22 : decode cX0_tryFrost 22 = .ok (.putfield 50, 3) := by decide +kernel
theorem dX0_tryFrost_25 : decode cX0_tryFrost 25 = .ok (.aload_n 0, 1) := by decide +kernel
theorem dX0_tryFrost_26 : decode cX0_tryFrost 26 = .ok (.iload_n 2, 1) := by decide +kernel
theorem dX0_tryFrost_27 : decode cX0_tryFrost 27 = .ok (.putfield 53, 3) := by decide +kernel
theorem dX0_tryFrost_30 : decode cX0_tryFrost 30 = .ok (.return_, 1) := by decide +kernel
theorem dX0_mixInto_0 : decode cX0_mixInto 0 = .ok (.lload_n 1, 1) := by decide +kernel
theorem dX0_mixInto_1 : decode cX0_mixInto 1 = .ok (.lstore_n 3, 1) := by decide +kernel
theorem dX0_mixInto_2 : decode cX0_mixInto 2 = .ok (.iconst 0, 1) := by decide +kernel
theorem dX0_mixInto_3 : decode cX0_mixInto 3 = .ok (.istore 5, 2) := by decide +kernel
theorem dX0_mixInto_5 : decode cX0_mixInto 5 = .ok (.iload 5, 2) := by decide +kernel
theorem dX0_mixInto_7 : decode cX0_mixInto 7 = .ok (.bipush 80, 2) := by decide +kernel
theorem dX0_mixInto_9 : decode cX0_mixInto 9 = .ok (.if_icmp .ge 24, 3) := by decide +kernel
theorem dX0_mixInto_12 : decode cX0_mixInto 12 = .ok (.ldc2_w 98, 3) := by decide +kernel
theorem dX0_mixInto_15 : decode cX0_mixInto 15 = .ok (.lload_n 3, 1) := by decide +kernel
theorem dX0_mixInto_16 : decode cX0_mixInto 16 = .ok (.lmul, 1) := by decide +kernel
theorem dX0_mixInto_17 : decode cX0_mixInto 17 = .ok (.aload_n 0, 1) := by decide +kernel
theorem dX0_mixInto_18 : decode cX0_mixInto 18 = .ok (.getfield 11, 3) := by decide +kernel
theorem dX0_mixInto_21 : decode cX0_mixInto 21 = .ok (.iload 5, 2) := by decide +kernel
theorem dX0_mixInto_23 : decode cX0_mixInto 23 = .ok (.iaload, 1) := by decide +kernel
theorem dX0_mixInto_24 : decode cX0_mixInto 24 = .ok (.i2l, 1) := by decide +kernel
theorem dX0_mixInto_25 : decode cX0_mixInto 25 = .ok (.ladd, 1) := by decide +kernel
theorem dX0_mixInto_26 : decode cX0_mixInto 26 = .ok (.lstore_n 3, 1) := by decide +kernel
theorem dX0_mixInto_27 : decode cX0_mixInto 27 = .ok (.iinc 5 1, 3) := by decide +kernel
theorem dX0_mixInto_30 : decode cX0_mixInto 30 = .ok (.goto (-25), 3) := by decide +kernel
theorem dX0_mixInto_33 : decode cX0_mixInto 33 = .ok (.lload_n 3, 1) := by decide +kernel
theorem dX0_mixInto_34 : decode cX0_mixInto 34 = .ok (.lreturn, 1) := by decide +kernel
theorem dX1_init_0 : decode cX1_init 0 = .ok (.aload_n 0, 1) := by decide +kernel
theorem dX1_init_1 : decode cX1_init 1 = .ok (.invokespecial 3, 3) := by decide +kernel
theorem dX1_init_4 : decode cX1_init 4 = .ok (.aload_n 0, 1) := by decide +kernel
theorem dX1_init_5 : decode cX1_init 5 = .ok (.bipush 8, 2) := by decide +kernel
theorem dX1_init_7 : decode cX1_init 7 = .ok (.newarray .int, 2) := by decide +kernel
theorem dX1_init_9 : decode cX1_init 9 = .ok (.putfield 11, 3) := by decide +kernel
theorem dX1_init_12 : decode cX1_init 12 = .ok (.aload_n 0, 1) := by decide +kernel
theorem dX1_init_13 : decode cX1_init 13 = .ok (.bipush 8, 2) := by decide +kernel
theorem dX1_init_15 : decode cX1_init 15 = .ok (.newarray .int, 2) := by decide +kernel
theorem dX1_init_17 : decode cX1_init 17 = .ok (.putfield 15, 3) := by decide +kernel
theorem dX1_init_20 : decode cX1_init 20 = .ok (.return_, 1) := by decide +kernel
theorem dX1_join_0 : decode cX1_join 0 = .ok (.aload_n 0, 1) := by decide +kernel
theorem dX1_join_1 : decode cX1_join 1 = .ok (.getfield 18, 3) := by decide +kernel
theorem dX1_join_4 : decode cX1_join 4 = .ok (.bipush 8, 2) := by decide +kernel
theorem dX1_join_6 : decode cX1_join 6 = .ok (.if_icmp .lt 6, 3) := by decide +kernel
theorem dX1_join_9 : decode cX1_join 9 = .ok (.bipush (-4), 2) := by decide +kernel
theorem dX1_join_11 : decode cX1_join 11 = .ok (.ireturn, 1) := by decide +kernel
theorem dX1_join_12 : decode cX1_join 12 = .ok (.aload_n 0, 1) := by decide +kernel
theorem dX1_join_13 : decode cX1_join 13 = .ok (.getfield 11, 3) := by decide +kernel
theorem dX1_join_16 : decode cX1_join 16 = .ok (.aload_n 0, 1) := by decide +kernel
theorem dX1_join_17 : decode cX1_join 17 = .ok (.getfield 18, 3) := by decide +kernel
theorem dX1_join_20 : decode cX1_join 20 = .ok (.iload_n 1, 1) := by decide +kernel
theorem dX1_join_21 : decode cX1_join 21 = .ok (.iastore, 1) := by decide +kernel
theorem dX1_join_22 : decode cX1_join 22 = .ok (.aload_n 0, 1) := by decide +kernel
theorem dX1_join_23 : decode cX1_join 23 = .ok (.getfield 15, 3) := by decide +kernel
theorem dX1_join_26 : decode cX1_join 26 = .ok (.aload_n 0, 1) := by decide +kernel
theorem dX1_join_27 : decode cX1_join 27 = .ok (.getfield 18, 3) := by decide +kernel
theorem dX1_join_30 : decode cX1_join 30 = .ok (.sipush 1000, 3) := by decide +kernel
theorem dX1_join_33 : decode cX1_join 33 = .ok (.iastore, 1) := by decide +kernel
theorem dX1_join_34 : decode cX1_join 34 = .ok (.aload_n 0, 1) := by decide +kernel
theorem dX1_join_35 : decode cX1_join 35 = .ok (.dup, 1) := by decide +kernel
theorem dX1_join_36 : decode cX1_join 36 = .ok (.getfield 18, 3) := by decide +kernel
theorem dX1_join_39 : decode cX1_join 39 = .ok (.iconst 1, 1) := by decide +kernel
theorem dX1_join_40 : decode cX1_join 40 = .ok (.iadd, 1) := by decide +kernel
theorem dX1_join_41 : decode cX1_join 41 = .ok (.putfield 18, 3) := by decide +kernel
theorem dX1_join_44 : decode cX1_join 44 = .ok (.aload_n 0, 1) := by decide +kernel
theorem dX1_join_45 : decode cX1_join 45 = .ok (.getfield 18, 3) := by decide +kernel
theorem dX1_join_48 : decode cX1_join 48 = .ok (.iconst 1, 1) := by decide +kernel
theorem dX1_join_49 : decode cX1_join 49 = .ok (.isub, 1) := by decide +kernel
theorem dX1_join_50 : decode cX1_join 50 = .ok (.ireturn, 1) := by decide +kernel
theorem dX1_everyone_0 : decode cX1_everyone 0 = .ok (.iconst 1, 1) := by decide +kernel
theorem dX1_everyone_1 : decode cX1_everyone 1 = .ok (.aload_n 0, 1) := by decide +kernel
theorem dX1_everyone_2 : decode cX1_everyone 2 = .ok (.getfield 18, 3) := by decide +kernel
theorem dX1_everyone_5 : decode cX1_everyone 5 = .ok (.ishl, 1) := by decide +kernel
theorem dX1_everyone_6 : decode cX1_everyone 6 = .ok (.iconst 1, 1) := by decide +kernel
theorem dX1_everyone_7 : decode cX1_everyone 7 = .ok (.isub, 1) := by decide +kernel
theorem dX1_everyone_8 : decode cX1_everyone 8 = .ok (.ireturn, 1) := by decide +kernel
theorem dX1_weightOf_0 : decode cX1_weightOf 0 = .ok (.iconst 0, 1) := by decide +kernel
theorem dX1_weightOf_1 : decode cX1_weightOf 1 = .ok (.istore_n 2, 1) := by decide +kernel
theorem dX1_weightOf_2 : decode cX1_weightOf 2 = .ok (.iconst 0, 1) := by decide +kernel
theorem dX1_weightOf_3 : decode cX1_weightOf 3 = .ok (.istore_n 3, 1) := by decide +kernel
theorem dX1_weightOf_4 : decode cX1_weightOf 4 = .ok (.iload_n 3, 1) := by decide +kernel
theorem dX1_weightOf_5 : decode cX1_weightOf 5 = .ok (.aload_n 0, 1) := by decide +kernel
theorem dX1_weightOf_6 : decode cX1_weightOf 6 = .ok (.getfield 18, 3) := by decide +kernel
theorem dX1_weightOf_9 : decode cX1_weightOf 9 = .ok (.if_icmp .ge 24, 3) := by decide +kernel
theorem dX1_weightOf_12 : decode cX1_weightOf 12 = .ok (.iload_n 2, 1) := by decide +kernel
theorem dX1_weightOf_13 : decode cX1_weightOf 13 = .ok (.iload_n 1, 1) := by decide +kernel
theorem dX1_weightOf_14 : decode cX1_weightOf 14 = .ok (.iload_n 3, 1) := by decide +kernel
theorem dX1_weightOf_15 : decode cX1_weightOf 15 = .ok (.ishr, 1) := by decide +kernel
theorem dX1_weightOf_16 : decode cX1_weightOf 16 = .ok (.iconst 1, 1) := by decide +kernel
theorem dX1_weightOf_17 : decode cX1_weightOf 17 = .ok (.iand, 1) := by decide +kernel
theorem dX1_weightOf_18 : decode cX1_weightOf 18 = .ok (.aload_n 0, 1) := by decide +kernel
theorem dX1_weightOf_19 : decode cX1_weightOf 19 = .ok (.getfield 11, 3) := by decide +kernel
theorem dX1_weightOf_22 : decode cX1_weightOf 22 = .ok (.iload_n 3, 1) := by decide +kernel
theorem dX1_weightOf_23 : decode cX1_weightOf 23 = .ok (.iaload, 1) := by decide +kernel
theorem dX1_weightOf_24 : decode cX1_weightOf 24 = .ok (.imul, 1) := by decide +kernel
theorem dX1_weightOf_25 : decode cX1_weightOf 25 = .ok (.iadd, 1) := by decide +kernel
theorem dX1_weightOf_26 : decode cX1_weightOf 26 = .ok (.istore_n 2, 1) := by decide +kernel
theorem dX1_weightOf_27 : decode cX1_weightOf 27 = .ok (.iinc 3 1, 3) := by decide +kernel
theorem dX1_weightOf_30 : decode cX1_weightOf 30 = .ok (.goto (-26), 3) := by decide +kernel
theorem dX1_weightOf_33 : decode cX1_weightOf 33 = .ok (.iload_n 2, 1) := by decide +kernel
theorem dX1_weightOf_34 : decode cX1_weightOf 34 = .ok (.ireturn, 1) := by decide +kernel
theorem dX1_haveBreath_0 : decode cX1_haveBreath 0 = .ok (.iconst 0, 1) := by decide +kernel
theorem dX1_haveBreath_1 : decode cX1_haveBreath 1 = .ok (.istore_n 3, 1) := by decide +kernel
theorem dX1_haveBreath_2 : decode cX1_haveBreath 2 = .ok (.iload_n 3, 1) := by decide +kernel
theorem dX1_haveBreath_3 : decode cX1_haveBreath 3 = .ok (.aload_n 0, 1) := by decide +kernel
theorem dX1_haveBreath_4 : decode cX1_haveBreath 4 = .ok (.getfield 18, 3) := by decide +kernel
theorem dX1_haveBreath_7 : decode cX1_haveBreath 7 = .ok (.if_icmp .ge 30, 3) := by decide +kernel
theorem dX1_haveBreath_10 : decode cX1_haveBreath 10 = .ok (.iload_n 1, 1) := by decide +kernel
theorem dX1_haveBreath_11 : decode cX1_haveBreath 11 = .ok (.iload_n 3, 1) := by decide +kernel
theorem dX1_haveBreath_12 : decode cX1_haveBreath 12 = .ok (.ishr, 1) := by decide +kernel
theorem dX1_haveBreath_13 : decode cX1_haveBreath 13 = .ok (.iconst 1, 1) := by decide +kernel
theorem dX1_haveBreath_14 : decode cX1_haveBreath 14 = .ok (.iand, 1) := by decide +kernel
theorem dX1_haveBreath_15 : decode cX1_haveBreath 15 = .ok (.iconst 1, 1) := by decide +kernel
theorem dX1_haveBreath_16 : decode cX1_haveBreath 16 = .ok (.if_icmp .ne 15, 3) := by decide +kernel
theorem dX1_haveBreath_19 : decode cX1_haveBreath 19 = .ok (.aload_n 0, 1) := by decide +kernel
theorem dX1_haveBreath_20 : decode cX1_haveBreath 20 = .ok (.getfield 15, 3) := by decide +kernel
theorem dX1_haveBreath_23 : decode cX1_haveBreath 23 = .ok (.iload_n 3, 1) := by decide +kernel
theorem dX1_haveBreath_24 : decode cX1_haveBreath 24 = .ok (.iaload, 1) := by decide +kernel
theorem dX1_haveBreath_25 : decode cX1_haveBreath 25 = .ok (.iload_n 2, 1) := by decide +kernel
theorem dX1_haveBreath_26 : decode cX1_haveBreath 26 = .ok (.if_icmp .ge 5, 3) := by decide +kernel
theorem dX1_haveBreath_29 : decode cX1_haveBreath 29 = .ok (.iconst 0, 1) := by decide +kernel
theorem dX1_haveBreath_30 : decode cX1_haveBreath 30 = .ok (.ireturn, 1) := by decide +kernel
theorem dX1_haveBreath_31 : decode cX1_haveBreath 31 = .ok (.iinc 3 1, 3) := by decide +kernel
theorem dX1_haveBreath_34 : decode cX1_haveBreath 34 = .ok (.goto (-32), 3) := by decide +kernel
theorem dX1_haveBreath_37 : decode cX1_haveBreath 37 = .ok (.iconst 1, 1) := by decide +kernel
theorem dX1_haveBreath_38 : decode cX1_haveBreath 38 = .ok (.ireturn, 1) := by decide +kernel
theorem dX1_isLeaner_0 : decode cX1_isLeaner 0 = .ok (.iload_n 1, 1) := by decide +kernel
theorem dX1_isLeaner_1 : decode cX1_isLeaner 1 = .ok (.invokestatic 22, 3) := by decide +kernel
theorem dX1_isLeaner_4 : decode cX1_isLeaner 4 = .ok (.iload_n 2, 1) := by decide +kernel
theorem dX1_isLeaner_5 : decode cX1_isLeaner 5 = .ok (.invokestatic 22, 3) := by decide +kernel
theorem dX1_isLeaner_8 : decode cX1_isLeaner 8 = .ok (.isub, 1) := by decide +kernel
theorem dX1_isLeaner_9 : decode cX1_isLeaner 9 = .ok (.istore_n 3, 1) := by decide +kernel
theorem dX1_isLeaner_10 : decode cX1_isLeaner 10 = .ok (.iload_n 3, 1) := by decide +kernel
theorem dX1_isLeaner_11 : decode cX1_isLeaner 11 = .ok (.ifCond .lt 20, 3) := by decide +kernel
theorem dX1_isLeaner_14 : decode cX1_isLeaner 14 = .ok (.iload_n 3, 1) := by decide +kernel
theorem dX1_isLeaner_15 : decode cX1_isLeaner 15 = .ok (.ifCond .ne 20, 3) := by decide +kernel
theorem dX1_isLeaner_18 : decode cX1_isLeaner 18 = .ok (.aload_n 0, 1) := by decide +kernel
theorem dX1_isLeaner_19 : decode cX1_isLeaner 19 = .ok (.iload_n 1, 1) := by decide +kernel
theorem dX1_isLeaner_20 : decode cX1_isLeaner 20 = .ok (.invokevirtual 28, 3) := by decide +kernel
theorem dX1_isLeaner_23 : decode cX1_isLeaner 23 = .ok (.aload_n 0, 1) := by decide +kernel
theorem dX1_isLeaner_24 : decode cX1_isLeaner 24 = .ok (.iload_n 2, 1) := by decide +kernel
theorem dX1_isLeaner_25 : decode cX1_isLeaner 25 = .ok (.invokevirtual 28, 3) := by decide +kernel
theorem dX1_isLeaner_28 : decode cX1_isLeaner 28 = .ok (.if_icmp .ge 7, 3) := by decide +kernel
theorem dX1_isLeaner_31 : decode cX1_isLeaner 31 = .ok (.iconst 1, 1) := by decide +kernel
theorem dX1_isLeaner_32 : decode cX1_isLeaner 32 = .ok (.goto 4, 3) := by decide +kernel
theorem dX1_isLeaner_35 : decode cX1_isLeaner 35 = .ok (.iconst 0, 1) := by decide +kernel
theorem dX1_isLeaner_36 : decode cX1_isLeaner 36 = .ok (.ireturn, 1) := by decide +kernel
theorem dX1_spend_0 : decode cX1_spend 0 = .ok (.iconst 0, 1) := by decide +kernel
theorem dX1_spend_1 : decode cX1_spend 1 = .ok (.istore_n 3, 1) := by decide +kernel
theorem dX1_spend_2 : decode cX1_spend 2 = .ok (.iload_n 3, 1) := by decide +kernel
theorem dX1_spend_3 : decode cX1_spend 3 = .ok (.aload_n 0, 1) := by decide +kernel
theorem dX1_spend_4 : decode cX1_spend 4 = .ok (.getfield 18, 3) := by decide +kernel
theorem dX1_spend_7 : decode cX1_spend 7 = .ok (.if_icmp .ge 25, 3) := by decide +kernel
theorem dX1_spend_10 : decode cX1_spend 10 = .ok (.aload_n 0, 1) := by decide +kernel
theorem dX1_spend_11 : decode cX1_spend 11 = .ok (.getfield 15, 3) := by decide +kernel
theorem dX1_spend_14 : decode cX1_spend 14 = .ok (.iload_n 3, 1) := by decide +kernel
theorem dX1_spend_15 : decode cX1_spend 15 = .ok (.dup2, 1) := by decide +kernel
theorem dX1_spend_16 : decode cX1_spend 16 = .ok (.iaload, 1) := by decide +kernel
theorem dX1_spend_17 : decode cX1_spend 17 = .ok (.iload_n 1, 1) := by decide +kernel
theorem dX1_spend_18 : decode cX1_spend 18 = .ok (.iload_n 3, 1) := by decide +kernel
theorem dX1_spend_19 : decode cX1_spend 19 = .ok (.ishr, 1) := by decide +kernel
theorem dX1_spend_20 : decode cX1_spend 20 = .ok (.iconst 1, 1) := by decide +kernel
theorem dX1_spend_21 : decode cX1_spend 21 = .ok (.iand, 1) := by decide +kernel
theorem dX1_spend_22 : decode cX1_spend 22 = .ok (.iload_n 2, 1) := by decide +kernel
theorem dX1_spend_23 : decode cX1_spend 23 = .ok (.imul, 1) := by decide +kernel
theorem dX1_spend_24 : decode cX1_spend 24 = .ok (.isub, 1) := by decide +kernel
theorem dX1_spend_25 : decode cX1_spend 25 = .ok (.iastore, 1) := by decide +kernel
theorem dX1_spend_26 : decode cX1_spend 26 = .ok (.iinc 3 1, 3) := by decide +kernel
theorem dX1_spend_29 : decode cX1_spend 29 = .ok (.goto (-27), 3) := by decide +kernel
theorem dX1_spend_32 : decode cX1_spend 32 = .ok (.return_, 1) := by decide +kernel
theorem dX1_recover_0 : decode cX1_recover 0 = .ok (.iconst 0, 1) := by decide +kernel
theorem dX1_recover_1 : decode cX1_recover 1 = .ok (.istore_n 2, 1) := by decide +kernel
theorem dX1_recover_2 : decode cX1_recover 2 = .ok (.iload_n 2, 1) := by decide +kernel
theorem dX1_recover_3 : decode cX1_recover 3 = .ok (.aload_n 0, 1) := by decide +kernel
theorem dX1_recover_4 : decode cX1_recover 4 = .ok (.getfield 18, 3) := by decide +kernel
theorem dX1_recover_7 : decode cX1_recover 7 = .ok (.if_icmp .ge 29, 3) := by decide +kernel
theorem dX1_recover_10 : decode cX1_recover 10 = .ok (.aload_n 0, 1) := by decide +kernel
theorem dX1_recover_11 : decode cX1_recover 11 = .ok (.getfield 15, 3) := by decide +kernel
theorem dX1_recover_14 : decode cX1_recover 14 = .ok (.iload_n 2, 1) := by decide +kernel
theorem dX1_recover_15 : decode cX1_recover 15 = .ok (.sipush 5000, 3) := by decide +kernel
theorem dX1_recover_18 : decode cX1_recover 18 = .ok (.aload_n 0, 1) := by decide +kernel
theorem dX1_recover_19 : decode cX1_recover 19 = .ok (.getfield 15, 3) := by decide +kernel
theorem dX1_recover_22 : decode cX1_recover 22 = .ok (.iload_n 2, 1) := by decide +kernel
theorem dX1_recover_23 : decode cX1_recover 23 = .ok (.iaload, 1) := by decide +kernel
theorem dX1_recover_24 : decode cX1_recover 24 = .ok (.iload_n 1, 1) := by decide +kernel
theorem dX1_recover_25 : decode cX1_recover 25 = .ok (.iadd, 1) := by decide +kernel
theorem dX1_recover_26 : decode cX1_recover 26 = .ok (.invokestatic 31, 3) := by decide +kernel
theorem dX1_recover_29 : decode cX1_recover 29 = .ok (.iastore, 1) := by decide +kernel
theorem dX1_recover_30 : decode cX1_recover 30 = .ok (.iinc 2 1, 3) := by decide +kernel
theorem dX1_recover_33 : decode cX1_recover 33 = .ok (.goto (-31), 3) := by decide +kernel
theorem dX1_recover_36 : decode cX1_recover 36 = .ok (.return_, 1) := by decide +kernel
theorem dX1_mixInto_0 : decode cX1_mixInto 0 = .ok (.lload_n 1, 1) := by decide +kernel
theorem dX1_mixInto_1 : decode cX1_mixInto 1 = .ok (.lstore_n 3, 1) := by decide +kernel
theorem dX1_mixInto_2 : decode cX1_mixInto 2 = .ok (.iconst 0, 1) := by decide +kernel
theorem dX1_mixInto_3 : decode cX1_mixInto 3 = .ok (.istore 5, 2) := by decide +kernel
theorem dX1_mixInto_5 : decode cX1_mixInto 5 = .ok (.iload 5, 2) := by decide +kernel
theorem dX1_mixInto_7 : decode cX1_mixInto 7 = .ok (.aload_n 0, 1) := by decide +kernel
theorem dX1_mixInto_8 : decode cX1_mixInto 8 = .ok (.getfield 18, 3) := by decide +kernel
theorem dX1_mixInto_11 : decode cX1_mixInto 11 = .ok (.if_icmp .ge 39, 3) := by decide +kernel
theorem dX1_mixInto_14 : decode cX1_mixInto 14 = .ok (.ldc2_w 37, 3) := by decide +kernel
theorem dX1_mixInto_17 : decode cX1_mixInto 17 = .ok (.lload_n 3, 1) := by decide +kernel
theorem dX1_mixInto_18 : decode cX1_mixInto 18 = .ok (.lmul, 1) := by decide +kernel
theorem dX1_mixInto_19 : decode cX1_mixInto 19 = .ok (.aload_n 0, 1) := by decide +kernel
theorem dX1_mixInto_20 : decode cX1_mixInto 20 = .ok (.getfield 11, 3) := by decide +kernel
theorem dX1_mixInto_23 : decode cX1_mixInto 23 = .ok (.iload 5, 2) := by decide +kernel
theorem dX1_mixInto_25 : decode cX1_mixInto 25 = .ok (.iaload, 1) := by decide +kernel
theorem dX1_mixInto_26 : decode cX1_mixInto 26 = .ok (.i2l, 1) := by decide +kernel
theorem dX1_mixInto_27 : decode cX1_mixInto 27 = .ok (.ladd, 1) := by decide +kernel
theorem dX1_mixInto_28 : decode cX1_mixInto 28 = .ok (.lstore_n 3, 1) := by decide +kernel
theorem dX1_mixInto_29 : decode cX1_mixInto 29 = .ok (.ldc2_w 37, 3) := by decide +kernel
theorem dX1_mixInto_32 : decode cX1_mixInto 32 = .ok (.lload_n 3, 1) := by decide +kernel
theorem dX1_mixInto_33 : decode cX1_mixInto 33 = .ok (.lmul, 1) := by decide +kernel
theorem dX1_mixInto_34 : decode cX1_mixInto 34 = .ok (.aload_n 0, 1) := by decide +kernel
theorem dX1_mixInto_35 : decode cX1_mixInto 35 = .ok (.getfield 15, 3) := by decide +kernel
theorem dX1_mixInto_38 : decode cX1_mixInto 38 = .ok (.iload 5, 2) := by decide +kernel
theorem dX1_mixInto_40 : decode cX1_mixInto 40 = .ok (.iaload, 1) := by decide +kernel
theorem dX1_mixInto_41 : decode cX1_mixInto 41 = .ok (.i2l, 1) := by decide +kernel
theorem dX1_mixInto_42 : decode cX1_mixInto 42 = .ok (.ladd, 1) := by decide +kernel
theorem dX1_mixInto_43 : decode cX1_mixInto 43 = .ok (.lstore_n 3, 1) := by decide +kernel
theorem dX1_mixInto_44 : decode cX1_mixInto 44 = .ok (.iinc 5 1, 3) := by decide +kernel
theorem dX1_mixInto_47 : decode cX1_mixInto 47 = .ok (.goto (-42), 3) := by decide +kernel
theorem dX1_mixInto_50 : decode cX1_mixInto 50 = .ok (.lload_n 3, 1) := by decide +kernel
theorem dX1_mixInto_51 : decode cX1_mixInto 51 = .ok (.lreturn, 1) := by decide +kernel
theorem dX2_init_0 : decode cX2_init 0 = .ok (.aload_n 0, 1) := by decide +kernel
theorem dX2_init_1 : decode cX2_init 1 = .ok (.invokespecial 3, 3) := by decide +kernel
theorem dX2_init_4 : decode cX2_init 4 = .ok (.aload_n 0, 1) := by decide +kernel
theorem dX2_init_5 : decode cX2_init 5 = .ok (.sipush 1000, 3) := by decide +kernel
theorem dX2_init_8 : decode cX2_init 8 = .ok (.putfield 9, 3) := by decide +kernel
theorem dX2_init_11 : decode cX2_init 11 = .ok (.aload_n 0, 1) := by decide +kernel
theorem dX2_init_12 : decode cX2_init 12 = .ok (.bipush 40, 2) := by decide +kernel
theorem dX2_init_14 : decode cX2_init 14 = .ok (.putfield 15, 3) := by decide +kernel
theorem dX2_init_17 : decode cX2_init 17 = .ok (.aload_n 0, 1) := by decide +kernel
theorem dX2_init_18 : decode cX2_init 18 = .ok (.bipush 60, 2) := by decide +kernel
theorem dX2_init_20 : decode cX2_init 20 = .ok (.putfield 18, 3) := by decide +kernel
theorem dX2_init_23 : decode cX2_init 23 = .ok (.aload_n 0, 1) := by decide +kernel
theorem dX2_init_24 : decode cX2_init 24 = .ok (.bipush 10, 2) := by decide +kernel
theorem dX2_init_26 : decode cX2_init 26 = .ok (.putfield 21, 3) := by decide +kernel
theorem dX2_init_29 : decode cX2_init 29 = .ok (.aload_n 0, 1) := by decide +kernel
theorem dX2_init_30 : decode cX2_init 30 = .ok (.iconst 2, 1) := by decide +kernel
theorem dX2_init_31 : decode cX2_init 31 = .ok (.putfield 24, 3) := by decide +kernel
theorem dX2_init_34 : decode cX2_init 34 = .ok (.aload_n 0, 1) := by decide +kernel
theorem dX2_init_35 : decode cX2_init 35 = .ok (.iconst 5, 1) := by decide +kernel
theorem dX2_init_36 : decode cX2_init 36 = .ok (.putfield 27, 3) := by decide +kernel
theorem dX2_init_39 : decode cX2_init 39 = .ok (.return_, 1) := by decide +kernel
theorem dX2_girthOfLayer_0 : decode cX2_girthOfLayer 0 = .ok (.aload_n 0, 1) := by decide +kernel
theorem dX2_girthOfLayer_1 : decode cX2_girthOfLayer 1 = .ok (.getfield 18, 3) := by decide +kernel
theorem dX2_girthOfLayer_4 : decode cX2_girthOfLayer 4 = .ok (.bipush 6, 2) := by decide +kernel
theorem dX2_girthOfLayer_6 : decode cX2_girthOfLayer 6 = .ok (.aload_n 0, 1) := by decide +kernel
theorem dX2_girthOfLayer_7 : decode cX2_girthOfLayer 7 = .ok (.getfield 24, 3) := by decide +kernel
theorem dX2_girthOfLayer_10 : decode cX2_girthOfLayer 10 = .ok (.imul, 1) := by decide +kernel
theorem dX2_girthOfLayer_11 : decode cX2_girthOfLayer 11 = .ok (.iload_n 1, 1) := by decide +kernel
theorem dX2_girthOfLayer_12 : decode cX2_girthOfLayer 12 = .ok (.imul, 1) := by decide +kernel
theorem dX2_girthOfLayer_13 : decode cX2_girthOfLayer 13 = .ok (.iadd, 1) := by decide +kernel
theorem dX2_girthOfLayer_14 : decode cX2_girthOfLayer 14 = .ok (.ireturn, 1) := by decide +kernel
theorem dX2_liftOf_0 : decode cX2_liftOf 0 = .ok (.iload_n 1, 1) := by decide +kernel
theorem dX2_liftOf_1 : decode cX2_liftOf 1 = .ok (.i2l, 1) := by decide +kernel
theorem dX2_liftOf_2 : decode cX2_liftOf 2 = .ok (.aload_n 0, 1) := by decide +kernel
theorem dX2_liftOf_3 : decode cX2_liftOf 3 = .ok (.getfield 15, 3) := by decide +kernel
theorem dX2_liftOf_6 : decode cX2_liftOf 6 = .ok (.i2l, 1) := by decide +kernel
theorem dX2_liftOf_7 : decode cX2_liftOf 7 = .ok (.invokestatic 30, 3) := by decide +kernel
theorem dX2_liftOf_10 : decode cX2_liftOf 10 = .ok (.l2i, 1) := by decide +kernel
theorem dX2_liftOf_11 : decode cX2_liftOf 11 = .ok (.istore_n 2, 1) := by decide +kernel
theorem dX2_liftOf_12 : decode cX2_liftOf 12 = .ok (.iload_n 2, 1) := by decide +kernel
theorem dX2_liftOf_13 : decode cX2_liftOf 13 = .ok (.i2l, 1) := by decide +kernel
theorem dX2_liftOf_14 : decode cX2_liftOf 14 = .ok (.aload_n 0, 1) := by decide +kernel
theorem dX2_liftOf_15 : decode cX2_liftOf 15 = .ok (.getfield 27, 3) := by decide +kernel
theorem dX2_liftOf_18 : decode cX2_liftOf 18 = .ok (.i2l, 1) := by decide +kernel
theorem dX2_liftOf_19 : decode cX2_liftOf 19 = .ok (.invokestatic 30, 3) := by decide +kernel
theorem dX2_liftOf_22 : decode cX2_liftOf 22 = .ok (.l2i, 1) := by decide +kernel
theorem dX2_liftOf_23 : decode cX2_liftOf 23 = .ok (.istore_n 3, 1) := by decide +kernel
theorem dX2_liftOf_24 : decode cX2_liftOf 24 = .ok (.aload_n 0, 1) := by decide +kernel
theorem dX2_liftOf_25 : decode cX2_liftOf 25 = .ok (.iload_n 3, 1) := by decide +kernel
theorem dX2_liftOf_26 : decode cX2_liftOf 26 = .ok (.invokevirtual 34, 3) := by decide +kernel
theorem dX2_liftOf_29 : decode cX2_liftOf 29 = .ok (.istore 4, 2) := by decide +kernel
theorem dX2_liftOf_31 : decode cX2_liftOf 31 = .ok (.iload_n 1, 1) := by decide +kernel
theorem dX2_liftOf_32 : decode cX2_liftOf 32 = .ok (.iload_n 2, 1) := by decide +kernel
theorem dX2_liftOf_33 : decode cX2_liftOf 33 = .ok (.aload_n 0, 1) := by decide +kernel
theorem dX2_liftOf_34 : decode cX2_liftOf 34 = .ok (.getfield 15, 3) := by decide +kernel
theorem dX2_liftOf_37 : decode cX2_liftOf 37 = .ok (.imul, 1) := by decide +kernel
theorem dX2_liftOf_38 : decode cX2_liftOf 38 = .ok (.isub, 1) := by decide +kernel
theorem dX2_liftOf_39 : decode cX2_liftOf 39 = .ok (.istore 5, 2) := by decide +kernel
theorem dX2_liftOf_41 : decode cX2_liftOf 41 = .ok (.aload_n 0, 1) := by decide +kernel
theorem dX2_liftOf_42 : decode cX2_liftOf 42 = .ok (.iload_n 3, 1) := by decide +kernel
theorem dX2_liftOf_43 : decode cX2_liftOf 43 = .ok (.invokevirtual 38, 3) := by decide +kernel
theorem dX2_liftOf_46 : decode cX2_liftOf 46 = .ok (.iload_n 2, 1) := by decide +kernel
theorem dX2_liftOf_47 : decode cX2_liftOf 47 = .ok (.iload_n 3, 1) := by decide +kernel
theorem dX2_liftOf_48 : decode cX2_liftOf 48 = .ok (.aload_n 0, 1) := by decide +kernel
theorem dX2_liftOf_49 : decode cX2_liftOf 49 = .ok (.getfield 27, 3) := by decide +kernel
theorem dX2_liftOf_52 : decode cX2_liftOf 52 = .ok (.imul, 1) := by decide +kernel
theorem dX2_liftOf_53 : decode cX2_liftOf 53 = .ok (.isub, 1) := by decide +kernel
theorem dX2_liftOf_54 : decode cX2_liftOf 54 = .ok (.iload 4, 2) := by decide +kernel
theorem dX2_liftOf_56 : decode cX2_liftOf 56 = .ok (.imul, 1) := by decide +kernel
theorem dX2_liftOf_57 : decode cX2_liftOf 57 = .ok (.iadd, 1) := by decide +kernel
theorem dX2_liftOf_58 : decode cX2_liftOf 58 = .ok (.iload 5, 2) := by decide +kernel
theorem dX2_liftOf_60 : decode cX2_liftOf 60 = .ok (.i2l, 1) := by decide +kernel
theorem dX2_liftOf_61 : decode cX2_liftOf 61 = .ok (.iload 4, 2) := by decide +kernel
theorem dX2_liftOf_63 : decode cX2_liftOf 63 = .ok (.i2l, 1) := by decide +kernel
theorem dX2_liftOf_64 : decode cX2_liftOf 64 = .ok (.lmul, 1) := by decide +kernel
theorem dX2_liftOf_65 : decode cX2_liftOf 65 = .ok (.aload_n 0, 1) := by decide +kernel
theorem dX2_liftOf_66 : decode cX2_liftOf 66 = .ok (.getfield 15, 3) := by decide +kernel
theorem dX2_liftOf_69 : decode cX2_liftOf 69 = .ok (.i2l, 1) := by decide +kernel
theorem dX2_liftOf_70 : decode cX2_liftOf 70 = .ok (.invokestatic 30, 3) := by decide +kernel
theorem dX2_liftOf_73 : decode cX2_liftOf 73 = .ok (.l2i, 1) := by decide +kernel
theorem dX2_liftOf_74 : decode cX2_liftOf 74 = .ok (.iadd, 1) := by decide +kernel
theorem dX2_liftOf_75 : decode cX2_liftOf 75 = .ok (.ireturn, 1) := by decide +kernel
theorem dX2_liftOfLayers_0 : decode cX2_liftOfLayers 0 = .ok (.aload_n 0, 1) := by decide +kernel
theorem dX2_liftOfLayers_1 : decode cX2_liftOfLayers 1 = .ok (.getfield 27, 3) := by decide +kernel
theorem dX2_liftOfLayers_4 : decode cX2_liftOfLayers 4 = .ok (.iload_n 1, 1) := by decide +kernel
theorem dX2_liftOfLayers_5 : decode cX2_liftOfLayers 5 = .ok (.aload_n 0, 1) := by decide +kernel
theorem dX2_liftOfLayers_6 : decode cX2_liftOfLayers 6 = .ok (.getfield 18, 3) := by decide +kernel
theorem dX2_liftOfLayers_9 : decode cX2_liftOfLayers 9 = .ok (.imul, 1) := by decide +kernel
theorem dX2_liftOfLayers_10 : decode cX2_liftOfLayers 10 = .ok (.iconst 3, 1) := by decide +kernel
theorem dX2_liftOfLayers_11 : decode cX2_liftOfLayers 11 = .ok (.aload_n 0, 1) := by decide +kernel
theorem dX2_liftOfLayers_12 : decode cX2_liftOfLayers 12 = .ok (.getfield 24, 3) := by decide +kernel
theorem dX2_liftOfLayers_15 : decode cX2_liftOfLayers 15 = .ok (.imul, 1) := by decide +kernel
theorem dX2_liftOfLayers_16 : decode cX2_liftOfLayers 16 = .ok (.iload_n 1, 1) := by decide +kernel
theorem dX2_liftOfLayers_17 : decode cX2_liftOfLayers 17 = .ok (.imul, 1) := by decide +kernel
theorem dX2_liftOfLayers_18 : decode cX2_liftOfLayers 18 = .ok (.iload_n 1, 1) := by decide +kernel
theorem dX2_liftOfLayers_19 : decode cX2_liftOfLayers 19 = .ok (.iconst 1, 1) := by decide +kernel
theorem dX2_liftOfLayers_20 : decode cX2_liftOfLayers 20 = .ok (.isub, 1) := by decide +kernel
theorem dX2_liftOfLayers_21 : decode cX2_liftOfLayers 21 = .ok (.imul, 1) := by decide +kernel
theorem dX2_liftOfLayers_22 : decode cX2_liftOfLayers 22 = .ok (.iadd, 1) := by decide +kernel
theorem dX2_liftOfLayers_23 : decode cX2_liftOfLayers 23 = .ok (.imul, 1) := by decide +kernel
theorem dX2_liftOfLayers_24 : decode cX2_liftOfLayers 24 = .ok (.ireturn, 1) := by decide +kernel
theorem dX2_stepsFor_0 : decode cX2_stepsFor 0 = .ok (.iload_n 1, 1) := by decide +kernel
theorem dX2_stepsFor_1 : decode cX2_stepsFor 1 = .ok (.ifCond .gt 5, 3) := by decide +kernel
theorem dX2_stepsFor_4 : decode cX2_stepsFor 4 = .ok (.iconst 0, 1) := by decide +kernel
theorem dX2_stepsFor_5 : decode cX2_stepsFor 5 = .ok (.ireturn, 1) := by decide +kernel
theorem dX2_stepsFor_6 : decode cX2_stepsFor 6 = .ok (.iconst 0, 1) := by decide +kernel
theorem dX2_stepsFor_7 : decode cX2_stepsFor 7 = .ok (.istore_n 2, 1) := by decide +kernel
theorem dX2_stepsFor_8 : decode cX2_stepsFor 8 = .ok (.iload_n 1, 1) := by decide +kernel
theorem dX2_stepsFor_9 : decode cX2_stepsFor 9 = .ok (.istore_n 3, 1) := by decide +kernel
theorem dX2_stepsFor_10 : decode cX2_stepsFor 10 = .ok (.iload_n 2, 1) := by decide +kernel
theorem dX2_stepsFor_11 : decode cX2_stepsFor 11 = .ok (.sipush 2000, 3) := by decide +kernel
theorem dX2_stepsFor_14 : decode cX2_stepsFor 14 = .ok (.if_icmp .gt 36, 3) := by decide +kernel
theorem dX2_stepsFor_17 : decode cX2_stepsFor 17 = .ok (.iload_n 3, 1) := by decide +kernel
theorem dX2_stepsFor_18 : decode cX2_stepsFor 18 = .ok (.aload_n 0, 1) := by decide +kernel
theorem dX2_stepsFor_19 : decode cX2_stepsFor 19 = .ok (.getfield 27, 3) := by decide +kernel
theorem dX2_stepsFor_22 : decode cX2_stepsFor 22 = .ok (.aload_n 0, 1) := by decide +kernel
theorem dX2_stepsFor_23 : decode cX2_stepsFor 23 = .ok (.iload_n 2, 1) := by decide +kernel
theorem dX2_stepsFor_24 : decode cX2_stepsFor 24 = .ok (.invokevirtual 34, 3) := by decide +kernel
theorem dX2_stepsFor_27 : decode cX2_stepsFor 27 = .ok (.imul, 1) := by decide +kernel
theorem dX2_stepsFor_28 : decode cX2_stepsFor 28 = .ok (.if_icmp .le 22, 3) := by decide +kernel
theorem dX2_stepsFor_31 : decode cX2_stepsFor 31 = .ok (.iload_n 3, 1) := by decide +kernel
theorem dX2_stepsFor_32 : decode cX2_stepsFor 32 = .ok (.aload_n 0, 1) := by decide +kernel
theorem dX2_stepsFor_33 : decode cX2_stepsFor 33 = .ok (.getfield 27, 3) := by decide +kernel
theorem dX2_stepsFor_36 : decode cX2_stepsFor 36 = .ok (.aload_n 0, 1) := by decide +kernel
theorem dX2_stepsFor_37 : decode cX2_stepsFor 37 = .ok (.iload_n 2, 1) := by decide +kernel
theorem dX2_stepsFor_38 : decode cX2_stepsFor 38 = .ok (.invokevirtual 34, 3) := by decide +kernel
theorem dX2_stepsFor_41 : decode cX2_stepsFor 41 = .ok (.imul, 1) := by decide +kernel
theorem dX2_stepsFor_42 : decode cX2_stepsFor 42 = .ok (.isub, 1) := by decide +kernel
theorem dX2_stepsFor_43 : decode cX2_stepsFor 43 = .ok (.istore_n 3, 1) := by decide +kernel
theorem dX2_stepsFor_44 : decode cX2_stepsFor 44 = .ok (.iinc 2 1, 3) := by decide +kernel
theorem dX2_stepsFor_47 : decode cX2_stepsFor 47 = .ok (.goto (-37), 3) := by decide +kernel
theorem dX2_stepsFor_50 : decode cX2_stepsFor 50 = .ok (.aload_n 0, 1) := by decide +kernel
theorem dX2_stepsFor_51 : decode cX2_stepsFor 51 = .ok (.iload_n 2, 1) := by decide +kernel
theorem dX2_stepsFor_52 : decode cX2_stepsFor 52 = .ok (.invokevirtual 34, 3) := by decide +kernel
theorem dX2_stepsFor_55 : decode cX2_stepsFor 55 = .ok (.istore 4, 2) := by decide +kernel
theorem dX2_stepsFor_57 : decode cX2_stepsFor 57 = .ok (.iload_n 3, 1) := by decide +kernel
theorem dX2_stepsFor_58 : decode cX2_stepsFor 58 = .ok (.iconst 1, 1) := by decide +kernel
theorem dX2_stepsFor_59 : decode cX2_stepsFor 59 = .ok (.isub, 1) := by decide +kernel
theorem dX2_stepsFor_60 : decode cX2_stepsFor 60 = .ok (.i2l, 1) := by decide +kernel
theorem dX2_stepsFor_61 : decode cX2_stepsFor 61 = .ok (.iload 4, 2) := by decide +kernel
theorem dX2_stepsFor_63 : decode cX2_stepsFor 63 = .ok (.i2l, 1) := by decide +kernel
theorem dX2_stepsFor_64 : decode cX2_stepsFor 64 = .ok (.invokestatic 30, 3) := by decide +kernel
theorem dX2_stepsFor_67 : decode cX2_stepsFor 67 = .ok (.l2i, 1) := by decide +kernel
theorem dX2_stepsFor_68 : decode cX2_stepsFor 68 = .ok (.istore 5, 2) := by decide +kernel
theorem dX2_stepsFor_70 : decode cX2_stepsFor 70 = .ok (.iload_n 3, 1) := by decide +kernel
theorem dX2_stepsFor_71 : decode cX2_stepsFor 71 = .ok (.iload 5, 2) := by decide +kernel
theorem dX2_stepsFor_73 : decode cX2_stepsFor 73 = .ok (.iload 4, 2) := by decide +kernel
theorem dX2_stepsFor_75 : decode cX2_stepsFor 75 = .ok (.imul, 1) := by decide +kernel
theorem dX2_stepsFor_76 : decode cX2_stepsFor 76 = .ok (.isub, 1) := by decide +kernel
theorem dX2_stepsFor_77 : decode cX2_stepsFor 77 = .ok (.istore_n 3, 1) := by decide +kernel
theorem dX2_stepsFor_78 : decode cX2_stepsFor 78 = .ok (.iload_n 3, 1) := by decide +kernel
theorem dX2_stepsFor_79 : decode cX2_stepsFor 79 = .ok (.i2l, 1) := by decide +kernel
theorem dX2_stepsFor_80 : decode cX2_stepsFor 80 = .ok (.aload_n 0, 1) := by decide +kernel
theorem dX2_stepsFor_81 : decode cX2_stepsFor 81 = .ok (.getfield 15, 3) := by decide +kernel
theorem dX2_stepsFor_84 : decode cX2_stepsFor 84 = .ok (.i2l, 1) := by decide +kernel
theorem dX2_stepsFor_85 : decode cX2_stepsFor 85 = .ok (.lmul, 1) := by decide +kernel
theorem dX2_stepsFor_86 : decode cX2_stepsFor 86 = .ok (.iload 4, 2) := by decide +kernel
theorem dX2_stepsFor_88 : decode cX2_stepsFor 88 = .ok (.i2l, 1) := by decide +kernel
theorem dX2_stepsFor_89 : decode cX2_stepsFor 89 = .ok (.ladd, 1) := by decide +kernel
theorem dX2_stepsFor_90 : decode cX2_stepsFor 90 = .ok (.lconst 1, 1) := by decide +kernel
theorem dX2_stepsFor_91 : decode cX2_stepsFor 91 = .ok (.lsub, 1) := by decide +kernel
theorem dX2_stepsFor_92 : decode cX2_stepsFor 92 = .ok (.iload 4, 2) := by decide +kernel
theorem dX2_stepsFor_94 : decode cX2_stepsFor 94 = .ok (.i2l, 1) := by decide +kernel
theorem dX2_stepsFor_95 : decode cX2_stepsFor 95 = .ok (.invokestatic 30, 3) := by decide +kernel
theorem dX2_stepsFor_98 : decode cX2_stepsFor 98 = .ok (.l2i, 1) := by decide +kernel
theorem dX2_stepsFor_99 : decode cX2_stepsFor 99 = .ok (.istore 6, 2) := by decide +kernel
theorem dX2_stepsFor_101 : decode cX2_stepsFor 101 = .ok (.iload_n 2, 1) := by decide +kernel
theorem dX2_stepsFor_102 : decode cX2_stepsFor 102 = .ok (.aload_n 0, 1) := by decide +kernel
theorem dX2_stepsFor_103 : decode cX2_stepsFor 103 = .ok (.getfield 27, 3) := by decide +kernel
theorem dX2_stepsFor_106 : decode cX2_stepsFor 106 = .ok (.imul, 1) := by decide +kernel
theorem dX2_stepsFor_107 : decode cX2_stepsFor 107 = .ok (.iload 5, 2) := by decide +kernel
theorem dX2_stepsFor_109 : decode cX2_stepsFor 109 = .ok (.iadd, 1) := by decide +kernel
theorem dX2_stepsFor_110 : decode cX2_stepsFor 110 = .ok (.aload_n 0, 1) := by decide +kernel
theorem dX2_stepsFor_111 : decode cX2_stepsFor 111 = .ok (.getfield 15, 3) := by decide +kernel
theorem dX2_stepsFor_114 : decode cX2_stepsFor 114 = .ok (.imul, 1) := by decide +kernel
theorem dX2_stepsFor_115 : decode cX2_stepsFor 115 = .ok (.iload 6, 2) := by decide +kernel
theorem dX2_stepsFor_117 : decode cX2_stepsFor 117 = .ok (.iadd, 1) := by decide +kernel
theorem dX2_stepsFor_118 : decode cX2_stepsFor 118 = .ok (.ireturn, 1) := by decide +kernel
theorem dX2_lastLayer_0 : decode cX2_lastLayer 0 = .ok (.iload_n 1, 1) := by decide +kernel
theorem dX2_lastLayer_1 : decode cX2_lastLayer 1 = .ok (.ifCond .gt 7, 3) := by decide +kernel
theorem dX2_lastLayer_4 : decode cX2_lastLayer 4 = .ok (.iconst 0, 1) := by decide +kernel
theorem dX2_lastLayer_5 : decode cX2_lastLayer 5 = .ok (.goto 21, 3) := by decide +kernel
theorem dX2_lastLayer_8 : decode cX2_lastLayer 8 = .ok (.iload_n 1, 1) := by decide +kernel
theorem dX2_lastLayer_9 : decode cX2_lastLayer 9 = .ok (.iconst 1, 1) := by decide +kernel
theorem dX2_lastLayer_10 : decode cX2_lastLayer 10 = .ok (.isub, 1) := by decide +kernel
theorem dX2_lastLayer_11 : decode cX2_lastLayer 11 = .ok (.i2l, 1) := by decide +kernel
theorem dX2_lastLayer_12 : decode cX2_lastLayer 12 = .ok (.aload_n 0, 1) := by decide +kernel
theorem dX2_lastLayer_13 : decode cX2_lastLayer 13 = .ok (.getfield 15, 3) := by decide +kernel
theorem dX2_lastLayer_16 : decode cX2_lastLayer 16 = .ok (.aload_n 0, 1) := by decide +kernel
theorem dX2_lastLayer_17 : decode cX2_lastLayer 17 = .ok (.getfield 27, 3) := by decide +kernel
theorem dX2_lastLayer_20 : decode cX2_lastLayer 20 = .ok (.imul, 1) := by decide +kernel
theorem dX2_lastLayer_21 : decode cX2_lastLayer 21 = .ok (.i2l, 1) := by decide +kernel
theorem dX2_lastLayer_22 : decode cX2_lastLayer 22 = .ok (.invokestatic 30, 3) := by decide +kernel
theorem dX2_lastLayer_25 : decode cX2_lastLayer 25 = .ok (.l2i, 1) := by decide +kernel
theorem dX2_lastLayer_26 : decode cX2_lastLayer 26 = .ok (.ireturn, 1) := by decide +kernel
theorem dX2_isTurnedBy_0 : decode cX2_isTurnedBy 0 = .ok (.iload_n 2, 1) := by decide +kernel
theorem dX2_isTurnedBy_1 : decode cX2_isTurnedBy 1 = .ok (.i2l, 1) := by decide +kernel
theorem dX2_isTurnedBy_2 : decode cX2_isTurnedBy 2 = .ok (.aload_n 0, 1) := by decide +kernel
theorem dX2_isTurnedBy_3 : decode cX2_isTurnedBy 3 = .ok (.aload_n 0, 1) := by decide +kernel
theorem dX2_isTurnedBy_4 : decode cX2_isTurnedBy 4 = .ok (.iload_n 3, 1) := by decide +kernel
theorem dX2_isTurnedBy_5 : decode cX2_isTurnedBy 5 = .ok (.invokevirtual 41, 3) := by decide +kernel
theorem dX2_isTurnedBy_8 : decode cX2_isTurnedBy 8 = .ok (.invokevirtual 34, 3) := by decide +kernel
theorem dX2_isTurnedBy_11 : decode cX2_isTurnedBy 11 = .ok (.i2l, 1) := by decide +kernel
theorem dX2_isTurnedBy_12 : decode cX2_isTurnedBy 12 = .ok (.lmul, 1) := by decide +kernel
theorem dX2_isTurnedBy_13 : decode cX2_isTurnedBy 13 = .ok (.bipush 100, 2) := by decide +kernel
theorem dX2_isTurnedBy_15 : decode cX2_isTurnedBy 15 = .ok (.aload_n 0, 1) := by decide +kernel
theorem dX2_isTurnedBy_16 : decode cX2_isTurnedBy 16 = .ok (.getfield 21, 3) := by decide +kernel
theorem dX2_isTurnedBy_19 : decode cX2_isTurnedBy 19 = .ok (.iadd, 1) := by decide +kernel
theorem dX2_isTurnedBy_20 : decode cX2_isTurnedBy 20 = .ok (.i2l, 1) := by decide +kernel
theorem dX2_isTurnedBy_21 : decode cX2_isTurnedBy 21 = .ok (.lmul, 1) := by decide +kernel
theorem dX2_isTurnedBy_22 : decode cX2_isTurnedBy 22 = .ok (.lstore 4, 2) := by decide +kernel
theorem dX2_isTurnedBy_24 : decode cX2_isTurnedBy 24 = .ok (.iload_n 1, 1) := by decide +kernel
theorem dX2_isTurnedBy_25 : decode cX2_isTurnedBy 25 = .ok (.i2l, 1) := by decide +kernel
theorem dX2_isTurnedBy_26 : decode cX2_isTurnedBy 26 = .ok (.aload_n 0, 1) := by decide +kernel
theorem dX2_isTurnedBy_27 : decode cX2_isTurnedBy 27 = .ok (.getfield 9, 3) := by decide +kernel
theorem dX2_isTurnedBy_30 : decode cX2_isTurnedBy 30 = .ok (.i2l, 1) := by decide +kernel
theorem dX2_isTurnedBy_31 : decode cX2_isTurnedBy 31 = .ok (.lmul, 1) := by decide +kernel
theorem dX2_isTurnedBy_32 : decode cX2_isTurnedBy 32 = .ok (.ldc2_w 44, 3) := by decide +kernel
theorem dX2_isTurnedBy_35 : decode cX2_isTurnedBy 35 = .ok (.lmul, 1) := by decide +kernel
theorem dX2_isTurnedBy_36 : decode cX2_isTurnedBy 36 = .ok (.lload 4, 2) := by decide +kernel
theorem dX2_isTurnedBy_38 : decode cX2_isTurnedBy 38 = .ok (.lcmp, 1) := by decide +kernel
theorem dX2_isTurnedBy_39 : decode cX2_isTurnedBy 39 = .ok (.ifCond .lt 7, 3) := by decide +kernel
theorem dX2_isTurnedBy_42 : decode cX2_isTurnedBy 42 = .ok (.iconst 1, 1) := by decide +kernel
theorem dX2_isTurnedBy_43 : decode cX2_isTurnedBy 43 = .ok (.goto 4, 3) := by decide +kernel
theorem dX2_isTurnedBy_46 : decode cX2_isTurnedBy 46 = .ok (.iconst 0, 1) := by decide +kernel
theorem dX2_isTurnedBy_47 : decode cX2_isTurnedBy 47 = .ok (.ireturn, 1) := by decide +kernel
theorem dX2_mixInto_0 : decode cX2_mixInto 0 = .ok (.ldc2_w 46, 3) := by decide +kernel
theorem dX2_mixInto_3 : decode cX2_mixInto 3 = .ok (.lload_n 1, 1) := by decide +kernel
theorem dX2_mixInto_4 : decode cX2_mixInto 4 = .ok (.lmul, 1) := by decide +kernel
theorem dX2_mixInto_5 : decode cX2_mixInto 5 = .ok (.aload_n 0, 1) := by decide +kernel
theorem dX2_mixInto_6 : decode cX2_mixInto 6 = .ok (.getfield 9, 3) := by decide +kernel
theorem dX2_mixInto_9 : decode cX2_mixInto 9 = .ok (.i2l, 1) := by decide +kernel
theorem dX2_mixInto_10 : decode cX2_mixInto 10 = .ok (.ladd, 1) := by decide +kernel
theorem dX2_mixInto_11 : decode cX2_mixInto 11 = .ok (.lstore_n 3, 1) := by decide +kernel
theorem dX2_mixInto_12 : decode cX2_mixInto 12 = .ok (.ldc2_w 46, 3) := by decide +kernel
theorem dX2_mixInto_15 : decode cX2_mixInto 15 = .ok (.lload_n 3, 1) := by decide +kernel
theorem dX2_mixInto_16 : decode cX2_mixInto 16 = .ok (.lmul, 1) := by decide +kernel
theorem dX2_mixInto_17 : decode cX2_mixInto 17 = .ok (.aload_n 0, 1) := by decide +kernel
theorem dX2_mixInto_18 : decode cX2_mixInto 18 = .ok (.getfield 15, 3) := by decide +kernel
theorem dX2_mixInto_21 : decode cX2_mixInto 21 = .ok (.i2l, 1) := by decide +kernel
theorem dX2_mixInto_22 : decode cX2_mixInto 22 = .ok (.ladd, 1) := by decide +kernel
theorem dX2_mixInto_23 : decode cX2_mixInto 23 = .ok (.lstore_n 3, 1) := by decide +kernel
theorem dX2_mixInto_24 : decode cX2_mixInto 24 = .ok (.ldc2_w 46, 3) := by decide +kernel
theorem dX2_mixInto_27 : decode cX2_mixInto 27 = .ok (.lload_n 3, 1) := by decide +kernel
theorem dX2_mixInto_28 : decode cX2_mixInto 28 = .ok (.lmul, 1) := by decide +kernel
theorem dX2_mixInto_29 : decode cX2_mixInto 29 = .ok (.aload_n 0, 1) := by decide +kernel
theorem dX2_mixInto_30 : decode cX2_mixInto 30 = .ok (.getfield 18, 3) := by decide +kernel
theorem dX2_mixInto_33 : decode cX2_mixInto 33 = .ok (.i2l, 1) := by decide +kernel
theorem dX2_mixInto_34 : decode cX2_mixInto 34 = .ok (.ladd, 1) := by decide +kernel
theorem dX2_mixInto_35 : decode cX2_mixInto 35 = .ok (.lstore_n 3, 1) := by decide +kernel
theorem dX2_mixInto_36 : decode cX2_mixInto 36 = .ok (.ldc2_w 46, 3) := by decide +kernel
theorem dX2_mixInto_39 : decode cX2_mixInto 39 = .ok (.lload_n 3, 1) := by decide +kernel
theorem dX2_mixInto_40 : decode cX2_mixInto 40 = .ok (.lmul, 1) := by decide +kernel
theorem dX2_mixInto_41 : decode cX2_mixInto 41 = .ok (.aload_n 0, 1) := by decide +kernel
theorem dX2_mixInto_42 : decode cX2_mixInto 42 = .ok (.getfield 21, 3) := by decide +kernel
theorem dX2_mixInto_45 : decode cX2_mixInto 45 = .ok (.i2l, 1) := by decide +kernel
theorem dX2_mixInto_46 : decode cX2_mixInto 46 = .ok (.ladd, 1) := by decide +kernel
theorem dX2_mixInto_47 : decode cX2_mixInto 47 = .ok (.lstore_n 3, 1) := by decide +kernel
theorem dX2_mixInto_48 : decode cX2_mixInto 48 = .ok (.ldc2_w 46, 3) := by decide +kernel
theorem dX2_mixInto_51 : decode cX2_mixInto 51 = .ok (.lload_n 3, 1) := by decide +kernel
theorem dX2_mixInto_52 : decode cX2_mixInto 52 = .ok (.lmul, 1) := by decide +kernel
theorem dX2_mixInto_53 : decode cX2_mixInto 53 = .ok (.aload_n 0, 1) := by decide +kernel
theorem dX2_mixInto_54 : decode cX2_mixInto 54 = .ok (.getfield 24, 3) := by decide +kernel
theorem dX2_mixInto_57 : decode cX2_mixInto 57 = .ok (.i2l, 1) := by decide +kernel
theorem dX2_mixInto_58 : decode cX2_mixInto 58 = .ok (.ladd, 1) := by decide +kernel
theorem dX2_mixInto_59 : decode cX2_mixInto 59 = .ok (.lstore_n 3, 1) := by decide +kernel
theorem dX2_mixInto_60 : decode cX2_mixInto 60 = .ok (.ldc2_w 46, 3) := by decide +kernel
theorem dX2_mixInto_63 : decode cX2_mixInto 63 = .ok (.lload_n 3, 1) := by decide +kernel
theorem dX2_mixInto_64 : decode cX2_mixInto 64 = .ok (.lmul, 1) := by decide +kernel
theorem dX2_mixInto_65 : decode cX2_mixInto 65 = .ok (.aload_n 0, 1) := by decide +kernel
theorem dX2_mixInto_66 : decode cX2_mixInto 66 = .ok (.getfield 27, 3) := by decide +kernel
theorem dX2_mixInto_69 : decode cX2_mixInto 69 = .ok (.i2l, 1) := by decide +kernel
theorem dX2_mixInto_70 : decode cX2_mixInto 70 = .ok (.ladd, 1) := by decide +kernel
theorem dX2_mixInto_71 : decode cX2_mixInto 71 = .ok (.lreturn, 1) := by decide +kernel
theorem dX3_init_0 : decode cX3_init 0 = .ok (.aload_n 0, 1) := by decide +kernel
theorem dX3_init_1 : decode cX3_init 1 = .ok (.invokespecial 3, 3) := by decide +kernel
theorem dX3_init_4 : decode cX3_init 4 = .ok (.aload_n 0, 1) := by decide +kernel
theorem dX3_init_5 : decode cX3_init 5 = .ok (.bipush 8, 2) := by decide +kernel
theorem dX3_init_7 : decode cX3_init 7 = .ok (.newarray .int, 2) := by decide +kernel
theorem dX3_init_9 : decode cX3_init 9 = .ok (.putfield 11, 3) := by decide +kernel
theorem dX3_init_12 : decode cX3_init 12 = .ok (.aload_n 0, 1) := by decide +kernel
theorem dX3_init_13 : decode cX3_init 13 = .ok (.bipush 8, 2) := by decide +kernel
theorem dX3_init_15 : decode cX3_init 15 = .ok (.newarray .int, 2) := by decide +kernel
theorem dX3_init_17 : decode cX3_init 17 = .ok (.putfield 15, 3) := by decide +kernel
theorem dX3_init_20 : decode cX3_init 20 = .ok (.return_, 1) := by decide +kernel
theorem dX3_append_0 : decode cX3_append 0 = .ok (.aload_n 0, 1) := by decide +kernel
theorem dX3_append_1 : decode cX3_append 1 = .ok (.getfield 18, 3) := by decide +kernel
theorem dX3_append_4 : decode cX3_append 4 = .ok (.bipush 8, 2) := by decide +kernel
theorem dX3_append_6 : decode cX3_append 6 = .ok (.if_icmp .lt 6, 3) := by decide +kernel
theorem dX3_append_9 : decode cX3_append 9 = .ok (.bipush (-4), 2) := by decide +kernel
theorem dX3_append_11 : decode cX3_append 11 = .ok (.ireturn, 1) := by decide +kernel
theorem dX3_append_12 : decode cX3_append 12 = .ok (.aload_n 0, 1) := by decide +kernel
theorem dX3_append_13 : decode cX3_append 13 = .ok (.getfield 11, 3) := by decide +kernel
theorem dX3_append_16 : decode cX3_append 16 = .ok (.aload_n 0, 1) := by decide +kernel
theorem dX3_append_17 : decode cX3_append 17 = .ok (.getfield 18, 3) := by decide +kernel
theorem dX3_append_20 : decode cX3_append 20 = .ok (.iload_n 1, 1) := by decide +kernel
theorem dX3_append_21 : decode cX3_append 21 = .ok (.iastore, 1) := by decide +kernel
theorem dX3_append_22 : decode cX3_append 22 = .ok (.aload_n 0, 1) := by decide +kernel
theorem dX3_append_23 : decode cX3_append 23 = .ok (.getfield 15, 3) := by decide +kernel
theorem dX3_append_26 : decode cX3_append 26 = .ok (.aload_n 0, 1) := by decide +kernel
theorem dX3_append_27 : decode cX3_append 27 = .ok (.getfield 18, 3) := by decide +kernel
theorem dX3_append_30 : decode cX3_append 30 = .ok (.iload_n 2, 1) := by decide +kernel
theorem dX3_append_31 : decode cX3_append 31 = .ok (.iastore, 1) := by decide +kernel
theorem dX3_append_32 : decode cX3_append 32 = .ok (.aload_n 0, 1) := by decide +kernel
theorem dX3_append_33 : decode cX3_append 33 = .ok (.dup, 1) := by decide +kernel
theorem dX3_append_34 : decode cX3_append 34 = .ok (.getfield 18, 3) := by decide +kernel
theorem dX3_append_37 : decode cX3_append 37 = .ok (.iconst 1, 1) := by decide +kernel
theorem dX3_append_38 : decode cX3_append 38 = .ok (.iadd, 1) := by decide +kernel
theorem dX3_append_39 : decode cX3_append 39 = .ok (.putfield 18, 3) := by decide +kernel
theorem dX3_append_42 : decode cX3_append 42 = .ok (.aload_n 0, 1) := by decide +kernel
theorem dX3_append_43 : decode cX3_append 43 = .ok (.getfield 18, 3) := by decide +kernel
theorem dX3_append_46 : decode cX3_append 46 = .ok (.ireturn, 1) := by decide +kernel
theorem dX3_after_0 : decode cX3_after 0 = .ok (.iload_n 1, 1) := by decide +kernel
theorem dX3_after_1 : decode cX3_after 1 = .ok (.iconst 1, 1) := by decide +kernel
theorem dX3_after_2 : decode cX3_after 2 = .ok (.iadd, 1) := by decide +kernel
theorem dX3_after_3 : decode cX3_after 3 = .ok (.aload_n 0, 1) := by decide +kernel
theorem dX3_after_4 : decode cX3_after 4 = .ok (.getfield 18, 3) := by decide +kernel
theorem dX3_after_7 : decode cX3_after 7 = .ok (.if_icmp .ge 9, 3) := by decide +kernel
theorem dX3_after_10 : decode cX3_after 10 = .ok (.iload_n 1, 1) := by decide +kernel
theorem dX3_after_11 : decode cX3_after 11 = .ok (.iconst 1, 1) := by decide +kernel
theorem dX3_after_12 : decode cX3_after 12 = .ok (.iadd, 1) := by decide +kernel
theorem dX3_after_13 : decode cX3_after 13 = .ok (.goto 4, 3) := by decide +kernel
theorem dX3_after_16 : decode cX3_after 16 = .ok (.iconst 0, 1) := by decide +kernel
theorem dX3_after_17 : decode cX3_after 17 = .ok (.ireturn, 1) := by decide +kernel
theorem dX3_cross_0 : decode cX3_cross 0 = .ok (.aload_n 0, 1) := by decide +kernel
theorem dX3_cross_1 : decode cX3_cross 1 = .ok (.iload_n 1, 1) := by decide +kernel
theorem dX3_cross_2 : decode cX3_cross 2 = .ok (.invokevirtual 22, 3) := by decide +kernel
theorem dX3_cross_5 : decode cX3_cross 5 = .ok (.istore_n 2, 1) := by decide +kernel
theorem dX3_cross_6 : decode cX3_cross 6 = .ok (.aload_n 0, 1) := by decide +kernel
theorem dX3_cross_7 : decode cX3_cross 7 = .ok (.getfield 11, 3) := by decide +kernel
theorem dX3_cross_10 : decode cX3_cross 10 = .ok (.iload_n 1, 1) := by decide +kernel
theorem dX3_cross_11 : decode cX3_cross 11 = .ok (.iaload, 1) := by decide +kernel
theorem dX3_cross_12 : decode cX3_cross 12 = .ok (.i2l, 1) := by decide +kernel
theorem dX3_cross_13 : decode cX3_cross 13 = .ok (.aload_n 0, 1) := by decide +kernel
theorem dX3_cross_14 : decode cX3_cross 14 = .ok (.getfield 15, 3) := by decide +kernel
theorem dX3_cross_17 : decode cX3_cross 17 = .ok (.iload_n 2, 1) := by decide +kernel
theorem dX3_cross_18 : decode cX3_cross 18 = .ok (.iaload, 1) := by decide +kernel
theorem dX3_cross_19 : decode cX3_cross 19 = .ok (.i2l, 1) := by decide +kernel
theorem dX3_cross_20 : decode cX3_cross 20 = .ok (.lmul, 1) := by decide +kernel
theorem dX3_cross_21 : decode cX3_cross 21 = .ok (.aload_n 0, 1) := by decide +kernel
theorem dX3_cross_22 : decode cX3_cross 22 = .ok (.getfield 11, 3) := by decide +kernel
theorem dX3_cross_25 : decode cX3_cross 25 = .ok (.iload_n 2, 1) := by decide +kernel
theorem dX3_cross_26 : decode cX3_cross 26 = .ok (.iaload, 1) := by decide +kernel
theorem dX3_cross_27 : decode cX3_cross 27 = .ok (.i2l, 1) := by decide +kernel
theorem dX3_cross_28 : decode cX3_cross 28 = .ok (.aload_n 0, 1) := by decide +kernel
theorem dX3_cross_29 : decode cX3_cross 29 = .ok (.getfield 15, 3) := by decide +kernel
theorem dX3_cross_32 : decode cX3_cross 32 = .ok (.iload_n 1, 1) := by decide +kernel
theorem dX3_cross_33 : decode cX3_cross 33 = .ok (.iaload, 1) := by decide +kernel
theorem dX3_cross_34 : decode cX3_cross 34 = .ok (.i2l, 1) := by decide +kernel
theorem dX3_cross_35 : decode cX3_cross 35 = .ok (.lmul, 1) := by decide +kernel
theorem dX3_cross_36 : decode cX3_cross 36 = .ok (.lsub, 1) := by decide +kernel
theorem dX3_cross_37 : decode cX3_cross 37 = .ok (.lreturn, 1) := by decide +kernel
theorem dX3_twiceArea_0 : decode cX3_twiceArea 0 = .ok (.lconst 0, 1) := by decide +kernel
theorem dX3_twiceArea_1 : decode cX3_twiceArea 1 = .ok (.lstore_n 1, 1) := by decide +kernel
theorem dX3_twiceArea_2 : decode cX3_twiceArea 2 = .ok (.iconst 0, 1) := by decide +kernel
theorem dX3_twiceArea_3 : decode cX3_twiceArea 3 = .ok (.istore_n 3, 1) := by decide +kernel
theorem dX3_twiceArea_4 : decode cX3_twiceArea 4 = .ok (.iload_n 3, 1) := by decide +kernel
theorem dX3_twiceArea_5 : decode cX3_twiceArea 5 = .ok (.aload_n 0, 1) := by decide +kernel
theorem dX3_twiceArea_6 : decode cX3_twiceArea 6 = .ok (.getfield 18, 3) := by decide +kernel
theorem dX3_twiceArea_9 : decode cX3_twiceArea 9 = .ok (.if_icmp .ge 17, 3) := by decide +kernel
theorem dX3_twiceArea_12 : decode cX3_twiceArea 12 = .ok (.lload_n 1, 1) := by decide +kernel
theorem dX3_twiceArea_13 : decode cX3_twiceArea 13 = .ok (.aload_n 0, 1) := by decide +kernel
theorem dX3_twiceArea_14 : decode cX3_twiceArea 14 = .ok (.iload_n 3, 1) := by decide +kernel
theorem dX3_twiceArea_15 : decode cX3_twiceArea 15 = .ok (.invokevirtual 26, 3) := by decide +kernel
theorem dX3_twiceArea_18 : decode cX3_twiceArea 18 = .ok (.ladd, 1) := by decide +kernel
theorem dX3_twiceArea_19 : decode cX3_twiceArea 19 = .ok (.lstore_n 1, 1) := by decide +kernel
theorem dX3_twiceArea_20 : decode cX3_twiceArea 20 = .ok (.iinc 3 1, 3) := by decide +kernel
theorem dX3_twiceArea_23 : decode cX3_twiceArea 23 = .ok (.goto (-19), 3) := by decide +kernel
theorem dX3_twiceArea_26 : decode cX3_twiceArea 26 = .ok (.lload_n 1, 1) := by decide +kernel
theorem dX3_twiceArea_27 : decode cX3_twiceArea 27 = .ok (.lreturn, 1) := by decide +kernel
theorem dX3_hasMiddle_0 : decode cX3_hasMiddle 0 = .ok (.aload_n 0, 1) := by decide +kernel
theorem dX3_hasMiddle_1 : decode cX3_hasMiddle 1 = .ok (.getfield 18, 3) := by decide +kernel
theorem dX3_hasMiddle_4 : decode cX3_hasMiddle 4 = .ok (.iconst 3, 1) := by decide +kernel
theorem dX3_hasMiddle_5 : decode cX3_hasMiddle 5 = .ok (.if_icmp .lt 16, 3) := by decide +kernel
theorem dX3_hasMiddle_8 : decode cX3_hasMiddle 8 = .ok (.aload_n 0, 1) := by decide +kernel
theorem dX3_hasMiddle_9 : decode cX3_hasMiddle 9 = .ok (.invokevirtual 30, 3) := by decide +kernel
theorem dX3_hasMiddle_12 : decode cX3_hasMiddle 12 = .ok (.lconst 0, 1) := by decide +kernel
theorem dX3_hasMiddle_13 : decode cX3_hasMiddle 13 = .ok (.lcmp, 1) := by decide +kernel
theorem dX3_hasMiddle_14 : decode cX3_hasMiddle 14 = .ok (.ifCond .eq 7, 3) := by decide +kernel
theorem dX3_hasMiddle_17 : decode cX3_hasMiddle 17 = .ok (.iconst 1, 1) := by decide +kernel
theorem dX3_hasMiddle_18 : decode cX3_hasMiddle 18 = .ok (.goto 4, 3) := by decide +kernel
theorem dX3_hasMiddle_21 : decode cX3_hasMiddle 21 = .ok (.iconst 0, 1) := by decide +kernel
theorem dX3_hasMiddle_22 : decode cX3_hasMiddle 22 = .ok (.ireturn, 1) := by decide +kernel
theorem dX3_middleX_0 : decode cX3_middleX 0 = .ok (.aload_n 0, 1) := by decide +kernel
theorem dX3_middleX_1 : decode cX3_middleX 1 = .ok (.aload_n 0, 1) := by decide +kernel
theorem dX3_middleX_2 : decode cX3_middleX 2 = .ok (.getfield 11, 3) := by decide +kernel
theorem dX3_middleX_5 : decode cX3_middleX 5 = .ok (.invokevirtual 34, 3) := by decide +kernel
theorem dX3_middleX_8 : decode cX3_middleX 8 = .ok (.lreturn, 1) := by decide +kernel
theorem dX3_middleY_0 : decode cX3_middleY 0 = .ok (.aload_n 0, 1) := by decide +kernel
theorem dX3_middleY_1 : decode cX3_middleY 1 = .ok (.aload_n 0, 1) := by decide +kernel
theorem dX3_middleY_2 : decode cX3_middleY 2 = .ok (.getfield 15, 3) := by decide +kernel
theorem dX3_middleY_5 : decode cX3_middleY 5 = .ok (.invokevirtual 34, 3) := by decide +kernel
theorem dX3_middleY_8 : decode cX3_middleY 8 = .ok (.lreturn, 1) := by decide +kernel
theorem dX3_middleBelow_0 : decode cX3_middleBelow 0 = .ok (.ldc2_w 38, 3) := by decide +kernel
theorem dX3_middleBelow_3 : decode cX3_middleBelow 3 = .ok (.aload_n 0, 1) := by decide +kernel
theorem dX3_middleBelow_4 : decode cX3_middleBelow 4 = .ok (.invokevirtual 30, 3) := by decide +kernel
theorem dX3_middleBelow_7 : decode cX3_middleBelow 7 = .ok (.invokestatic 40, 3) := by decide +kernel
theorem dX3_middleBelow_10 : decode cX3_middleBelow 10 = .ok (.lmul, 1) := by decide +kernel
theorem dX3_middleBelow_11 : decode cX3_middleBelow 11 = .ok (.lreturn, 1) := by decide +kernel
theorem dX3_middleAbove_0 : decode cX3_middleAbove 0 = .ok (.lconst 0, 1) := by decide +kernel
theorem dX3_middleAbove_1 : decode cX3_middleAbove 1 = .ok (.lstore_n 2, 1) := by decide +kernel
theorem dX3_middleAbove_2 : decode cX3_middleAbove 2 = .ok (.iconst 0, 1) := by decide +kernel
theorem dX3_middleAbove_3 : decode cX3_middleAbove 3 = .ok (.istore 4, 2) := by decide +kernel
theorem dX3_middleAbove_5 : decode cX3_middleAbove 5 = .ok (.iload 4, 2) := by decide +kernel
theorem dX3_middleAbove_7 : decode cX3_middleAbove 7 = .ok (.aload_n 0, 1) := by decide +kernel
theorem dX3_middleAbove_8 : decode cX3_middleAbove 8 = .ok (.getfield 18, 3) := by decide +kernel
theorem dX3_middleAbove_11 : decode cX3_middleAbove 11 = .ok (.if_icmp .ge 33, 3) := by decide +kernel
theorem dX3_middleAbove_14 : decode cX3_middleAbove 14 = .ok (.lload_n 2, 1) := by decide +kernel
theorem dX3_middleAbove_15 : decode cX3_middleAbove 15 = .ok (.aload_n 1, 1) := by decide +kernel
theorem dX3_middleAbove_16 : decode cX3_middleAbove 16 = .ok (.iload 4, 2) := by decide +kernel
theorem dX3_middleAbove_18 : decode cX3_middleAbove 18 = .ok (.iaload, 1) := by decide +kernel
theorem dX3_middleAbove_19 : decode cX3_middleAbove 19 = .ok (.aload_n 1, 1) := by decide +kernel
theorem dX3_middleAbove_20 : decode cX3_middleAbove 20 = .ok (.aload_n 0, 1) := by decide +kernel
theorem dX3_middleAbove_21 : decode cX3_middleAbove 21 = .ok (.iload 4, 2) := by decide +kernel
theorem dX3_middleAbove_23 : decode cX3_middleAbove 23 = .ok (.invokevirtual 22, 3) := by decide +kernel
theorem dX3_middleAbove_26 : decode cX3_middleAbove 26 = .ok (.iaload, 1) := by decide +kernel
theorem dX3_middleAbove_27 : decode cX3_middleAbove 27 = .ok (.iadd, 1) := by decide +kernel
theorem dX3_middleAbove_28 : decode cX3_middleAbove 28 = .ok (.i2l, 1) := by decide +kernel
theorem dX3_middleAbove_29 : decode cX3_middleAbove 29 = .ok (.aload_n 0, 1) := by decide +kernel
theorem dX3_middleAbove_30 : decode cX3_middleAbove 30 = .ok (.iload 4, 2) := by decide +kernel
theorem dX3_middleAbove_32 : decode cX3_middleAbove 32 = .ok (.invokevirtual 26, 3) := by decide +kernel
theorem dX3_middleAbove_35 : decode cX3_middleAbove 35 = .ok (.lmul, 1) := by decide +kernel
theorem dX3_middleAbove_36 : decode cX3_middleAbove 36 = .ok (.ladd, 1) := by decide +kernel
theorem dX3_middleAbove_37 : decode cX3_middleAbove 37 = .ok (.lstore_n 2, 1) := by decide +kernel
theorem dX3_middleAbove_38 : decode cX3_middleAbove 38 = .ok (.iinc 4 1, 3) := by decide +kernel
theorem dX3_middleAbove_41 : decode cX3_middleAbove 41 = .ok (.goto (-36), 3) := by decide +kernel
theorem dX3_middleAbove_44 : decode cX3_middleAbove 44 = .ok (.aload_n 0, 1) := by decide +kernel
theorem dX3_middleAbove_45 : decode cX3_middleAbove 45 = .ok (.invokevirtual 30, 3) := by decide +kernel
theorem dX3_middleAbove_48 : decode cX3_middleAbove 48 = .ok (.lconst 0, 1) := by decide +kernel
theorem dX3_middleAbove_49 : decode cX3_middleAbove 49 = .ok (.lcmp, 1) := by decide +kernel
theorem dX3_middleAbove_50 : decode cX3_middleAbove 50 = .ok (.ifCond .ge 8, 3) := by decide +kernel
theorem dX3_middleAbove_53 : decode cX3_middleAbove 53 = .ok (.lload_n 2, 1) := by decide +kernel
theorem dX3_middleAbove_54 : decode cX3_middleAbove 54 = .ok (.lneg, 1) := by decide +kernel
theorem dX3_middleAbove_55 : decode cX3_middleAbove 55 = .ok (.goto 4, 3) := by decide +kernel
theorem dX3_middleAbove_58 : decode cX3_middleAbove 58 = .ok (.lload_n 2, 1) := by decide +kernel
theorem dX3_middleAbove_59 : decode cX3_middleAbove 59 = .ok (.lreturn, 1) := by decide +kernel
theorem dX3_tiltAbove_0 : decode cX3_tiltAbove 0 = .ok (.ldc2_w 46, 3) := by decide +kernel
theorem dX3_tiltAbove_3 : decode cX3_tiltAbove 3 = .ok (.aload_n 0, 1) := by decide +kernel
theorem dX3_tiltAbove_4 : decode cX3_tiltAbove 4 = .ok (.invokevirtual 48, 3) := by decide +kernel
theorem dX3_tiltAbove_7 : decode cX3_tiltAbove 7 = .ok (.lmul, 1) := by decide +kernel
theorem dX3_tiltAbove_8 : decode cX3_tiltAbove 8 = .ok (.aload_n 0, 1) := by decide +kernel
theorem dX3_tiltAbove_9 : decode cX3_tiltAbove 9 = .ok (.invokevirtual 51, 3) := by decide +kernel
theorem dX3_tiltAbove_12 : decode cX3_tiltAbove 12 = .ok (.iload_n 1, 1) := by decide +kernel
theorem dX3_tiltAbove_13 : decode cX3_tiltAbove 13 = .ok (.iload_n 2, 1) := by decide +kernel
theorem dX3_tiltAbove_14 : decode cX3_tiltAbove 14 = .ok (.iadd, 1) := by decide +kernel
theorem dX3_tiltAbove_15 : decode cX3_tiltAbove 15 = .ok (.i2l, 1) := by decide +kernel
theorem dX3_tiltAbove_16 : decode cX3_tiltAbove 16 = .ok (.lmul, 1) := by decide +kernel
theorem dX3_tiltAbove_17 : decode cX3_tiltAbove 17 = .ok (.lsub, 1) := by decide +kernel
theorem dX3_tiltAbove_18 : decode cX3_tiltAbove 18 = .ok (.lreturn, 1) := by decide +kernel
theorem dX3_hangsSteady_0 : decode cX3_hangsSteady 0 = .ok (.aload_n 0, 1) := by decide +kernel
theorem dX3_hangsSteady_1 : decode cX3_hangsSteady 1 = .ok (.invokevirtual 51, 3) := by decide +kernel
theorem dX3_hangsSteady_4 : decode cX3_hangsSteady 4 = .ok (.lstore 5, 2) := by decide +kernel
theorem dX3_hangsSteady_6 : decode cX3_hangsSteady 6 = .ok (.aload_n 0, 1) := by decide +kernel
theorem dX3_hangsSteady_7 : decode cX3_hangsSteady 7 = .ok (.invokevirtual 48, 3) := by decide +kernel
theorem dX3_hangsSteady_10 : decode cX3_hangsSteady 10 = .ok (.lstore 7, 2) := by decide +kernel
theorem dX3_hangsSteady_12 : decode cX3_hangsSteady 12 = .ok (.iload_n 1, 1) := by decide +kernel
theorem dX3_hangsSteady_13 : decode cX3_hangsSteady 13 = .ok (.iload_n 3, 1) := by decide +kernel
theorem dX3_hangsSteady_14 : decode cX3_hangsSteady 14 = .ok (.invokestatic 54, 3) := by decide +kernel
theorem dX3_hangsSteady_17 : decode cX3_hangsSteady 17 = .ok (.i2l, 1) := by decide +kernel
theorem dX3_hangsSteady_18 : decode cX3_hangsSteady 18 = .ok (.lload 5, 2) := by decide +kernel
theorem dX3_hangsSteady_20 : decode cX3_hangsSteady 20 = .ok (.lmul, 1) := by decide +kernel
theorem dX3_hangsSteady_21 : decode cX3_hangsSteady 21 = .ok (.lload 7, 2) := by decide +kernel
theorem dX3_hangsSteady_23 : decode cX3_hangsSteady 23 = .ok (.lcmp, 1) := by decide +kernel
theorem dX3_hangsSteady_24 : decode cX3_hangsSteady 24 = .ok (.ifCond .gt 40, 3) := by decide +kernel
theorem dX3_hangsSteady_27 : decode cX3_hangsSteady 27 = .ok (.lload 7, 2) := by decide +kernel
theorem dX3_hangsSteady_29 : decode cX3_hangsSteady 29 = .ok (.iload_n 1, 1) := by decide +kernel
theorem dX3_hangsSteady_30 : decode cX3_hangsSteady 30 = .ok (.iload_n 3, 1) := by decide +kernel
theorem dX3_hangsSteady_31 : decode cX3_hangsSteady 31 = .ok (.invokestatic 58, 3) := by decide +kernel
theorem dX3_hangsSteady_34 : decode cX3_hangsSteady 34 = .ok (.i2l, 1) := by decide +kernel
theorem dX3_hangsSteady_35 : decode cX3_hangsSteady 35 = .ok (.lload 5, 2) := by decide +kernel
theorem dX3_hangsSteady_37 : decode cX3_hangsSteady 37 = .ok (.lmul, 1) := by decide +kernel
theorem dX3_hangsSteady_38 : decode cX3_hangsSteady 38 = .ok (.lcmp, 1) := by decide +kernel
theorem dX3_hangsSteady_39 : decode cX3_hangsSteady 39 = .ok (.ifCond .gt 25, 3) := by decide +kernel
theorem dX3_hangsSteady_42 : decode cX3_hangsSteady 42 = .ok (.aload_n 0, 1) := by decide +kernel
theorem dX3_hangsSteady_43 : decode cX3_hangsSteady 43 = .ok (.invokevirtual 61, 3) := by decide +kernel
theorem dX3_hangsSteady_46 : decode cX3_hangsSteady 46 = .ok (.iload_n 2, 1) := by decide +kernel
theorem dX3_hangsSteady_47 : decode cX3_hangsSteady 47 = .ok (.iload 4, 2) := by decide +kernel
theorem dX3_hangsSteady_49 : decode cX3_hangsSteady 49 = .ok (.invokestatic 54, 3) := by decide +kernel
theorem dX3_hangsSteady_52 : decode cX3_hangsSteady 52 = .ok (.i2l, 1) := by decide +kernel
theorem dX3_hangsSteady_53 : decode cX3_hangsSteady 53 = .ok (.lload 5, 2) := by decide +kernel
theorem dX3_hangsSteady_55 : decode cX3_hangsSteady 55 = .ok (.lmul, 1) := by decide +kernel
theorem dX3_hangsSteady_56 : decode cX3_hangsSteady 56 = .ok (.lcmp, 1) := by decide +kernel
theorem dX3_hangsSteady_57 : decode cX3_hangsSteady 57 = .ok (.ifCond .ge 7, 3) := by decide +kernel
theorem dX3_hangsSteady_60 : decode cX3_hangsSteady 60 = .ok (.iconst 1, 1) := by decide +kernel
theorem dX3_hangsSteady_61 : decode cX3_hangsSteady 61 = .ok (.goto 4, 3) := by decide +kernel
theorem dX3_hangsSteady_64 : decode cX3_hangsSteady 64 = .ok (.iconst 0, 1) := by decide +kernel
theorem dX3_hangsSteady_65 : decode cX3_hangsSteady 65 = .ok (.ireturn, 1) := by decide +kernel
theorem dX3_bestHoles_0 : decode cX3_bestHoles 0 = .ok (.iconst (-1), 1) := by decide +kernel
theorem dX3_bestHoles_1 : decode cX3_bestHoles 1 = .ok (.istore_n 1, 1) := by decide +kernel
theorem dX3_bestHoles_2 : decode cX3_bestHoles 2 = .ok (.lconst 0, 1) := by decide +kernel
theorem dX3_bestHoles_3 : decode cX3_bestHoles 3 = .ok (.lstore_n 2, 1) := by decide +kernel
theorem dX3_bestHoles_4 : decode cX3_bestHoles 4 = .ok (.iconst 0, 1) := by decide +kernel
theorem dX3_bestHoles_5 : decode cX3_bestHoles 5 = .ok (.istore 4, 2) := by decide +kernel
theorem dX3_bestHoles_7 : decode cX3_bestHoles 7 = .ok (.iload 4, 2) := by decide +kernel
theorem dX3_bestHoles_9 : decode cX3_bestHoles 9 = .ok (.aload_n 0, 1) := by decide +kernel
theorem dX3_bestHoles_10 : decode cX3_bestHoles 10 = .ok (.getfield 18, 3) := by decide +kernel
theorem dX3_bestHoles_13 : decode cX3_bestHoles 13 = .ok (.if_icmp .ge 124, 3) := by decide +kernel
theorem dX3_bestHoles_16 : decode cX3_bestHoles 16 = .ok (.iload 4, 2) := by decide +kernel
theorem dX3_bestHoles_18 : decode cX3_bestHoles 18 = .ok (.iconst 1, 1) := by decide +kernel
theorem dX3_bestHoles_19 : decode cX3_bestHoles 19 = .ok (.iadd, 1) := by decide +kernel
theorem dX3_bestHoles_20 : decode cX3_bestHoles 20 = .ok (.istore 5, 2) := by decide +kernel
theorem dX3_bestHoles_22 : decode cX3_bestHoles 22 = .ok (.iload 5, 2) := by decide +kernel
theorem dX3_bestHoles_24 : decode cX3_bestHoles 24 = .ok (.aload_n 0, 1) := by decide +kernel
theorem dX3_bestHoles_25 : decode cX3_bestHoles 25 = .ok (.getfield 18, 3) := by decide +kernel
theorem dX3_bestHoles_28 : decode cX3_bestHoles 28 = .ok (.if_icmp .ge 103, 3) := by decide +kernel
theorem dX3_bestHoles_31 : decode cX3_bestHoles 31 = .ok (.aload_n 0, 1) := by decide +kernel
theorem dX3_bestHoles_32 : decode cX3_bestHoles 32 = .ok (.aload_n 0, 1) := by decide +kernel
theorem dX3_bestHoles_33 : decode cX3_bestHoles 33 = .ok (.getfield 11, 3) := by decide +kernel
theorem dX3_bestHoles_36 : decode cX3_bestHoles 36 = .ok (.iload 4, 2) := by decide +kernel
theorem dX3_bestHoles_38 : decode cX3_bestHoles 38 = .ok (.iaload, 1) := by decide +kernel
theorem dX3_bestHoles_39 : decode cX3_bestHoles 39 = .ok (.aload_n 0, 1) := by decide +kernel
theorem dX3_bestHoles_40 : decode cX3_bestHoles 40 = .ok (.getfield 11, 3) := by decide +kernel
theorem dX3_bestHoles_43 : decode cX3_bestHoles 43 = .ok (.iload 5, 2) := by decide +kernel
theorem dX3_bestHoles_45 : decode cX3_bestHoles 45 = .ok (.iaload, 1) := by decide +kernel
theorem dX3_bestHoles_46 : decode cX3_bestHoles 46 = .ok (.invokevirtual 64, 3) := by decide +kernel
theorem dX3_bestHoles_49 : decode cX3_bestHoles 49 = .ok (.invokestatic 40, 3) := by decide +kernel
theorem dX3_bestHoles_52 : decode cX3_bestHoles 52 = .ok (.lstore 6, 2) := by decide +kernel
theorem dX3_bestHoles_54 : decode cX3_bestHoles 54 = .ok (.iload_n 1, 1) := by decide +kernel
theorem dX3_bestHoles_55 : decode cX3_bestHoles 55 = .ok (.iconst (-1), 1) := by decide +kernel
theorem dX3_bestHoles_56 : decode cX3_bestHoles 56 = .ok (.if_icmp .eq 10, 3) := by decide +kernel
theorem dX3_bestHoles_59 : decode cX3_bestHoles 59 = .ok (.lload 6, 2) := by decide +kernel
theorem dX3_bestHoles_61 : decode cX3_bestHoles 61 = .ok (.lload_n 2, 1) := by decide +kernel
theorem dX3_bestHoles_62 : decode cX3_bestHoles 62 = .ok (.lcmp, 1) := by decide +kernel
theorem dX3_bestHoles_63 : decode cX3_bestHoles 63 = .ok (.ifCond .ge 7, 3) := by decide +kernel
theorem dX3_bestHoles_66 : decode cX3_bestHoles 66 = .ok (.iconst 1, 1) := by decide +kernel
theorem dX3_bestHoles_67 : decode cX3_bestHoles 67 = .ok (.goto 4, 3) := by decide +kernel
theorem dX3_bestHoles_70 : decode cX3_bestHoles 70 = .ok (.iconst 0, 1) := by decide +kernel
theorem dX3_bestHoles_71 : decode cX3_bestHoles 71 = .ok (.istore 8, 2) := by decide +kernel
theorem dX3_bestHoles_73 : decode cX3_bestHoles 73 = .ok (.iload 8, 2) := by decide +kernel
theorem dX3_bestHoles_75 : decode cX3_bestHoles 75 = .ok (.ifCond .eq 50, 3) := by decide +kernel
theorem dX3_bestHoles_78 : decode cX3_bestHoles 78 = .ok (.aload_n 0, 1) := by decide +kernel
theorem dX3_bestHoles_79 : decode cX3_bestHoles 79 = .ok (.aload_n 0, 1) := by decide +kernel
theorem dX3_bestHoles_80 : decode cX3_bestHoles 80 = .ok (.getfield 11, 3) := by decide +kernel
theorem dX3_bestHoles_83 : decode cX3_bestHoles 83 = .ok (.iload 4, 2) := by decide +kernel
theorem dX3_bestHoles_85 : decode cX3_bestHoles 85 = .ok (.iaload, 1) := by decide +kernel
theorem dX3_bestHoles_86 : decode cX3_bestHoles 86 = .ok (.aload_n 0, 1) := by decide +kernel
theorem dX3_bestHoles_87 : decode cX3_bestHoles 87 = .ok (.getfield 15, 3) := by decide +kernel
theorem dX3_bestHoles_90 : decode cX3_bestHoles 90 = .ok (.iload 4, 2) := by decide +kernel
theorem dX3_bestHoles_92 : decode cX3_bestHoles 92 = .ok (.iaload, 1) := by decide +kernel
theorem dX3_bestHoles_93 : decode cX3_bestHoles 93 = .ok (.aload_n 0, 1) := by decide +kernel
theorem dX3_bestHoles_94 : decode cX3_bestHoles 94 = .ok (.getfield 11, 3) := by decide +kernel
theorem dX3_bestHoles_97 : decode cX3_bestHoles 97 = .ok (.iload 5, 2) := by decide +kernel
theorem dX3_bestHoles_99 : decode cX3_bestHoles 99 = .ok (.iaload, 1) := by decide +kernel
theorem dX3_bestHoles_100 : decode cX3_bestHoles 100 = .ok (.aload_n 0, 1) := by decide +kernel
theorem dX3_bestHoles_101 : decode cX3_bestHoles 101 = .ok (.getfield 15, 3) := by decide +kernel
theorem dX3_bestHoles_104 : decode cX3_bestHoles 104 = .ok (.iload 5, 2) := by decide +kernel
theorem dX3_bestHoles_106 : decode cX3_bestHoles 106 = .ok (.iaload, 1) := by decide +kernel
theorem dX3_bestHoles_107 : decode cX3_bestHoles 107 = .ok (.invokevirtual 68, 3) := by decide +kernel
theorem dX3_bestHoles_110 : decode cX3_bestHoles 110 = .ok (.ifCond .eq 15, 3) := by decide +kernel
theorem dX3_bestHoles_113 : decode cX3_bestHoles 113 = .ok (.bipush 10, 2) := by decide +kernel
theorem dX3_bestHoles_115 : decode cX3_bestHoles 115 = .ok (.iload 4, 2) := by decide +kernel
theorem dX3_bestHoles_117 : decode cX3_bestHoles 117 = .ok (.imul, 1) := by decide +kernel
theorem dX3_bestHoles_118 : decode cX3_bestHoles 118 = .ok (.iload 5, 2) := by decide +kernel
theorem dX3_bestHoles_120 : decode cX3_bestHoles 120 = .ok (.iadd, 1) := by decide +kernel
theorem dX3_bestHoles_121 : decode cX3_bestHoles 121 = .ok (.istore_n 1, 1) := by decide +kernel
theorem dX3_bestHoles_122 : decode cX3_bestHoles 122 = .ok (.lload 6, 2) := by decide +kernel
theorem dX3_bestHoles_124 : decode cX3_bestHoles 124 = .ok (.lstore_n 2, 1) := by decide +kernel
theorem dX3_bestHoles_125 : decode cX3_bestHoles 125 = .ok (.iinc 5 1, 3) := by decide +kernel
theorem dX3_bestHoles_128 : decode cX3_bestHoles 128 = .ok (.goto (-106), 3) := by decide +kernel
theorem dX3_bestHoles_131 : decode cX3_bestHoles 131 = .ok (.iinc 4 1, 3) := by decide +kernel
theorem dX3_bestHoles_134 : decode cX3_bestHoles 134 = .ok (.goto (-127), 3) := by decide +kernel
theorem dX3_bestHoles_137 : decode cX3_bestHoles 137 = .ok (.iload_n 1, 1) := by decide +kernel
theorem dX3_bestHoles_138 : decode cX3_bestHoles 138 = .ok (.ireturn, 1) := by decide +kernel
theorem dX3_mixInto_0 : decode cX3_mixInto 0 = .ok (.lload_n 1, 1) := by decide +kernel
theorem dX3_mixInto_1 : decode cX3_mixInto 1 = .ok (.lstore_n 3, 1) := by decide +kernel
theorem dX3_mixInto_2 : decode cX3_mixInto 2 = .ok (.iconst 0, 1) := by decide +kernel
theorem dX3_mixInto_3 : decode cX3_mixInto 3 = .ok (.istore 5, 2) := by decide +kernel
theorem dX3_mixInto_5 : decode cX3_mixInto 5 = .ok (.iload 5, 2) := by decide +kernel
theorem dX3_mixInto_7 : decode cX3_mixInto 7 = .ok (.aload_n 0, 1) := by decide +kernel
theorem dX3_mixInto_8 : decode cX3_mixInto 8 = .ok (.getfield 18, 3) := by decide +kernel
theorem dX3_mixInto_11 : decode cX3_mixInto 11 = .ok (.if_icmp .ge 39, 3) := by decide +kernel
theorem dX3_mixInto_14 : decode cX3_mixInto 14 = .ok (.ldc2_w 72, 3) := by decide +kernel
theorem dX3_mixInto_17 : decode cX3_mixInto 17 = .ok (.lload_n 3, 1) := by decide +kernel
theorem dX3_mixInto_18 : decode cX3_mixInto 18 = .ok (.lmul, 1) := by decide +kernel
theorem dX3_mixInto_19 : decode cX3_mixInto 19 = .ok (.aload_n 0, 1) := by decide +kernel
theorem dX3_mixInto_20 : decode cX3_mixInto 20 = .ok (.getfield 11, 3) := by decide +kernel
theorem dX3_mixInto_23 : decode cX3_mixInto 23 = .ok (.iload 5, 2) := by decide +kernel
theorem dX3_mixInto_25 : decode cX3_mixInto 25 = .ok (.iaload, 1) := by decide +kernel
theorem dX3_mixInto_26 : decode cX3_mixInto 26 = .ok (.i2l, 1) := by decide +kernel
theorem dX3_mixInto_27 : decode cX3_mixInto 27 = .ok (.ladd, 1) := by decide +kernel
theorem dX3_mixInto_28 : decode cX3_mixInto 28 = .ok (.lstore_n 3, 1) := by decide +kernel
theorem dX3_mixInto_29 : decode cX3_mixInto 29 = .ok (.ldc2_w 72, 3) := by decide +kernel
theorem dX3_mixInto_32 : decode cX3_mixInto 32 = .ok (.lload_n 3, 1) := by decide +kernel
theorem dX3_mixInto_33 : decode cX3_mixInto 33 = .ok (.lmul, 1) := by decide +kernel
theorem dX3_mixInto_34 : decode cX3_mixInto 34 = .ok (.aload_n 0, 1) := by decide +kernel
theorem dX3_mixInto_35 : decode cX3_mixInto 35 = .ok (.getfield 15, 3) := by decide +kernel
theorem dX3_mixInto_38 : decode cX3_mixInto 38 = .ok (.iload 5, 2) := by decide +kernel
theorem dX3_mixInto_40 : decode cX3_mixInto 40 = .ok (.iaload, 1) := by decide +kernel
theorem dX3_mixInto_41 : decode cX3_mixInto 41 = .ok (.i2l, 1) := by decide +kernel
theorem dX3_mixInto_42 : decode cX3_mixInto 42 = .ok (.ladd, 1) := by decide +kernel
theorem dX3_mixInto_43 : decode cX3_mixInto 43 = .ok (.lstore_n 3, 1) := by decide +kernel
theorem dX3_mixInto_44 : decode cX3_mixInto 44 = .ok (.iinc 5 1, 3) := by decide +kernel
theorem dX3_mixInto_47 : decode cX3_mixInto 47 = .ok (.goto (-42), 3) := by decide +kernel
theorem dX3_mixInto_50 : decode cX3_mixInto 50 = .ok (.lload_n 3, 1) := by decide +kernel
theorem dX3_mixInto_51 : decode cX3_mixInto 51 = .ok (.lreturn, 1) := by decide +kernel
theorem dX4_init_0 : decode cX4_init 0 = .ok (.aload_n 0, 1) := by decide +kernel
theorem dX4_init_1 : decode cX4_init 1 = .ok (.invokespecial 7, 3) := by decide +kernel
theorem dX4_init_4 : decode cX4_init 4 = .ok (.aload_n 0, 1) := by decide +kernel
theorem dX4_init_5 : decode cX4_init 5 = .ok (.iconst 1, 1) := by decide +kernel
theorem dX4_init_6 : decode cX4_init 6 = .ok (.newarray .long, 2) := by decide +kernel
theorem dX4_init_8 : decode cX4_init 8 = .ok (.putfield 13, 3) := by decide +kernel
theorem dX4_init_11 : decode cX4_init 11 = .ok (.aload_n 0, 1) := by decide +kernel
theorem dX4_init_12 : decode cX4_init 12 = .ok (.iconst 5, 1) := by decide +kernel
theorem dX4_init_13 : decode cX4_init 13 = .ok (.newarray .int, 2) := by decide +kernel
theorem dX4_init_15 : decode cX4_init 15 = .ok (.putfield 19, 3) := by decide +kernel
theorem dX4_init_18 : decode cX4_init 18 = .ok (.aload_n 0, 1) := by decide +kernel
theorem dX4_init_19 : decode cX4_init 19 = .ok (.iconst 5, 1) := by decide +kernel
theorem dX4_init_20 : decode cX4_init 20 = .ok (.newarray .int, 2) := by decide +kernel
theorem dX4_init_22 : decode cX4_init 22 = .ok (.putfield 23, 3) := by decide +kernel
theorem dX4_init_25 : decode cX4_init 25 = .ok (.aload_n 0, 1) := by decide +kernel
theorem dX4_init_26 : decode cX4_init 26 = .ok (.bipush 70, 2) := by decide +kernel
theorem dX4_init_28 : decode cX4_init 28 = .ok (.newarray .int, 2) := by decide +kernel
theorem dX4_init_30 : decode cX4_init 30 = .ok (.putfield 26, 3) := by decide +kernel
theorem dX4_init_33 : decode cX4_init 33 = .ok (.aload_n 0, 1) := by decide +kernel
theorem dX4_init_34 : decode cX4_init 34 = .ok (.aload_n 1, 1) := by decide +kernel
theorem dX4_init_35 : decode cX4_init 35 = .ok (.putfield 29, 3) := by decide +kernel
theorem dX4_init_38 : decode cX4_init 38 = .ok (.aload_n 0, 1) := by decide +kernel
theorem dX4_init_39 : decode cX4_init 39 = .ok (.aload_n 2, 1) := by decide +kernel
theorem dX4_init_40 : decode cX4_init 40 = .ok (.putfield 33, 3) := by decide +kernel
theorem dX4_init_43 : decode cX4_init 43 = .ok (.return_, 1) := by decide +kernel
theorem dX4_forget_0 : decode cX4_forget 0 = .ok (.aload_n 0, 1) := by decide +kernel
theorem dX4_forget_1 : decode cX4_forget 1 = .ok (.iconst 0, 1) := by decide +kernel
theorem dX4_forget_2 : decode cX4_forget 2 = .ok (.putfield 37, 3) := by decide +kernel
theorem dX4_forget_5 : decode cX4_forget 5 = .ok (.aload_n 0, 1) := by decide +kernel
theorem dX4_forget_6 : decode cX4_forget 6 = .ok (.iconst 0, 1) := by decide +kernel
theorem dX4_forget_7 : decode cX4_forget 7 = .ok (.putfield 41, 3) := by decide +kernel
theorem dX4_forget_10 : decode cX4_forget 10 = .ok (.return_, 1) := by decide +kernel
theorem dX4_ordersOfAll_0 : decode cX4_ordersOfAll 0 = .ok (.aload_n 0, 1) := by decide +kernel
theorem dX4_ordersOfAll_1 : decode cX4_ordersOfAll 1 = .ok (.invokevirtual 44, 3) := by decide +kernel
theorem dX4_ordersOfAll_4 : decode cX4_ordersOfAll 4 = .ok (.aload_n 0, 1) := by decide +kernel
theorem dX4_ordersOfAll_5 : decode cX4_ordersOfAll 5 = .ok (.getfield 13, 3) := by decide +kernel
theorem dX4_ordersOfAll_8 : decode cX4_ordersOfAll 8 = .ok (.aload_n 0, 1) := by decide +kernel
theorem dX4_ordersOfAll_9 : decode cX4_ordersOfAll 9 = .ok (.getfield 29, 3) := by decide +kernel
theorem dX4_ordersOfAll_12 : decode cX4_ordersOfAll 12 = .ok (.invokevirtual 47, 3) := by decide +kernel
theorem dX4_ordersOfAll_15 : decode cX4_ordersOfAll 15 = .ok (.laload, 1) := by decide +kernel
theorem dX4_ordersOfAll_16 : decode cX4_ordersOfAll 16 = .ok (.lreturn, 1) := by decide +kernel
theorem dX4_leastPrice_0 : decode cX4_leastPrice 0 = .ok (.aload_n 0, 1) := by decide +kernel
theorem dX4_leastPrice_1 : decode cX4_leastPrice 1 = .ok (.invokevirtual 51, 3) := by decide +kernel
theorem dX4_leastPrice_4 : decode cX4_leastPrice 4 = .ok (.aload_n 0, 1) := by decide +kernel
theorem dX4_leastPrice_5 : decode cX4_leastPrice 5 = .ok (.getfield 19, 3) := by decide +kernel
theorem dX4_leastPrice_8 : decode cX4_leastPrice 8 = .ok (.iconst 0, 1) := by decide +kernel
theorem dX4_leastPrice_9 : decode cX4_leastPrice 9 = .ok (.iaload, 1) := by decide +kernel
theorem dX4_leastPrice_10 : decode cX4_leastPrice 10 = .ok (.ldc 54, 2) := by decide +kernel
theorem dX4_leastPrice_12 : decode cX4_leastPrice 12 = .ok (.if_icmp .lt 7, 3) := by decide +kernel
theorem dX4_leastPrice_15 : decode cX4_leastPrice 15 = .ok (.iconst (-1), 1) := by decide +kernel
theorem dX4_leastPrice_16 : decode cX4_leastPrice 16 = .ok (.goto 9, 3) := by decide +kernel
theorem dX4_leastPrice_19 : decode cX4_leastPrice 19 = .ok (.aload_n 0, 1) := by decide +kernel
theorem dX4_leastPrice_20 : decode cX4_leastPrice 20 = .ok (.getfield 19, 3) := by decide +kernel
theorem dX4_leastPrice_23 : decode cX4_leastPrice 23 = .ok (.iconst 0, 1) := by decide +kernel
theorem dX4_leastPrice_24 : decode cX4_leastPrice 24 = .ok (.iaload, 1) := by decide +kernel
theorem dX4_leastPrice_25 : decode cX4_leastPrice 25 = .ok (.ireturn, 1) := by decide +kernel
theorem dX4_actAt_0 : decode cX4_actAt 0 = .ok (.aload_n 0, 1) := by decide +kernel
theorem dX4_actAt_1 : decode cX4_actAt 1 = .ok (.invokevirtual 51, 3) := by decide +kernel
theorem dX4_actAt_4 : decode cX4_actAt 4 = .ok (.iload_n 1, 1) := by decide +kernel
theorem dX4_actAt_5 : decode cX4_actAt 5 = .ok (.ifCond .lt 20, 3) := by decide +kernel
theorem dX4_actAt_8 : decode cX4_actAt 8 = .ok (.iload_n 1, 1) := by decide +kernel
theorem dX4_actAt_9 : decode cX4_actAt 9 = .ok (.aload_n 0, 1) := by decide +kernel
theorem dX4_actAt_10 : decode cX4_actAt 10 = .ok (.getfield 55, 3) := by decide +kernel
theorem dX4_actAt_13 : decode cX4_actAt 13 = .ok (.if_icmp .ge 12, 3) := by decide +kernel
theorem dX4_actAt_16 : decode cX4_actAt 16 = .ok (.aload_n 0, 1) := by decide +kernel
theorem dX4_actAt_17 : decode cX4_actAt 17 = .ok (.getfield 26, 3) := by decide +kernel
theorem dX4_actAt_20 : decode cX4_actAt 20 = .ok (.iload_n 1, 1) := by decide +kernel
theorem dX4_actAt_21 : decode cX4_actAt 21 = .ok (.iaload, 1) := by decide +kernel
theorem dX4_actAt_22 : decode cX4_actAt 22 = .ok (.goto 4, 3) := by decide +kernel
theorem dX4_actAt_25 : decode cX4_actAt 25 = .ok (.iconst (-1), 1) := by decide +kernel
theorem dX4_actAt_26 : decode cX4_actAt 26 = .ok (.ireturn, 1) := by decide +kernel
theorem dX4_orderInto_0 : decode cX4_orderInto 0 = .ok (.aload_n 0, 1) := by decide +kernel
theorem dX4_orderInto_1 : decode cX4_orderInto 1 = .ok (.getfield 33, 3) := by decide +kernel
theorem dX4_orderInto_4 : decode cX4_orderInto 4 = .ok (.getfield 59, 3) := by decide +kernel
theorem dX4_orderInto_7 : decode cX4_orderInto 7 = .ok (.ifCond .le 15, 3) := by decide +kernel
theorem dX4_orderInto_10 : decode cX4_orderInto 10 = .ok (.aload_n 0, 1) := by decide +kernel
theorem dX4_orderInto_11 : decode cX4_orderInto 11 = .ok (.invokevirtual 62, 3) := by decide +kernel
theorem dX4_orderInto_14 : decode cX4_orderInto 14 = .ok (.iconst (-1), 1) := by decide +kernel
theorem dX4_orderInto_15 : decode cX4_orderInto 15 = .ok (.if_icmp .eq 7, 3) := by decide +kernel
theorem dX4_orderInto_18 : decode cX4_orderInto 18 = .ok (.iconst 1, 1) := by decide +kernel
theorem dX4_orderInto_19 : decode cX4_orderInto 19 = .ok (.goto 4, 3) := by decide +kernel
theorem dX4_orderInto_22 : decode cX4_orderInto 22 = .ok (.iconst 0, 1) := by decide +kernel
theorem dX4_orderInto_23 : decode cX4_orderInto 23 = .ok (.istore_n 2, 1) := by decide +kernel
theorem dX4_orderInto_24 : decode cX4_orderInto 24 = .ok (.iconst 0, 1) := by decide +kernel
theorem dX4_orderInto_25 : decode cX4_orderInto 25 = .ok (.istore_n 3, 1) := by decide +kernel
theorem dX4_orderInto_26 : decode cX4_orderInto 26 = .ok (.iconst 0, 1) := by decide +kernel
theorem dX4_orderInto_27 : decode cX4_orderInto 27 = .ok (.istore 4, 2) := by decide +kernel
theorem dX4_orderInto_29 : decode cX4_orderInto 29 = .ok (.iload_n 2, 1) := by decide +kernel
theorem dX4_orderInto_30 : decode cX4_orderInto 30 = .ok (.ifCond .eq 49, 3) := by decide +kernel
theorem dX4_orderInto_33 : decode cX4_orderInto 33 = .ok (.iload 4, 2) := by decide +kernel
theorem dX4_orderInto_35 : decode cX4_orderInto 35 = .ok (.aload_n 0, 1) := by decide +kernel
theorem dX4_orderInto_36 : decode cX4_orderInto 36 = .ok (.getfield 55, 3) := by decide +kernel
theorem dX4_orderInto_39 : decode cX4_orderInto 39 = .ok (.if_icmp .ge 40, 3) := by decide +kernel
theorem dX4_orderInto_42 : decode cX4_orderInto 42 = .ok (.aload_n 0, 1) := by decide +kernel
theorem dX4_orderInto_43 : decode cX4_orderInto 43 = .ok (.getfield 26, 3) := by decide +kernel
theorem dX4_orderInto_46 : decode cX4_orderInto 46 = .ok (.iload 4, 2) := by decide +kernel
theorem dX4_orderInto_48 : decode cX4_orderInto 48 = .ok (.iaload, 1) := by decide +kernel
theorem dX4_orderInto_49 : decode cX4_orderInto 49 = .ok (.bipush 100, 2) := by decide +kernel
theorem dX4_orderInto_51 : decode cX4_orderInto 51 = .ok (.if_icmp .ge 22, 3) := by decide +kernel
theorem dX4_orderInto_54 : decode cX4_orderInto 54 = .ok (.iload_n 3, 1) := by decide +kernel
theorem dX4_orderInto_55 : decode cX4_orderInto 55 = .ok (.aload_n 1, 1) := by decide +kernel
theorem dX4_orderInto_56 : decode cX4_orderInto 56 = .ok (.arraylength, 1) := by decide +kernel
theorem dX4_orderInto_57 : decode cX4_orderInto 57 = .ok (.if_icmp .ge 16, 3) := by decide +kernel
theorem dX4_orderInto_60 : decode cX4_orderInto 60 = .ok (.aload_n 1, 1) := by decide +kernel
theorem dX4_orderInto_61 : decode cX4_orderInto 61 = .ok (.iload_n 3, 1) := by decide +kernel
theorem dX4_orderInto_62 : decode cX4_orderInto 62 = .ok (.aload_n 0, 1) := by decide +kernel
theorem dX4_orderInto_63 : decode cX4_orderInto 63 = .ok (.getfield 26, 3) := by decide +kernel
theorem dX4_orderInto_66 : decode cX4_orderInto 66 = .ok (.iload 4, 2) := by decide +kernel
theorem dX4_orderInto_68 : decode cX4_orderInto 68 = .ok (.iaload, 1) := by decide +kernel
theorem dX4_orderInto_69 : decode cX4_orderInto 69 = .ok (.iastore, 1) := by decide +kernel
theorem dX4_orderInto_70 : decode cX4_orderInto 70 = .ok (.iinc 3 1, 3) := by decide +kernel
theorem dX4_orderInto_73 : decode cX4_orderInto 73 = .ok (.iinc 4 1, 3) := by decide +kernel
theorem dX4_orderInto_76 : decode cX4_orderInto 76 = .ok (.goto (-47), 3) := by decide +kernel
theorem dX4_orderInto_79 : decode cX4_orderInto 79 = .ok (.iconst 0, 1) := by decide +kernel
theorem dX4_orderInto_80 : decode cX4_orderInto 80 = .ok (.istore 4, 2) := by decide +kernel
theorem dX4_orderInto_82 : decode cX4_orderInto 82 = .ok (.iload_n 2, 1) := by decide +kernel
theorem dX4_orderInto_83 : decode cX4_orderInto 83 = .ok (.ifCond .ne 34, 3) := by decide +kernel
theorem dX4_orderInto_86 : decode cX4_orderInto 86 = .ok (.iload 4, 2) := by decide +kernel
theorem dX4_orderInto_88 : decode cX4_orderInto 88 = .ok (.aload_n 0, 1) := by decide +kernel
theorem dX4_orderInto_89 : decode cX4_orderInto 89 = .ok (.getfield 29, 3) := by decide +kernel
theorem dX4_orderInto_92 : decode cX4_orderInto 92 = .ok (.getfield 65, 3) := by decide +kernel
theorem dX4_orderInto_95 : decode cX4_orderInto 95 = .ok (.if_icmp .ge 22, 3) := by decide +kernel
theorem dX4_orderInto_98 : decode cX4_orderInto 98 = .ok (.iload 4, 2) := by decide +kernel
theorem dX4_orderInto_100 : decode cX4_orderInto 100 = .ok (.aload_n 1, 1) := by decide +kernel
theorem dX4_orderInto_101 : decode cX4_orderInto 101 = .ok (.arraylength, 1) := by decide +kernel
theorem dX4_orderInto_102 : decode cX4_orderInto 102 = .ok (.if_icmp .ge 15, 3) := by decide +kernel
theorem dX4_orderInto_105 : decode cX4_orderInto 105 = .ok (.aload_n 1, 1) := by decide +kernel
theorem dX4_orderInto_106 : decode cX4_orderInto 106 = .ok (.iload 4, 2) := by decide +kernel
theorem dX4_orderInto_108 : decode cX4_orderInto 108 = .ok (.iload 4, 2) := by decide +kernel
theorem dX4_orderInto_110 : decode cX4_orderInto 110 = .ok (.iastore, 1) := by decide +kernel
theorem dX4_orderInto_111 : decode cX4_orderInto 111 = .ok (.iinc 4 1, 3) := by decide +kernel
theorem dX4_orderInto_114 : decode cX4_orderInto 114 = .ok (.goto (-32), 3) := by decide +kernel
theorem dX4_orderInto_117 : decode cX4_orderInto 117 = .ok (.return_, 1) := by decide +kernel
theorem dX4_countWays_0 : decode cX4_countWays 0 = .ok (.aload_n 0, 1) := by decide +kernel
theorem dX4_countWays_1 : decode cX4_countWays 1 = .ok (.getfield 37, 3) := by decide +kernel
theorem dX4_countWays_4 : decode cX4_countWays 4 = .ok (.ifCond .eq 4, 3) := by decide +kernel
theorem dX4_countWays_7 : decode cX4_countWays 7 = .ok (.return_, 1) := by decide +kernel
theorem dX4_countWays_8 : decode cX4_countWays 8 = .ok (.aload_n 0, 1) := by decide +kernel
theorem dX4_countWays_9 : decode cX4_countWays 9 = .ok (.iconst 1, 1) := by decide +kernel
theorem dX4_countWays_10 : decode cX4_countWays 10 = .ok (.putfield 37, 3) := by decide +kernel
theorem dX4_countWays_13 : decode cX4_countWays 13 = .ok (.aload_n 0, 1) := by decide +kernel
theorem dX4_countWays_14 : decode cX4_countWays 14 = .ok (.getfield 29, 3) := by decide +kernel
theorem dX4_countWays_17 : decode cX4_countWays 17 = .ok (.invokevirtual 47, 3) := by decide +kernel
theorem dX4_countWays_20 : decode cX4_countWays 20 = .ok (.istore_n 1, 1) := by decide +kernel
theorem dX4_countWays_21 : decode cX4_countWays 21 = .ok (.aload_n 0, 1) := by decide +kernel
theorem dX4_countWays_22 : decode cX4_countWays 22 = .ok (.getfield 13, 3) := by decide +kernel
theorem dX4_countWays_25 : decode cX4_countWays 25 = .ok (.arraylength, 1) := by decide +kernel
theorem dX4_countWays_26 : decode cX4_countWays 26 = .ok (.iload_n 1, 1) := by decide +kernel
theorem dX4_countWays_27 : decode cX4_countWays 27 = .ok (.if_icmp .gt 12, 3) := by decide +kernel
theorem dX4_countWays_30 : decode cX4_countWays 30 = .ok (.aload_n 0, 1) := by decide +kernel
theorem dX4_countWays_31 : decode cX4_countWays 31 = .ok (.iload_n 1, 1) := by decide +kernel
theorem dX4_countWays_32 : decode cX4_countWays 32 = .ok (.iconst 1, 1) := by decide +kernel
theorem dX4_countWays_33 : decode cX4_countWays 33 = .ok (.iadd, 1) := by decide +kernel
theorem dX4_countWays_34 : decode cX4_countWays 34 = .ok (.newarray .long, 2) := by decide +kernel
theorem dX4_countWays_36 : decode cX4_countWays 36 = .ok (.putfield 13, 3) := by decide +kernel
theorem dX4_countWays_39 : decode cX4_countWays 39 = .ok (.aload_n 0, 1) := by decide +kernel
theorem dX4_countWays_40 : decode cX4_countWays 40 = .ok (.getfield 13, 3) := by decide +kernel
theorem dX4_countWays_43 : decode cX4_countWays 43 = .ok (.lconst 0, 1) := by decide +kernel
theorem dX4_countWays_44 : decode cX4_countWays 44 = .ok (.invokestatic 66, 3) := by decide +kernel
theorem dX4_countWays_47 : decode cX4_countWays 47 = .ok (.aload_n 0, 1) := by decide +kernel
theorem dX4_countWays_48 : decode cX4_countWays 48 = .ok (.getfield 13, 3) := by decide +kernel
theorem dX4_countWays_51 : decode cX4_countWays 51 = .ok (.iconst 0, 1) := by decide +kernel
theorem dX4_countWays_52 : decode cX4_countWays 52 = .ok (.lconst 1, 1) := by decide +kernel
theorem dX4_countWays_53 : decode cX4_countWays 53 = .ok (.lastore, 1) := by decide +kernel
theorem dX4_countWays_54 : decode cX4_countWays 54 = .ok (.iconst 0, 1) := by decide +kernel
theorem dX4_countWays_55 : decode cX4_countWays 55 = .ok (.istore_n 2, 1) := by decide +kernel
theorem dX4_countWays_56 : decode cX4_countWays 56 = .ok (.iload_n 2, 1) := by decide +kernel
theorem dX4_countWays_57 : decode cX4_countWays 57 = .ok (.iload_n 1, 1) := by decide +kernel
theorem dX4_countWays_58 : decode cX4_countWays 58 = .ok (.if_icmp .gt 99, 3) := by decide +kernel
theorem dX4_countWays_61 : decode cX4_countWays 61 = .ok (.aload_n 0, 1) := by decide +kernel
theorem dX4_countWays_62 : decode cX4_countWays 62 = .ok (.getfield 13, 3) := by decide +kernel
theorem dX4_countWays_65 : decode cX4_countWays 65 = .ok (.iload_n 2, 1) := by decide +kernel
theorem dX4_countWays_66 : decode cX4_countWays 66 = .ok (.laload, 1) := by decide +kernel
theorem dX4_countWays_67 : decode cX4_countWays 67 = .ok (.lconst 0, 1) := by decide +kernel
theorem dX4_countWays_68 : decode cX4_countWays 68 = .ok (.lcmp, 1) := by decide +kernel
theorem dX4_countWays_69 : decode cX4_countWays 69 = .ok (.ifCond .eq 21, 3) := by decide +kernel
theorem dX4_countWays_72 : decode cX4_countWays 72 = .ok (.aload_n 0, 1) := by decide +kernel
theorem dX4_countWays_73 : decode cX4_countWays 73 = .ok (.getfield 29, 3) := by decide +kernel
theorem dX4_countWays_76 : decode cX4_countWays 76 = .ok (.iload_n 2, 1) := by decide +kernel
theorem dX4_countWays_77 : decode cX4_countWays 77 = .ok (.invokevirtual 72, 3) := by decide +kernel
theorem dX4_countWays_80 : decode cX4_countWays 80 = .ok (.ifCond .ne 10, 3) := by decide +kernel
theorem dX4_countWays_83 : decode cX4_countWays 83 = .ok (.aload_n 0, 1) := by decide +kernel
theorem dX4_countWays_84 : decode cX4_countWays 84 = .ok (.getfield 13, 3) := by decide +kernel
theorem dX4_countWays_87 : decode cX4_countWays 87 = .ok (.iload_n 2, 1) := by decide +kernel
theorem dX4_countWays_88 : decode cX4_countWays 88 = .ok (.lconst 0, 1) := by decide +kernel
theorem dX4_countWays_89 : decode cX4_countWays 89 = .ok (.lastore, 1) := by decide +kernel
theorem dX4_countWays_90 : decode cX4_countWays 90 = .ok (.iconst 0, 1) := by decide +kernel
theorem dX4_countWays_91 : decode cX4_countWays 91 = .ok (.istore_n 3, 1) := by decide +kernel
theorem dX4_countWays_92 : decode cX4_countWays 92 = .ok (.aload_n 0, 1) := by decide +kernel
theorem dX4_countWays_93 : decode cX4_countWays 93 = .ok (.getfield 13, 3) := by decide +kernel
theorem dX4_countWays_96 : decode cX4_countWays 96 = .ok (.iload_n 2, 1) := by decide +kernel
theorem dX4_countWays_97 : decode cX4_countWays 97 = .ok (.laload, 1) := by decide +kernel
theorem dX4_countWays_98 : decode cX4_countWays 98 = .ok (.lconst 0, 1) := by decide +kernel
theorem dX4_countWays_99 : decode cX4_countWays 99 = .ok (.lcmp, 1) := by decide +kernel
theorem dX4_countWays_100 : decode cX4_countWays 100 = .ok (.ifCond .eq 51, 3) := by decide +kernel
theorem dX4_countWays_103 : decode cX4_countWays 103 = .ok (.iload_n 3, 1) := by decide +kernel
theorem dX4_countWays_104 : decode cX4_countWays 104 = .ok (.aload_n 0, 1) := by decide +kernel
theorem dX4_countWays_105 : decode cX4_countWays 105 = .ok (.getfield 29, 3) := by decide +kernel
theorem dX4_countWays_108 : decode cX4_countWays 108 = .ok (.getfield 65, 3) := by decide +kernel
theorem dX4_countWays_111 : decode cX4_countWays 111 = .ok (.if_icmp .ge 40, 3) := by decide +kernel
theorem dX4_countWays_114 : decode cX4_countWays 114 = .ok (.aload_n 0, 1) := by decide +kernel
theorem dX4_countWays_115 : decode cX4_countWays 115 = .ok (.getfield 29, 3) := by decide +kernel
theorem dX4_countWays_118 : decode cX4_countWays 118 = .ok (.iload_n 3, 1) := by decide +kernel
theorem dX4_countWays_119 : decode cX4_countWays 119 = .ok (.iload_n 2, 1) := by decide +kernel
theorem dX4_countWays_120 : decode cX4_countWays 120 = .ok (.invokevirtual 76, 3) := by decide +kernel
theorem dX4_countWays_123 : decode cX4_countWays 123 = .ok (.ifCond .eq 22, 3) := by decide +kernel
theorem dX4_countWays_126 : decode cX4_countWays 126 = .ok (.aload_n 0, 1) := by decide +kernel
theorem dX4_countWays_127 : decode cX4_countWays 127 = .ok (.getfield 13, 3) := by decide +kernel
theorem dX4_countWays_130 : decode cX4_countWays 130 = .ok (.iload_n 2, 1) := by decide +kernel
theorem dX4_countWays_131 : decode cX4_countWays 131 = .ok (.iconst 1, 1) := by decide +kernel
theorem dX4_countWays_132 : decode cX4_countWays 132 = .ok (.iload_n 3, 1) := by decide +kernel
theorem dX4_countWays_133 : decode cX4_countWays 133 = .ok (.ishl, 1) := by decide +kernel
theorem dX4_countWays_134 : decode cX4_countWays 134 = .ok (.ior, 1) := by decide +kernel
theorem dX4_countWays_135 : decode cX4_countWays 135 = .ok (.dup2, 1) := by decide +kernel
theorem dX4_countWays_136 : decode cX4_countWays 136 = .ok (.laload, 1) := by decide +kernel
theorem dX4_countWays_137 : decode cX4_countWays 137 = .ok (.aload_n 0, 1) := by decide +kernel
theorem dX4_countWays_138 : decode cX4_countWays 138 = .ok (.getfield 13, 3) := by decide +kernel
theorem dX4_countWays_141 : decode cX4_countWays 141 = .ok (.iload_n 2, 1) := by decide +kernel
theorem dX4_countWays_142 : decode cX4_countWays 142 = .ok (.laload, 1) := by decide +kernel
theorem dX4_countWays_143 : decode cX4_countWays 143 = .ok (.ladd, 1) := by decide +kernel
theorem dX4_countWays_144 : decode cX4_countWays 144 = .ok (.lastore, 1) := by decide +kernel
theorem dX4_countWays_145 : decode cX4_countWays 145 = .ok (.iinc 3 1, 3) := by decide +kernel
theorem dX4_countWays_148 : decode cX4_countWays 148 = .ok (.goto (-56), 3) := by decide +kernel
theorem dX4_countWays_151 : decode cX4_countWays 151 = .ok (.iinc 2 1, 3) := by decide +kernel
theorem dX4_countWays_154 : decode cX4_countWays 154 = .ok (.goto (-98), 3) := by decide +kernel
theorem dX4_countWays_157 : decode cX4_countWays 157 = .ok (.return_, 1) := by decide +kernel
