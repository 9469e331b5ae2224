theorem dX10_may_0 : decode cX10_may 0 = .ok (.iload_n 1, 1) := by decide +kernel
theorem dX10_may_1 : decode cX10_may 1 = .ok (.i2l, 1) := by decide +kernel
theorem dX10_may_2 : decode cX10_may 2 = .ok (.lconst 0, 1) := by decide +kernel
theorem dX10_may_3 : decode cX10_may 3 = .ok (.iconst 1, 1) := by decide +kernel
theorem dX10_may_4 : decode cX10_may 4 = .ok (.aload_n 0, 1) := by decide +kernel
theorem dX10_may_5 : decode cX10_may 5 = .ok (.getfield 224, 3) := by decide +kernel
theorem dX10_may_8 : decode cX10_may 8 = .ok (.ishl, 1) := by decide +kernel
theorem dX10_may_9 : decode cX10_may 9 = .ok (.iconst 1, 1) := by decide +kernel
theorem dX10_may_10 : decode cX10_may 10 = .ok (.isub, 1) := by decide +kernel
theorem dX10_may_11 : decode cX10_may 11 = .ok (.i2l, 1) := by decide +kernel
theorem dX10_may_12 : decode cX10_may 12 = .ok (.invokestatic 126, 3) := by decide +kernel
theorem dX10_may_15 : decode cX10_may 15 = .ok (.ifCond .eq 11, 3) := by decide +kernel
theorem dX10_may_18 : decode cX10_may 18 = .ok (.aload_n 0, 1) := by decide +kernel
theorem dX10_may_19 : decode cX10_may 19 = .ok (.iload_n 2, 1) := by decide +kernel
theorem dX10_may_20 : decode cX10_may 20 = .ok (.invokevirtual 231, 3) := by decide +kernel
theorem dX10_may_23 : decode cX10_may 23 = .ok (.ifCond .eq 8, 3) := by decide +kernel
theorem dX10_may_26 : decode cX10_may 26 = .ok (.bipush (-2), 2) := by decide +kernel
theorem dX10_may_28 : decode cX10_may 28 = .ok (.goto 12, 3) := by decide +kernel
theorem dX10_may_31 : decode cX10_may 31 = .ok (.aload_n 0, 1) := by decide +kernel
theorem dX10_may_32 : decode cX10_may 32 = .ok (.iload_n 1, 1) := by decide +kernel
theorem dX10_may_33 : decode cX10_may 33 = .ok (.iload_n 2, 1) := by decide +kernel
theorem dX10_may_34 : decode cX10_may 34 = .ok (.invokevirtual 247, 3) := by decide +kernel
theorem dX10_may_37 : decode cX10_may 37 = .ok (.invokestatic 204, 3) := by decide +kernel
theorem dX10_may_40 : decode cX10_may 40 = .ok (.ireturn, 1) := by decide +kernel
theorem dX10_orders_0 : decode cX10_orders 0 = .ok (.iconst 1, 1) := by decide +kernel
theorem dX10_orders_1 : decode cX10_orders 1 = .ok (.aload_n 0, 1) := by decide +kernel
theorem dX10_orders_2 : decode cX10_orders 2 = .ok (.getfield 224, 3) := by decide +kernel
theorem dX10_orders_5 : decode cX10_orders 5 = .ok (.ishl, 1) := by decide +kernel
theorem dX10_orders_6 : decode cX10_orders 6 = .ok (.iconst 1, 1) := by decide +kernel
theorem dX10_orders_7 : decode cX10_orders 7 = .ok (.isub, 1) := by decide +kernel
theorem dX10_orders_8 : decode cX10_orders 8 = .ok (.istore_n 1, 1) := by decide +kernel
theorem dX10_orders_9 : decode cX10_orders 9 = .ok (.aload_n 0, 1) := by decide +kernel
theorem dX10_orders_10 : decode cX10_orders 10 = .ok (.getfield 87, 3) := by decide +kernel
theorem dX10_orders_13 : decode cX10_orders 13 = .ok (.iload_n 1, 1) := by decide +kernel
theorem dX10_orders_14 : decode cX10_orders 14 = .ok (.lconst 1, 1) := by decide +kernel
theorem dX10_orders_15 : decode cX10_orders 15 = .ok (.lastore, 1) := by decide +kernel
theorem dX10_orders_16 : decode cX10_orders 16 = .ok (.iload_n 1, 1) := by decide +kernel
theorem dX10_orders_17 : decode cX10_orders 17 = .ok (.iconst 1, 1) := by decide +kernel
theorem dX10_orders_18 : decode cX10_orders 18 = .ok (.isub, 1) := by decide +kernel
theorem dX10_orders_19 : decode cX10_orders 19 = .ok (.istore_n 2, 1) := by decide +kernel
theorem dX10_orders_20 : decode cX10_orders 20 = .ok (.iload_n 2, 1) := by decide +kernel
theorem dX10_orders_21 : decode cX10_orders 21 = .ok (.ifCond .lt 64, 3) := by decide +kernel
theorem dX10_orders_24 : decode cX10_orders 24 = .ok (.lconst 0, 1) := by decide +kernel
theorem dX10_orders_25 : decode cX10_orders 25 = .ok (.lstore_n 3, 1) := by decide +kernel
theorem dX10_orders_26 : decode cX10_orders 26 = .ok (.iconst 0, 1) := by decide +kernel
theorem dX10_orders_27 : decode cX10_orders 27 = .ok (.istore 5, 2) := by decide +kernel
theorem dX10_orders_29 : decode cX10_orders 29 = .ok (.iload 5, 2) := by decide +kernel
theorem dX10_orders_31 : decode cX10_orders 31 = .ok (.aload_n 0, 1) := by decide +kernel
theorem dX10_orders_32 : decode cX10_orders 32 = .ok (.getfield 224, 3) := by decide +kernel
theorem dX10_orders_35 : decode cX10_orders 35 = .ok (.if_icmp .ge 37, 3) := by decide +kernel
theorem dX10_orders_38 : decode cX10_orders 38 = .ok (.lload_n 3, 1) := by decide +kernel
theorem dX10_orders_39 : decode cX10_orders 39 = .ok (.aload_n 0, 1) := by decide +kernel
theorem dX10_orders_40 : decode cX10_orders 40 = .ok (.iload_n 2, 1) := by decide +kernel
theorem dX10_orders_41 : decode cX10_orders 41 = .ok (.iload 5, 2) := by decide +kernel
theorem dX10_orders_43 : decode cX10_orders 43 = .ok (.invokevirtual 247, 3) := by decide +kernel
theorem dX10_orders_46 : decode cX10_orders 46 = .ok (.ifCond .eq 17, 3) := by decide +kernel
theorem dX10_orders_49 : decode cX10_orders 49 = .ok (.aload_n 0, 1) := by decide +kernel
theorem dX10_orders_50 : decode cX10_orders 50 = .ok (.getfield 87, 3) := by decide +kernel
theorem dX10_orders_53 : decode cX10_orders 53 = .ok (.iload_n 2, 1) := by decide +kernel
theorem dX10_orders_54 : decode cX10_orders 54 = .ok (.iconst 1, 1) := by decide +kernel
theorem dX10_orders_55 : decode cX10_orders 55 = .ok (.iload 5, 2) := by decide +kernel
theorem dX10_orders_57 : decode cX10_orders 57 = .ok (.ishl, 1) := by decide +kernel
theorem dX10_orders_58 : decode cX10_orders 58 = .ok (.ior, 1) := by decide +kernel
theorem dX10_orders_59 : decode cX10_orders 59 = .ok (.laload, 1) := by decide +kernel
theorem dX10_orders_60 : decode cX10_orders 60 = .ok (.goto 4, 3) := by decide +kernel
theorem dX10_orders_63 : decode cX10_orders 63 = .ok (.lconst 0, 1) := by decide +kernel
theorem dX10_orders_64 : decode cX10_orders 64 = .ok (.ladd, 1) := by decide +kernel
theorem dX10_orders_65 : decode cX10_orders 65 = .ok (.lstore_n 3, 1) := by decide +kernel
theorem dX10_orders_66 : decode cX10_orders 66 = .ok (.iinc 5 1, 3) := by decide +kernel
theorem dX10_orders_69 : decode cX10_orders 69 = .ok (.goto (-40), 3) := by decide +kernel
theorem dX10_orders_72 : decode cX10_orders 72 = .ok (.aload_n 0, 1) := by decide +kernel
theorem dX10_orders_73 : decode cX10_orders 73 = .ok (.getfield 87, 3) := by decide +kernel
theorem dX10_orders_76 : decode cX10_orders 76 = .ok (.iload_n 2, 1) := by decide +kernel
theorem dX10_orders_77 : decode cX10_orders 77 = .ok (.lload_n 3, 1) := by decide +kernel
theorem dX10_orders_78 : decode cX10_orders 78 = .ok (.lastore, 1) := by decide +kernel
theorem dX10_orders_79 : decode cX10_orders 79 = .ok (.iinc 2 (-1), 3) := by decide +kernel
theorem dX10_orders_82 : decode cX10_orders 82 = .ok (.goto (-62), 3) := by decide +kernel
theorem dX10_orders_85 : decode cX10_orders 85 = .ok (.aload_n 0, 1) := by decide +kernel
theorem dX10_orders_86 : decode cX10_orders 86 = .ok (.getfield 87, 3) := by decide +kernel
theorem dX10_orders_89 : decode cX10_orders 89 = .ok (.iconst 0, 1) := by decide +kernel
theorem dX10_orders_90 : decode cX10_orders 90 = .ok (.laload, 1) := by decide +kernel
theorem dX10_orders_91 : decode cX10_orders 91 = .ok (.lreturn, 1) := by decide +kernel
theorem dX10_isFree_0 : decode cX10_isFree 0 = .ok (.aload_n 0, 1) := by decide +kernel
theorem dX10_isFree_1 : decode cX10_isFree 1 = .ok (.getfield 75, 3) := by decide +kernel
theorem dX10_isFree_4 : decode cX10_isFree 4 = .ok (.iload_n 2, 1) := by decide +kernel
theorem dX10_isFree_5 : decode cX10_isFree 5 = .ok (.iaload, 1) := by decide +kernel
theorem dX10_isFree_6 : decode cX10_isFree 6 = .ok (.iload_n 1, 1) := by decide +kernel
theorem dX10_isFree_7 : decode cX10_isFree 7 = .ok (.iconst (-1), 1) := by decide +kernel
theorem dX10_isFree_8 : decode cX10_isFree 8 = .ok (.ixor, 1) := by decide +kernel
theorem dX10_isFree_9 : decode cX10_isFree 9 = .ok (.iand, 1) := by decide +kernel
theorem dX10_isFree_10 : decode cX10_isFree 10 = .ok (.ifCond .ne 7, 3) := by decide +kernel
theorem dX10_isFree_13 : decode cX10_isFree 13 = .ok (.iconst 1, 1) := by decide +kernel
theorem dX10_isFree_14 : decode cX10_isFree 14 = .ok (.goto 4, 3) := by decide +kernel
theorem dX10_isFree_17 : decode cX10_isFree 17 = .ok (.iconst 0, 1) := by decide +kernel
theorem dX10_isFree_18 : decode cX10_isFree 18 = .ok (.ireturn, 1) := by decide +kernel
theorem dX10_findCosts_0 : decode cX10_findCosts 0 = .ok (.iconst 0, 1) := by decide +kernel
theorem dX10_findCosts_1 : decode cX10_findCosts 1 = .ok (.istore_n 3, 1) := by decide +kernel
theorem dX10_findCosts_2 : decode cX10_findCosts 2 = .ok (.iload_n 3, 1) := by decide +kernel
theorem dX10_findCosts_3 : decode cX10_findCosts 3 = .ok (.aload_n 0, 1) := by decide +kernel
theorem dX10_findCosts_4 : decode cX10_findCosts 4 = .ok (.getfield 236, 3) := by decide +kernel
theorem dX10_findCosts_7 : decode cX10_findCosts 7 = .ok (.if_icmp .ge 110, 3) := by decide +kernel
theorem dX10_findCosts_10 : decode cX10_findCosts 10 = .ok (.iload_n 1, 1) := by decide +kernel
theorem dX10_findCosts_11 : decode cX10_findCosts 11 = .ok (.iload_n 2, 1) := by decide +kernel
theorem dX10_findCosts_12 : decode cX10_findCosts 12 = .ok (.if_icmp .ne 7, 3) := by decide +kernel
theorem dX10_findCosts_15 : decode cX10_findCosts 15 = .ok (.iconst 0, 1) := by decide +kernel
theorem dX10_findCosts_16 : decode cX10_findCosts 16 = .ok (.goto 5, 3) := by decide +kernel
theorem dX10_findCosts_19 : decode cX10_findCosts 19 = .ok (.ldc 250, 2) := by decide +kernel
theorem dX10_findCosts_21 : decode cX10_findCosts 21 = .ok (.istore 4, 2) := by decide +kernel
theorem dX10_findCosts_23 : decode cX10_findCosts 23 = .ok (.iconst 0, 1) := by decide +kernel
theorem dX10_findCosts_24 : decode cX10_findCosts 24 = .ok (.istore 5, 2) := by decide +kernel
theorem dX10_findCosts_26 : decode cX10_findCosts 26 = .ok (.iload 5, 2) := by decide +kernel
theorem dX10_findCosts_28 : decode cX10_findCosts 28 = .ok (.aload_n 0, 1) := by decide +kernel
theorem dX10_findCosts_29 : decode cX10_findCosts 29 = .ok (.getfield 224, 3) := by decide +kernel
theorem dX10_findCosts_32 : decode cX10_findCosts 32 = .ok (.if_icmp .ge 67, 3) := by decide +kernel
theorem dX10_findCosts_35 : decode cX10_findCosts 35 = .ok (.iload_n 1, 1) := by decide +kernel
theorem dX10_findCosts_36 : decode cX10_findCosts 36 = .ok (.iload_n 2, 1) := by decide +kernel
theorem dX10_findCosts_37 : decode cX10_findCosts 37 = .ok (.if_icmp .eq 62, 3) := by decide +kernel
theorem dX10_findCosts_40 : decode cX10_findCosts 40 = .ok (.aload_n 0, 1) := by decide +kernel
theorem dX10_findCosts_41 : decode cX10_findCosts 41 = .ok (.iload_n 3, 1) := by decide +kernel
theorem dX10_findCosts_42 : decode cX10_findCosts 42 = .ok (.iload 5, 2) := by decide +kernel
theorem dX10_findCosts_44 : decode cX10_findCosts 44 = .ok (.invokevirtual 244, 3) := by decide +kernel
theorem dX10_findCosts_47 : decode cX10_findCosts 47 = .ok (.ifCond .eq 46, 3) := by decide +kernel
theorem dX10_findCosts_50 : decode cX10_findCosts 50 = .ok (.aload_n 0, 1) := by decide +kernel
theorem dX10_findCosts_51 : decode cX10_findCosts 51 = .ok (.iload_n 1, 1) := by decide +kernel
theorem dX10_findCosts_52 : decode cX10_findCosts 52 = .ok (.iload 5, 2) := by decide +kernel
theorem dX10_findCosts_54 : decode cX10_findCosts 54 = .ok (.invokevirtual 247, 3) := by decide +kernel
theorem dX10_findCosts_57 : decode cX10_findCosts 57 = .ok (.ifCond .eq 36, 3) := by decide +kernel
theorem dX10_findCosts_60 : decode cX10_findCosts 60 = .ok (.aload_n 0, 1) := by decide +kernel
theorem dX10_findCosts_61 : decode cX10_findCosts 61 = .ok (.getfield 92, 3) := by decide +kernel
theorem dX10_findCosts_64 : decode cX10_findCosts 64 = .ok (.iconst 5, 1) := by decide +kernel
theorem dX10_findCosts_65 : decode cX10_findCosts 65 = .ok (.iload_n 1, 1) := by decide +kernel
theorem dX10_findCosts_66 : decode cX10_findCosts 66 = .ok (.iconst 1, 1) := by decide +kernel
theorem dX10_findCosts_67 : decode cX10_findCosts 67 = .ok (.iload 5, 2) := by decide +kernel
theorem dX10_findCosts_69 : decode cX10_findCosts 69 = .ok (.ishl, 1) := by decide +kernel
theorem dX10_findCosts_70 : decode cX10_findCosts 70 = .ok (.ior, 1) := by decide +kernel
theorem dX10_findCosts_71 : decode cX10_findCosts 71 = .ok (.imul, 1) := by decide +kernel
theorem dX10_findCosts_72 : decode cX10_findCosts 72 = .ok (.iload_n 3, 1) := by decide +kernel
theorem dX10_findCosts_73 : decode cX10_findCosts 73 = .ok (.iadd, 1) := by decide +kernel
theorem dX10_findCosts_74 : decode cX10_findCosts 74 = .ok (.iaload, 1) := by decide +kernel
theorem dX10_findCosts_75 : decode cX10_findCosts 75 = .ok (.istore 6, 2) := by decide +kernel
theorem dX10_findCosts_77 : decode cX10_findCosts 77 = .ok (.iload 6, 2) := by decide +kernel
theorem dX10_findCosts_79 : decode cX10_findCosts 79 = .ok (.iload 4, 2) := by decide +kernel
theorem dX10_findCosts_81 : decode cX10_findCosts 81 = .ok (.if_icmp .ge 8, 3) := by decide +kernel
theorem dX10_findCosts_84 : decode cX10_findCosts 84 = .ok (.iload 6, 2) := by decide +kernel
theorem dX10_findCosts_86 : decode cX10_findCosts 86 = .ok (.goto 5, 3) := by decide +kernel
theorem dX10_findCosts_89 : decode cX10_findCosts 89 = .ok (.iload 4, 2) := by decide +kernel
theorem dX10_findCosts_91 : decode cX10_findCosts 91 = .ok (.istore 4, 2) := by decide +kernel
theorem dX10_findCosts_93 : decode cX10_findCosts 93 = .ok (.iinc 5 1, 3) := by decide +kernel
theorem dX10_findCosts_96 : decode cX10_findCosts 96 = .ok (.goto (-70), 3) := by decide +kernel
theorem dX10_findCosts_99 : decode cX10_findCosts 99 = .ok (.aload_n 0, 1) := by decide +kernel
theorem dX10_findCosts_100 : decode cX10_findCosts 100 = .ok (.getfield 92, 3) := by decide +kernel
theorem dX10_findCosts_103 : decode cX10_findCosts 103 = .ok (.iconst 5, 1) := by decide +kernel
theorem dX10_findCosts_104 : decode cX10_findCosts 104 = .ok (.iload_n 1, 1) := by decide +kernel
theorem dX10_findCosts_105 : decode cX10_findCosts 105 = .ok (.imul, 1) := by decide +kernel
theorem dX10_findCosts_106 : decode cX10_findCosts 106 = .ok (.iload_n 3, 1) := by decide +kernel
theorem dX10_findCosts_107 : decode cX10_findCosts 107 = .ok (.iadd, 1) := by decide +kernel
theorem dX10_findCosts_108 : decode cX10_findCosts 108 = .ok (.iload 4, 2) := by decide +kernel
theorem dX10_findCosts_110 : decode cX10_findCosts 110 = .ok (.iastore, 1) := by decide +kernel
theorem dX10_findCosts_111 : decode cX10_findCosts 111 = .ok (.iinc 3 1, 3) := by decide +kernel
theorem dX10_findCosts_114 : decode cX10_findCosts 114 = .ok (.goto (-112), 3) := by decide +kernel
theorem dX10_findCosts_117 : decode cX10_findCosts 117 = .ok (.iconst 0, 1) := by decide +kernel
theorem dX10_findCosts_118 : decode cX10_findCosts 118 = .ok (.istore_n 3, 1) := by decide +kernel
theorem dX10_findCosts_119 : decode cX10_findCosts 119 = .ok (.iload_n 3, 1) := by decide +kernel
theorem dX10_findCosts_120 : decode cX10_findCosts 120 = .ok (.aload_n 0, 1) := by decide +kernel
theorem dX10_findCosts_121 : decode cX10_findCosts 121 = .ok (.getfield 236, 3) := by decide +kernel
theorem dX10_findCosts_124 : decode cX10_findCosts 124 = .ok (.if_icmp .ge 117, 3) := by decide +kernel
theorem dX10_findCosts_127 : decode cX10_findCosts 127 = .ok (.iconst 0, 1) := by decide +kernel
theorem dX10_findCosts_128 : decode cX10_findCosts 128 = .ok (.istore 4, 2) := by decide +kernel
theorem dX10_findCosts_130 : decode cX10_findCosts 130 = .ok (.iload 4, 2) := by decide +kernel
theorem dX10_findCosts_132 : decode cX10_findCosts 132 = .ok (.aload_n 0, 1) := by decide +kernel
theorem dX10_findCosts_133 : decode cX10_findCosts 133 = .ok (.getfield 236, 3) := by decide +kernel
theorem dX10_findCosts_136 : decode cX10_findCosts 136 = .ok (.if_icmp .ge 99, 3) := by decide +kernel
theorem dX10_findCosts_139 : decode cX10_findCosts 139 = .ok (.iconst 0, 1) := by decide +kernel
theorem dX10_findCosts_140 : decode cX10_findCosts 140 = .ok (.istore 5, 2) := by decide +kernel
theorem dX10_findCosts_142 : decode cX10_findCosts 142 = .ok (.iload 5, 2) := by decide +kernel
theorem dX10_findCosts_144 : decode cX10_findCosts 144 = .ok (.aload_n 0, 1) := by decide +kernel
theorem dX10_findCosts_145 : decode cX10_findCosts 145 = .ok (.getfield 236, 3) := by decide +kernel
theorem dX10_findCosts_148 : decode cX10_findCosts 148 = .ok (.if_icmp .ge 81, 3) := by decide +kernel
theorem dX10_findCosts_151 : decode cX10_findCosts 151 = .ok (.aload_n 0, 1) := by decide +kernel
theorem dX10_findCosts_152 : decode cX10_findCosts 152 = .ok (.getfield 78, 3) := by decide +kernel
theorem dX10_findCosts_155 : decode cX10_findCosts 155 = .ok (.iconst 5, 1) := by decide +kernel
theorem dX10_findCosts_156 : decode cX10_findCosts 156 = .ok (.iload 4, 2) := by decide +kernel
theorem dX10_findCosts_158 : decode cX10_findCosts 158 = .ok (.imul, 1) := by decide +kernel
theorem dX10_findCosts_159 : decode cX10_findCosts 159 = .ok (.iload 5, 2) := by decide +kernel
theorem dX10_findCosts_161 : decode cX10_findCosts 161 = .ok (.iadd, 1) := by decide +kernel
theorem dX10_findCosts_162 : decode cX10_findCosts 162 = .ok (.iaload, 1) := by decide +kernel
theorem dX10_findCosts_163 : decode cX10_findCosts 163 = .ok (.aload_n 0, 1) := by decide +kernel
theorem dX10_findCosts_164 : decode cX10_findCosts 164 = .ok (.getfield 92, 3) := by decide +kernel
theorem dX10_findCosts_167 : decode cX10_findCosts 167 = .ok (.iconst 5, 1) := by decide +kernel
theorem dX10_findCosts_168 : decode cX10_findCosts 168 = .ok (.iload_n 1, 1) := by decide +kernel
theorem dX10_findCosts_169 : decode cX10_findCosts 169 = .ok (.imul, 1) := by decide +kernel
theorem dX10_findCosts_170 : decode cX10_findCosts 170 = .ok (.iload 5, 2) := by decide +kernel
theorem dX10_findCosts_172 : decode cX10_findCosts 172 = .ok (.iadd, 1) := by decide +kernel
theorem dX10_findCosts_173 : decode cX10_findCosts 173 = .ok (.iaload, 1) := by decide +kernel
theorem dX10_findCosts_174 : decode cX10_findCosts 174 = .ok (.iadd, 1) := by decide +kernel
theorem dX10_findCosts_175 : decode cX10_findCosts 175 = .ok (.istore 6, 2) := by decide +kernel
theorem dX10_findCosts_177 : decode cX10_findCosts 177 = .ok (.iload 4, 2) := by decide +kernel
theorem dX10_findCosts_179 : decode cX10_findCosts 179 = .ok (.iload 5, 2) := by decide +kernel
theorem dX10_findCosts_181 : decode cX10_findCosts 181 = .ok (.if_icmp .eq 42, 3) := by decide +kernel
theorem dX10_findCosts_184 : decode cX10_findCosts 184 = .ok (.aload_n 0, 1) := by decide +kernel
theorem dX10_findCosts_185 : decode cX10_findCosts 185 = .ok (.iload_n 1, 1) := by decide +kernel
theorem dX10_findCosts_186 : decode cX10_findCosts 186 = .ok (.iload 5, 2) := by decide +kernel
theorem dX10_findCosts_188 : decode cX10_findCosts 188 = .ok (.invokevirtual 251, 3) := by decide +kernel
theorem dX10_findCosts_191 : decode cX10_findCosts 191 = .ok (.ifCond .eq 32, 3) := by decide +kernel
theorem dX10_findCosts_194 : decode cX10_findCosts 194 = .ok (.iload 6, 2) := by decide +kernel
theorem dX10_findCosts_196 : decode cX10_findCosts 196 = .ok (.aload_n 0, 1) := by decide +kernel
theorem dX10_findCosts_197 : decode cX10_findCosts 197 = .ok (.getfield 92, 3) := by decide +kernel
theorem dX10_findCosts_200 : decode cX10_findCosts 200 = .ok (.iconst 5, 1) := by decide +kernel
theorem dX10_findCosts_201 : decode cX10_findCosts 201 = .ok (.iload_n 1, 1) := by decide +kernel
theorem dX10_findCosts_202 : decode cX10_findCosts 202 = .ok (.imul, 1) := by decide +kernel
theorem dX10_findCosts_203 : decode cX10_findCosts 203 = .ok (.iload 4, 2) := by decide +kernel
theorem dX10_findCosts_205 : decode cX10_findCosts 205 = .ok (.iadd, 1) := by decide +kernel
theorem dX10_findCosts_206 : decode cX10_findCosts 206 = .ok (.iaload, 1) := by decide +kernel
theorem dX10_findCosts_207 : decode cX10_findCosts 207 = .ok (.if_icmp .ge 16, 3) := by decide +kernel
theorem dX10_findCosts_210 : decode cX10_findCosts 210 = .ok (.aload_n 0, 1) := by decide +kernel
theorem dX10_findCosts_211 : decode cX10_findCosts 211 = .ok (.getfield 92, 3) := by decide +kernel
theorem dX10_findCosts_214 : decode cX10_findCosts 214 = .ok (.iconst 5, 1) := by decide +kernel
theorem dX10_findCosts_215 : decode cX10_findCosts 215 = .ok (.iload_n 1, 1) := by decide +kernel
theorem dX10_findCosts_216 : decode cX10_findCosts 216 = .ok (.imul, 1) := by decide +kernel
theorem dX10_findCosts_217 : decode cX10_findCosts 217 = .ok (.iload 4, 2) := by decide +kernel
theorem dX10_findCosts_219 : decode cX10_findCosts 219 = .ok (.iadd, 1) := by decide +kernel
theorem dX10_findCosts_220 : decode cX10_findCosts 220 = .ok (.iload 6, 2) := by decide +kernel
theorem dX10_findCosts_222 : decode cX10_findCosts 222 = .ok (.iastore, 1) := by decide +kernel
theorem dX10_findCosts_223 : decode cX10_findCosts 223 = .ok (.iinc 5 1, 3) := by decide +kernel
theorem dX10_findCosts_226 : decode cX10_findCosts 226 = .ok (.goto (-84), 3) := by decide +kernel
theorem dX10_findCosts_229 : decode cX10_findCosts 229 = .ok (.iinc 4 1, 3) := by decide +kernel
theorem dX10_findCosts_232 : decode cX10_findCosts 232 = .ok (.goto (-102), 3) := by decide +kernel
theorem dX10_findCosts_235 : decode cX10_findCosts 235 = .ok (.iinc 3 1, 3) := by decide +kernel
theorem dX10_findCosts_238 : decode cX10_findCosts 238 = .ok (.goto (-119), 3) := by decide +kernel
theorem dX10_findCosts_241 : decode cX10_findCosts 241 = .ok (.return_, 1) := by decide +kernel
theorem dX10_actAt_0 : decode cX10_actAt 0 = .ok (.aload_n 0, 1) := by decide +kernel
theorem dX10_actAt_1 : decode cX10_actAt 1 = .ok (.getfield 92, 3) := by decide +kernel
theorem dX10_actAt_4 : decode cX10_actAt 4 = .ok (.iconst 5, 1) := by decide +kernel
theorem dX10_actAt_5 : decode cX10_actAt 5 = .ok (.iload_n 1, 1) := by decide +kernel
theorem dX10_actAt_6 : decode cX10_actAt 6 = .ok (.imul, 1) := by decide +kernel
theorem dX10_actAt_7 : decode cX10_actAt 7 = .ok (.iload_n 2, 1) := by decide +kernel
theorem dX10_actAt_8 : decode cX10_actAt 8 = .ok (.iadd, 1) := by decide +kernel
theorem dX10_actAt_9 : decode cX10_actAt 9 = .ok (.iaload, 1) := by decide +kernel
theorem dX10_actAt_10 : decode cX10_actAt 10 = .ok (.istore_n 3, 1) := by decide +kernel
theorem dX10_actAt_11 : decode cX10_actAt 11 = .ok (.iconst 0, 1) := by decide +kernel
theorem dX10_actAt_12 : decode cX10_actAt 12 = .ok (.istore 4, 2) := by decide +kernel
theorem dX10_actAt_14 : decode cX10_actAt 14 = .ok (.iload 4, 2) := by decide +kernel
theorem dX10_actAt_16 : decode cX10_actAt 16 = .ok (.aload_n 0, 1) := by decide +kernel
theorem dX10_actAt_17 : decode cX10_actAt 17 = .ok (.getfield 224, 3) := by decide +kernel
theorem dX10_actAt_20 : decode cX10_actAt 20 = .ok (.if_icmp .ge 51, 3) := by decide +kernel
theorem dX10_actAt_23 : decode cX10_actAt 23 = .ok (.aload_n 0, 1) := by decide +kernel
theorem dX10_actAt_24 : decode cX10_actAt 24 = .ok (.iload_n 2, 1) := by decide +kernel
theorem dX10_actAt_25 : decode cX10_actAt 25 = .ok (.iload 4, 2) := by decide +kernel
theorem dX10_actAt_27 : decode cX10_actAt 27 = .ok (.invokevirtual 244, 3) := by decide +kernel
theorem dX10_actAt_30 : decode cX10_actAt 30 = .ok (.ifCond .eq 35, 3) := by decide +kernel
theorem dX10_actAt_33 : decode cX10_actAt 33 = .ok (.aload_n 0, 1) := by decide +kernel
theorem dX10_actAt_34 : decode cX10_actAt 34 = .ok (.iload_n 1, 1) := by decide +kernel
theorem dX10_actAt_35 : decode cX10_actAt 35 = .ok (.iload 4, 2) := by decide +kernel
theorem dX10_actAt_37 : decode cX10_actAt 37 = .ok (.invokevirtual 247, 3) := by decide +kernel
theorem dX10_actAt_40 : decode cX10_actAt 40 = .ok (.ifCond .eq 25, 3) := by decide +kernel
theorem dX10_actAt_43 : decode cX10_actAt 43 = .ok (.aload_n 0, 1) := by decide +kernel
theorem dX10_actAt_44 : decode cX10_actAt 44 = .ok (.getfield 92, 3) := by decide +kernel
theorem dX10_actAt_47 : decode cX10_actAt 47 = .ok (.iconst 5, 1) := by decide +kernel
theorem dX10_actAt_48 : decode cX10_actAt 48 = .ok (.iload_n 1, 1) := by decide +kernel
theorem dX10_actAt_49 : decode cX10_actAt 49 = .ok (.iconst 1, 1) := by decide +kernel
theorem dX10_actAt_50 : decode cX10_actAt 50 = .ok (.iload 4, 2) := by decide +kernel
theorem dX10_actAt_52 : decode cX10_actAt 52 = .ok (.ishl, 1) := by decide +kernel
theorem dX10_actAt_53 : decode cX10_actAt 53 = .ok (.ior, 1) := by decide +kernel
theorem dX10_actAt_54 : decode cX10_actAt 54 = .ok (.imul, 1) := by decide +kernel
theorem dX10_actAt_55 : decode cX10_actAt 55 = .ok (.iload_n 2, 1) := by decide +kernel
theorem dX10_actAt_56 : decode cX10_actAt 56 = .ok (.iadd, 1) := by decide +kernel
theorem dX10_actAt_57 : decode cX10_actAt 57 = .ok (.iaload, 1) := by decide +kernel
theorem dX10_actAt_58 : decode cX10_actAt 58 = .ok (.iload_n 3, 1) := by decide +kernel
theorem dX10_actAt_59 : decode cX10_actAt 59 = .ok (.if_icmp .ne 6, 3) := by decide +kernel
theorem dX10_actAt_62 : decode cX10_actAt 62 = .ok (.iload 4, 2) := by decide +kernel
theorem dX10_actAt_64 : decode cX10_actAt 64 = .ok (.ireturn, 1) := by decide +kernel
theorem dX10_actAt_65 : decode cX10_actAt 65 = .ok (.iinc 4 1, 3) := by decide +kernel
theorem dX10_actAt_68 : decode cX10_actAt 68 = .ok (.goto (-54), 3) := by decide +kernel
theorem dX10_actAt_71 : decode cX10_actAt 71 = .ok (.iconst 0, 1) := by decide +kernel
theorem dX10_actAt_72 : decode cX10_actAt 72 = .ok (.istore 4, 2) := by decide +kernel
theorem dX10_actAt_74 : decode cX10_actAt 74 = .ok (.iload 4, 2) := by decide +kernel
theorem dX10_actAt_76 : decode cX10_actAt 76 = .ok (.iload_n 2, 1) := by decide +kernel
theorem dX10_actAt_77 : decode cX10_actAt 77 = .ok (.if_icmp .eq 40, 3) := by decide +kernel
theorem dX10_actAt_80 : decode cX10_actAt 80 = .ok (.aload_n 0, 1) := by decide +kernel
theorem dX10_actAt_81 : decode cX10_actAt 81 = .ok (.iload_n 1, 1) := by decide +kernel
theorem dX10_actAt_82 : decode cX10_actAt 82 = .ok (.iload 4, 2) := by decide +kernel
theorem dX10_actAt_84 : decode cX10_actAt 84 = .ok (.invokevirtual 251, 3) := by decide +kernel
theorem dX10_actAt_87 : decode cX10_actAt 87 = .ok (.ifCond .eq 30, 3) := by decide +kernel
theorem dX10_actAt_90 : decode cX10_actAt 90 = .ok (.aload_n 0, 1) := by decide +kernel
theorem dX10_actAt_91 : decode cX10_actAt 91 = .ok (.getfield 78, 3) := by decide +kernel
theorem dX10_actAt_94 : decode cX10_actAt 94 = .ok (.iconst 5, 1) := by decide +kernel
theorem dX10_actAt_95 : decode cX10_actAt 95 = .ok (.iload_n 2, 1) := by decide +kernel
theorem dX10_actAt_96 : decode cX10_actAt 96 = .ok (.imul, 1) := by decide +kernel
theorem dX10_actAt_97 : decode cX10_actAt 97 = .ok (.iload 4, 2) := by decide +kernel
theorem dX10_actAt_99 : decode cX10_actAt 99 = .ok (.iadd, 1) := by decide +kernel
theorem dX10_actAt_100 : decode cX10_actAt 100 = .ok (.iaload, 1) := by decide +kernel
theorem dX10_actAt_101 : decode cX10_actAt 101 = .ok (.aload_n 0, 1) := by decide +kernel
theorem dX10_actAt_102 : decode cX10_actAt 102 = .ok (.getfield 92, 3) := by decide +kernel
theorem dX10_actAt_105 : decode cX10_actAt 105 = .ok (.iconst 5, 1) := by decide +kernel
theorem dX10_actAt_106 : decode cX10_actAt 106 = .ok (.iload_n 1, 1) := by decide +kernel
theorem dX10_actAt_107 : decode cX10_actAt 107 = .ok (.imul, 1) := by decide +kernel
theorem dX10_actAt_108 : decode cX10_actAt 108 = .ok (.iload 4, 2) := by decide +kernel
theorem dX10_actAt_110 : decode cX10_actAt 110 = .ok (.iadd, 1) := by decide +kernel
theorem dX10_actAt_111 : decode cX10_actAt 111 = .ok (.iaload, 1) := by decide +kernel
theorem dX10_actAt_112 : decode cX10_actAt 112 = .ok (.iadd, 1) := by decide +kernel
theorem dX10_actAt_113 : decode cX10_actAt 113 = .ok (.iload_n 3, 1) := by decide +kernel
theorem dX10_actAt_114 : decode cX10_actAt 114 = .ok (.if_icmp .eq 9, 3) := by decide +kernel
theorem dX10_actAt_117 : decode cX10_actAt 117 = .ok (.iinc 4 1, 3) := by decide +kernel
theorem dX10_actAt_120 : decode cX10_actAt 120 = .ok (.goto (-46), 3) := by decide +kernel
theorem dX10_actAt_123 : decode cX10_actAt 123 = .ok (.bipush 100, 2) := by decide +kernel
theorem dX10_actAt_125 : decode cX10_actAt 125 = .ok (.iload 4, 2) := by decide +kernel
theorem dX10_actAt_127 : decode cX10_actAt 127 = .ok (.iadd, 1) := by decide +kernel
theorem dX10_actAt_128 : decode cX10_actAt 128 = .ok (.ireturn, 1) := by decide +kernel
theorem dX10_findPlan_0 : decode cX10_findPlan 0 = .ok (.aload_n 0, 1) := by decide +kernel
theorem dX10_findPlan_1 : decode cX10_findPlan 1 = .ok (.getfield 227, 3) := by decide +kernel
theorem dX10_findPlan_4 : decode cX10_findPlan 4 = .ok (.ifCond .eq 4, 3) := by decide +kernel
theorem dX10_findPlan_7 : decode cX10_findPlan 7 = .ok (.return_, 1) := by decide +kernel
theorem dX10_findPlan_8 : decode cX10_findPlan 8 = .ok (.aload_n 0, 1) := by decide +kernel
theorem dX10_findPlan_9 : decode cX10_findPlan 9 = .ok (.iconst 1, 1) := by decide +kernel
theorem dX10_findPlan_10 : decode cX10_findPlan 10 = .ok (.putfield 227, 3) := by decide +kernel
theorem dX10_findPlan_13 : decode cX10_findPlan 13 = .ok (.aload_n 0, 1) := by decide +kernel
theorem dX10_findPlan_14 : decode cX10_findPlan 14 = .ok (.iconst 0, 1) := by decide +kernel
theorem dX10_findPlan_15 : decode cX10_findPlan 15 = .ok (.putfield 254, 3) := by decide +kernel
theorem dX10_findPlan_18 : decode cX10_findPlan 18 = .ok (.aload_n 0, 1) := by decide +kernel
theorem dX10_findPlan_19 : decode cX10_findPlan 19 = .ok (.iconst (-1), 1) := by decide +kernel
theorem dX10_findPlan_20 : decode cX10_findPlan 20 = .ok (.putfield 257, 3) := by decide +kernel
theorem dX10_findPlan_23 : decode cX10_findPlan 23 = .ok (.iconst 1, 1) := by decide +kernel
theorem dX10_findPlan_24 : decode cX10_findPlan 24 = .ok (.aload_n 0, 1) := by decide +kernel
theorem dX10_findPlan_25 : decode cX10_findPlan 25 = .ok (.getfield 224, 3) := by decide +kernel
theorem dX10_findPlan_28 : decode cX10_findPlan 28 = .ok (.ishl, 1) := by decide +kernel
theorem dX10_findPlan_29 : decode cX10_findPlan 29 = .ok (.iconst 1, 1) := by decide +kernel
theorem dX10_findPlan_30 : decode cX10_findPlan 30 = .ok (.isub, 1) := by decide +kernel
theorem dX10_findPlan_31 : decode cX10_findPlan 31 = .ok (.istore_n 1, 1) := by decide +kernel
theorem dX10_findPlan_32 : decode cX10_findPlan 32 = .ok (.aload_n 0, 1) := by decide +kernel
theorem dX10_findPlan_33 : decode cX10_findPlan 33 = .ok (.getfield 236, 3) := by decide +kernel
theorem dX10_findPlan_36 : decode cX10_findPlan 36 = .ok (.ifCond .ne 4, 3) := by decide +kernel
theorem dX10_findPlan_39 : decode cX10_findPlan 39 = .ok (.return_, 1) := by decide +kernel
theorem dX10_findPlan_40 : decode cX10_findPlan 40 = .ok (.iload_n 1, 1) := by decide +kernel
theorem dX10_findPlan_41 : decode cX10_findPlan 41 = .ok (.istore_n 2, 1) := by decide +kernel
theorem dX10_findPlan_42 : decode cX10_findPlan 42 = .ok (.iload_n 2, 1) := by decide +kernel
theorem dX10_findPlan_43 : decode cX10_findPlan 43 = .ok (.ifCond .lt 15, 3) := by decide +kernel
theorem dX10_findPlan_46 : decode cX10_findPlan 46 = .ok (.aload_n 0, 1) := by decide +kernel
theorem dX10_findPlan_47 : decode cX10_findPlan 47 = .ok (.iload_n 2, 1) := by decide +kernel
theorem dX10_findPlan_48 : decode cX10_findPlan 48 = .ok (.iload_n 1, 1) := by decide +kernel
theorem dX10_findPlan_49 : decode cX10_findPlan 49 = .ok (.invokevirtual 260, 3) := by decide +kernel
theorem dX10_findPlan_52 : decode cX10_findPlan 52 = .ok (.iinc 2 (-1), 3) := by decide +kernel
theorem dX10_findPlan_55 : decode cX10_findPlan 55 = .ok (.goto (-13), 3) := by decide +kernel
theorem dX10_findPlan_58 : decode cX10_findPlan 58 = .ok (.aload_n 0, 1) := by decide +kernel
theorem dX10_findPlan_59 : decode cX10_findPlan 59 = .ok (.getfield 92, 3) := by decide +kernel
theorem dX10_findPlan_62 : decode cX10_findPlan 62 = .ok (.iconst 0, 1) := by decide +kernel
theorem dX10_findPlan_63 : decode cX10_findPlan 63 = .ok (.iaload, 1) := by decide +kernel
theorem dX10_findPlan_64 : decode cX10_findPlan 64 = .ok (.ldc 250, 2) := by decide +kernel
theorem dX10_findPlan_66 : decode cX10_findPlan 66 = .ok (.if_icmp .lt 4, 3) := by decide +kernel
theorem dX10_findPlan_69 : decode cX10_findPlan 69 = .ok (.return_, 1) := by decide +kernel
theorem dX10_findPlan_70 : decode cX10_findPlan 70 = .ok (.aload_n 0, 1) := by decide +kernel
theorem dX10_findPlan_71 : decode cX10_findPlan 71 = .ok (.aload_n 0, 1) := by decide +kernel
theorem dX10_findPlan_72 : decode cX10_findPlan 72 = .ok (.getfield 92, 3) := by decide +kernel
theorem dX10_findPlan_75 : decode cX10_findPlan 75 = .ok (.iconst 0, 1) := by decide +kernel
theorem dX10_findPlan_76 : decode cX10_findPlan 76 = .ok (.iaload, 1) := by decide +kernel
theorem dX10_findPlan_77 : decode cX10_findPlan 77 = .ok (.putfield 257, 3) := by decide +kernel
theorem dX10_findPlan_80 : decode cX10_findPlan 80 = .ok (.iconst 0, 1) := by decide +kernel
theorem dX10_findPlan_81 : decode cX10_findPlan 81 = .ok (.istore_n 2, 1) := by decide +kernel
theorem dX10_findPlan_82 : decode cX10_findPlan 82 = .ok (.iconst 0, 1) := by decide +kernel
theorem dX10_findPlan_83 : decode cX10_findPlan 83 = .ok (.istore_n 3, 1) := by decide +kernel
theorem dX10_findPlan_84 : decode cX10_findPlan 84 = .ok (.iload_n 2, 1) := by decide +kernel
theorem dX10_findPlan_85 : decode cX10_findPlan 85 = .ok (.iload_n 1, 1) := by decide +kernel
theorem dX10_findPlan_86 : decode cX10_findPlan 86 = .ok (.if_icmp .eq 70, 3) := by decide +kernel
theorem dX10_findPlan_89 : decode cX10_findPlan 89 = .ok (.aload_n 0, 1) := by decide +kernel
theorem dX10_findPlan_90 : decode cX10_findPlan 90 = .ok (.iload_n 2, 1) := by decide +kernel
theorem dX10_findPlan_91 : decode cX10_findPlan 91 = .ok (.iload_n 3, 1) := by decide +kernel
theorem dX10_findPlan_92 : decode cX10_findPlan 92 = .ok (.invokevirtual 263, 3) := by decide +kernel
theorem dX10_findPlan_95 : decode cX10_findPlan 95 = .ok (.istore 4, 2) := by decide +kernel
theorem dX10_findPlan_97 : decode cX10_findPlan 97 = .ok (.aload_n 0, 1) := by decide +kernel
theorem dX10_findPlan_98 : decode cX10_findPlan 98 = .ok (.getfield 95, 3) := by decide +kernel
theorem dX10_findPlan_101 : decode cX10_findPlan 101 = .ok (.aload_n 0, 1) := by decide +kernel
theorem dX10_findPlan_102 : decode cX10_findPlan 102 = .ok (.getfield 254, 3) := by decide +kernel
theorem dX10_findPlan_105 : decode cX10_findPlan 105 = .ok (.iload 4, 2) := by decide +kernel
theorem dX10_findPlan_107 : decode cX10_findPlan 107 = .ok (.iastore, 1) := by decide +kernel
theorem dX10_findPlan_108 : decode cX10_findPlan 108 = .ok (.aload_n 0, 1) := by decide +kernel
theorem dX10_findPlan_109 : decode cX10_findPlan 109 = .ok (.dup, 1) := by decide +kernel
theorem dX10_findPlan_110 : decode cX10_findPlan 110 = .ok (.getfield 254, 3) := by decide +kernel
theorem dX10_findPlan_113 : decode cX10_findPlan 113 = .ok (.iconst 1, 1) := by decide +kernel
theorem dX10_findPlan_114 : decode cX10_findPlan 114 = .ok (.iadd, 1) := by decide +kernel
theorem dX10_findPlan_115 : decode cX10_findPlan 115 = .ok (.putfield 254, 3) := by decide +kernel
theorem dX10_findPlan_118 : decode cX10_findPlan 118 = .ok (.iload 4, 2) := by decide +kernel
theorem dX10_findPlan_120 : decode cX10_findPlan 120 = .ok (.bipush 100, 2) := by decide +kernel
theorem dX10_findPlan_122 : decode cX10_findPlan 122 = .ok (.if_icmp .ge 12, 3) := by decide +kernel
theorem dX10_findPlan_125 : decode cX10_findPlan 125 = .ok (.iload_n 2, 1) := by decide +kernel
theorem dX10_findPlan_126 : decode cX10_findPlan 126 = .ok (.iconst 1, 1) := by decide +kernel
theorem dX10_findPlan_127 : decode cX10_findPlan 127 = .ok (.iload 4, 2) := by decide +kernel
theorem dX10_findPlan_129 : decode cX10_findPlan 129 = .ok (.ishl, 1) := by decide +kernel
theorem dX10_findPlan_130 : decode cX10_findPlan 130 = .ok (.ior, 1) := by decide +kernel
theorem dX10_findPlan_131 : decode cX10_findPlan 131 = .ok (.goto 4, 3) := by decide +kernel
theorem dX10_findPlan_134 : decode cX10_findPlan 134 = .ok (.iload_n 2, 1) := by decide +kernel
theorem dX10_findPlan_135 : decode cX10_findPlan 135 = .ok (.istore_n 2, 1) := by decide +kernel
theorem dX10_findPlan_136 : decode cX10_findPlan 136 = .ok (.iload 4, 2) := by decide +kernel
theorem dX10_findPlan_138 : decode cX10_findPlan 138 = .ok (.bipush 100, 2) := by decide +kernel
theorem dX10_findPlan_140 : decode cX10_findPlan 140 = .ok (.if_icmp .ge 7, 3) := by decide +kernel
theorem dX10_findPlan_143 : decode cX10_findPlan 143 = .ok (.iload_n 3, 1) := by decide +kernel
theorem dX10_findPlan_144 : decode cX10_findPlan 144 = .ok (.goto 8, 3) := by decide +kernel
theorem dX10_findPlan_147 : decode cX10_findPlan 147 = .ok (.iload 4, 2) := by decide +kernel
theorem dX10_findPlan_149 : decode cX10_findPlan 149 = .ok (.bipush 100, 2) := by decide +kernel
theorem dX10_findPlan_151 : decode cX10_findPlan 151 = .ok (.isub, 1) := by decide +kernel
theorem dX10_findPlan_152 : decode cX10_findPlan 152 = .ok (.istore_n 3, 1) := by decide +kernel
theorem dX10_findPlan_153 : decode cX10_findPlan 153 = .ok (.goto (-69), 3) := by decide +kernel
theorem dX10_findPlan_156 : decode cX10_findPlan 156 = .ok (.return_, 1) := by decide +kernel
theorem dX10_plan_0 : decode cX10_plan 0 = .ok (.aload_n 0, 1) := by decide +kernel
theorem dX10_plan_1 : decode cX10_plan 1 = .ok (.getfield 236, 3) := by decide +kernel
theorem dX10_plan_4 : decode cX10_plan 4 = .ok (.ifCond .ne 6, 3) := by decide +kernel
theorem dX10_plan_7 : decode cX10_plan 7 = .ok (.bipush (-3), 2) := by decide +kernel
theorem dX10_plan_9 : decode cX10_plan 9 = .ok (.ireturn, 1) := by decide +kernel
theorem dX10_plan_10 : decode cX10_plan 10 = .ok (.aload_n 0, 1) := by decide +kernel
theorem dX10_plan_11 : decode cX10_plan 11 = .ok (.invokevirtual 266, 3) := by decide +kernel
theorem dX10_plan_14 : decode cX10_plan 14 = .ok (.aload_n 0, 1) := by decide +kernel
theorem dX10_plan_15 : decode cX10_plan 15 = .ok (.getfield 257, 3) := by decide +kernel
theorem dX10_plan_18 : decode cX10_plan 18 = .ok (.ireturn, 1) := by decide +kernel
theorem dX10_act_0 : decode cX10_act 0 = .ok (.iload_n 1, 1) := by decide +kernel
theorem dX10_act_1 : decode cX10_act 1 = .ok (.ifCond .ge 6, 3) := by decide +kernel
theorem dX10_act_4 : decode cX10_act 4 = .ok (.bipush (-2), 2) := by decide +kernel
theorem dX10_act_6 : decode cX10_act 6 = .ok (.ireturn, 1) := by decide +kernel
theorem dX10_act_7 : decode cX10_act 7 = .ok (.aload_n 0, 1) := by decide +kernel
theorem dX10_act_8 : decode cX10_act 8 = .ok (.getfield 236, 3) := by decide +kernel
theorem dX10_act_11 : decode cX10_act 11 = .ok (.ifCond .ne 6, 3) := by decide +kernel
theorem dX10_act_14 : decode cX10_act 14 = .ok (.bipush (-3), 2) := by decide +kernel
theorem dX10_act_16 : decode cX10_act 16 = .ok (.ireturn, 1) := by decide +kernel
theorem dX10_act_17 : decode cX10_act 17 = .ok (.aload_n 0, 1) := by decide +kernel
theorem dX10_act_18 : decode cX10_act 18 = .ok (.invokevirtual 266, 3) := by decide +kernel
theorem dX10_act_21 : decode cX10_act 21 = .ok (.iload_n 1, 1) := by decide +kernel
theorem dX10_act_22 : decode cX10_act 22 = .ok (.aload_n 0, 1) := by decide +kernel
theorem dX10_act_23 : decode cX10_act 23 = .ok (.getfield 254, 3) := by decide +kernel
theorem dX10_act_26 : decode cX10_act 26 = .ok (.if_icmp .ge 12, 3) := by decide +kernel
theorem dX10_act_29 : decode cX10_act 29 = .ok (.aload_n 0, 1) := by decide +kernel
theorem dX10_act_30 : decode cX10_act 30 = .ok (.getfield 95, 3) := by decide +kernel
theorem dX10_act_33 : decode cX10_act 33 = .ok (.iload_n 1, 1) := by decide +kernel
theorem dX10_act_34 : decode cX10_act 34 = .ok (.iaload, 1) := by decide +kernel
theorem dX10_act_35 : decode cX10_act 35 = .ok (.goto 4, 3) := by decide +kernel
theorem dX10_act_38 : decode cX10_act 38 = .ok (.iconst (-1), 1) := by decide +kernel
theorem dX10_act_39 : decode cX10_act 39 = .ok (.ireturn, 1) := by decide +kernel
theorem dX10_isDay_0 : decode cX10_isDay 0 = .ok (.iload_n 0, 1) := by decide +kernel
theorem dX10_isDay_1 : decode cX10_isDay 1 = .ok (.i2l, 1) := by decide +kernel
theorem dX10_isDay_2 : decode cX10_isDay 2 = .ok (.lconst 0, 1) := by decide +kernel
theorem dX10_isDay_3 : decode cX10_isDay 3 = .ok (.ldc2_w 269, 3) := by decide +kernel
theorem dX10_isDay_6 : decode cX10_isDay 6 = .ok (.invokestatic 126, 3) := by decide +kernel
theorem dX10_isDay_9 : decode cX10_isDay 9 = .ok (.ireturn, 1) := by decide +kernel
theorem dX10_light_0 : decode cX10_light 0 = .ok (.iload_n 1, 1) := by decide +kernel
theorem dX10_light_1 : decode cX10_light 1 = .ok (.invokestatic 271, 3) := by decide +kernel
theorem dX10_light_4 : decode cX10_light 4 = .ok (.ifCond .eq 28, 3) := by decide +kernel
theorem dX10_light_7 : decode cX10_light 7 = .ok (.iload_n 2, 1) := by decide +kernel
theorem dX10_light_8 : decode cX10_light 8 = .ok (.i2l, 1) := by decide +kernel
theorem dX10_light_9 : decode cX10_light 9 = .ok (.iload_n 1, 1) := by decide +kernel
theorem dX10_light_10 : decode cX10_light 10 = .ok (.i2l, 1) := by decide +kernel
theorem dX10_light_11 : decode cX10_light 11 = .ok (.ldc2_w 269, 3) := by decide +kernel
theorem dX10_light_14 : decode cX10_light 14 = .ok (.invokestatic 126, 3) := by decide +kernel
theorem dX10_light_17 : decode cX10_light 17 = .ok (.ifCond .eq 15, 3) := by decide +kernel
theorem dX10_light_20 : decode cX10_light 20 = .ok (.iload_n 3, 1) := by decide +kernel
theorem dX10_light_21 : decode cX10_light 21 = .ok (.i2l, 1) := by decide +kernel
theorem dX10_light_22 : decode cX10_light 22 = .ok (.lconst 0, 1) := by decide +kernel
theorem dX10_light_23 : decode cX10_light 23 = .ok (.ldc2_w 274, 3) := by decide +kernel
theorem dX10_light_26 : decode cX10_light 26 = .ok (.invokestatic 126, 3) := by decide +kernel
theorem dX10_light_29 : decode cX10_light 29 = .ok (.ifCond .ne 6, 3) := by decide +kernel
theorem dX10_light_32 : decode cX10_light 32 = .ok (.bipush (-2), 2) := by decide +kernel
theorem dX10_light_34 : decode cX10_light 34 = .ok (.ireturn, 1) := by decide +kernel
theorem dX10_light_35 : decode cX10_light 35 = .ok (.iload_n 1, 1) := by decide +kernel
theorem dX10_light_36 : decode cX10_light 36 = .ok (.istore 4, 2) := by decide +kernel
theorem dX10_light_38 : decode cX10_light 38 = .ok (.iload 4, 2) := by decide +kernel
theorem dX10_light_40 : decode cX10_light 40 = .ok (.iload_n 2, 1) := by decide +kernel
theorem dX10_light_41 : decode cX10_light 41 = .ok (.if_icmp .gt 17, 3) := by decide +kernel
theorem dX10_light_44 : decode cX10_light 44 = .ok (.aload_n 0, 1) := by decide +kernel
theorem dX10_light_45 : decode cX10_light 45 = .ok (.getfield 98, 3) := by decide +kernel
theorem dX10_light_48 : decode cX10_light 48 = .ok (.iload 4, 2) := by decide +kernel
theorem dX10_light_50 : decode cX10_light 50 = .ok (.iload_n 3, 1) := by decide +kernel
theorem dX10_light_51 : decode cX10_light 51 = .ok (.iastore, 1) := by decide +kernel
theorem dX10_light_52 : decode cX10_light 52 = .ok (.iinc 4 1, 3) := by decide +kernel
theorem dX10_light_55 : decode cX10_light 55 = .ok (.goto (-17), 3) := by decide +kernel
theorem dX10_light_58 : decode cX10_light 58 = .ok (.iconst 1, 1) := by decide +kernel
theorem dX10_light_59 : decode cX10_light 59 = .ok (.ireturn, 1) := by decide +kernel
theorem dX10_frost_0 : decode cX10_frost 0 = .ok (.iload_n 1, 1) := by decide +kernel
theorem dX10_frost_1 : decode cX10_frost 1 = .ok (.invokestatic 271, 3) := by decide +kernel
theorem dX10_frost_4 : decode cX10_frost 4 = .ok (.ifCond .ne 6, 3) := by decide +kernel
theorem dX10_frost_7 : decode cX10_frost 7 = .ok (.bipush (-2), 2) := by decide +kernel
theorem dX10_frost_9 : decode cX10_frost 9 = .ok (.ireturn, 1) := by decide +kernel
theorem dX10_frost_10 : decode cX10_frost 10 = .ok (.aload_n 0, 1) := by decide +kernel
theorem dX10_frost_11 : decode cX10_frost 11 = .ok (.getfield 101, 3) := by decide +kernel
theorem dX10_frost_14 : decode cX10_frost 14 = .ok (.iload_n 1, 1) := by decide +kernel
theorem dX10_frost_15 : decode cX10_frost 15 = .ok (.baload, 1) := by decide +kernel
theorem dX10_frost_16 : decode cX10_frost 16 = .ok (.iload_n 2, 1) := by decide +kernel
theorem dX10_frost_17 : decode cX10_frost 17 = .ok (.if_icmp .ne 6, 3) := by decide +kernel
theorem dX10_frost_20 : decode cX10_frost 20 = .ok (.bipush (-3), 2) := by decide +kernel
theorem dX10_frost_22 : decode cX10_frost 22 = .ok (.ireturn, 1) := by decide +kernel
theorem dX10_frost_23 : decode cX10_frost 23 = .ok (.aload_n 0, 1) := by decide +kernel
theorem dX10_frost_24 : decode cX10_frost 24 = .ok (.getfield 101, 3) := by decide +kernel
theorem dX10_frost_27 : decode cX10_frost 27 = .ok (.iload_n 1, 1) := by decide +kernel
theorem dX10_frost_28 : decode cX10_frost 28 = .ok (.iload_n 2, 1) := by decide +kernel
theorem dX10_frost_29 : decode cX10_frost 29 = .ok (.bastore, 1) := by decide +kernel
theorem dX10_frost_30 : decode cX10_frost 30 = .ok (.iconst 1, 1) := by decide +kernel
theorem dX10_frost_31 : decode cX10_frost 31 = .ok (.ireturn, 1) := by decide +kernel
theorem dX10_mortar_0 : decode cX10_mortar 0 = .ok (.iload_n 1, 1) := by decide +kernel
theorem dX10_mortar_1 : decode cX10_mortar 1 = .ok (.i2l, 1) := by decide +kernel
theorem dX10_mortar_2 : decode cX10_mortar 2 = .ok (.lconst 0, 1) := by decide +kernel
theorem dX10_mortar_3 : decode cX10_mortar 3 = .ok (.ldc2_w 130, 3) := by decide +kernel
theorem dX10_mortar_6 : decode cX10_mortar 6 = .ok (.invokestatic 126, 3) := by decide +kernel
theorem dX10_mortar_9 : decode cX10_mortar 9 = .ok (.ifCond .ne 6, 3) := by decide +kernel
theorem dX10_mortar_12 : decode cX10_mortar 12 = .ok (.bipush (-2), 2) := by decide +kernel
theorem dX10_mortar_14 : decode cX10_mortar 14 = .ok (.ireturn, 1) := by decide +kernel
theorem dX10_mortar_15 : decode cX10_mortar 15 = .ok (.aload_n 0, 1) := by decide +kernel
theorem dX10_mortar_16 : decode cX10_mortar 16 = .ok (.getfield 104, 3) := by decide +kernel
theorem dX10_mortar_19 : decode cX10_mortar 19 = .ok (.istore_n 2, 1) := by decide +kernel
theorem dX10_mortar_20 : decode cX10_mortar 20 = .ok (.aload_n 0, 1) := by decide +kernel
theorem dX10_mortar_21 : decode cX10_mortar 21 = .ok (.iload_n 1, 1) := by decide +kernel
theorem dX10_mortar_22 : decode cX10_mortar 22 = .ok (.putfield 104, 3) := by decide +kernel
theorem dX10_mortar_25 : decode cX10_mortar 25 = .ok (.iload_n 2, 1) := by decide +kernel
theorem dX10_mortar_26 : decode cX10_mortar 26 = .ok (.ireturn, 1) := by decide +kernel
theorem dX10_findOrder_0 : decode cX10_findOrder 0 = .ok (.aload_n 0, 1) := by decide +kernel
theorem dX10_findOrder_1 : decode cX10_findOrder 1 = .ok (.invokevirtual 266, 3) := by decide +kernel
theorem dX10_findOrder_4 : decode cX10_findOrder 4 = .ok (.iconst 0, 1) := by decide +kernel
theorem dX10_findOrder_5 : decode cX10_findOrder 5 = .ok (.istore_n 1, 1) := by decide +kernel
theorem dX10_findOrder_6 : decode cX10_findOrder 6 = .ok (.iconst 0, 1) := by decide +kernel
theorem dX10_findOrder_7 : decode cX10_findOrder 7 = .ok (.istore_n 2, 1) := by decide +kernel
theorem dX10_findOrder_8 : decode cX10_findOrder 8 = .ok (.iload_n 2, 1) := by decide +kernel
theorem dX10_findOrder_9 : decode cX10_findOrder 9 = .ok (.aload_n 0, 1) := by decide +kernel
theorem dX10_findOrder_10 : decode cX10_findOrder 10 = .ok (.getfield 254, 3) := by decide +kernel
theorem dX10_findOrder_13 : decode cX10_findOrder 13 = .ok (.if_icmp .ge 42, 3) := by decide +kernel
theorem dX10_findOrder_16 : decode cX10_findOrder 16 = .ok (.aload_n 0, 1) := by decide +kernel
theorem dX10_findOrder_17 : decode cX10_findOrder 17 = .ok (.getfield 257, 3) := by decide +kernel
theorem dX10_findOrder_20 : decode cX10_findOrder 20 = .ok (.ifCond .lt 35, 3) := by decide +kernel
theorem dX10_findOrder_23 : decode cX10_findOrder 23 = .ok (.aload_n 0, 1) := by decide +kernel
theorem dX10_findOrder_24 : decode cX10_findOrder 24 = .ok (.getfield 95, 3) := by decide +kernel
theorem dX10_findOrder_27 : decode cX10_findOrder 27 = .ok (.iload_n 2, 1) := by decide +kernel
theorem dX10_findOrder_28 : decode cX10_findOrder 28 = .ok (.iaload, 1) := by decide +kernel
theorem dX10_findOrder_29 : decode cX10_findOrder 29 = .ok (.bipush 100, 2) := by decide +kernel
theorem dX10_findOrder_31 : decode cX10_findOrder 31 = .ok (.if_icmp .ge 18, 3) := by decide +kernel
theorem dX10_findOrder_34 : decode cX10_findOrder 34 = .ok (.aload_n 0, 1) := by decide +kernel
theorem dX10_findOrder_35 : decode cX10_findOrder 35 = .ok (.getfield 107, 3) := by decide +kernel
theorem dX10_findOrder_38 : decode cX10_findOrder 38 = .ok (.iload_n 1, 1) := by decide +kernel
theorem dX10_findOrder_39 : decode cX10_findOrder 39 = .ok (.aload_n 0, 1) := by decide +kernel
theorem dX10_findOrder_40 : decode cX10_findOrder 40 = .ok (.getfield 95, 3) := by decide +kernel
theorem dX10_findOrder_43 : decode cX10_findOrder 43 = .ok (.iload_n 2, 1) := by decide +kernel
theorem dX10_findOrder_44 : decode cX10_findOrder 44 = .ok (.iaload, 1) := by decide +kernel
theorem dX10_findOrder_45 : decode cX10_findOrder 45 = .ok (.iastore, 1) := by decide +kernel
theorem dX10_findOrder_46 : decode cX10_findOrder 46 = .ok (.iinc 1 1, 3) := by decide +kernel
theorem dX10_findOrder_49 : decode cX10_findOrder 49 = .ok (.iinc 2 1, 3) := by decide +kernel
theorem dX10_findOrder_52 : decode cX10_findOrder 52 = .ok (.goto (-44), 3) := by decide +kernel
theorem dX10_findOrder_55 : decode cX10_findOrder 55 = .ok (.iconst 0, 1) := by decide +kernel
theorem dX10_findOrder_56 : decode cX10_findOrder 56 = .ok (.istore_n 2, 1) := by decide +kernel
theorem dX10_findOrder_57 : decode cX10_findOrder 57 = .ok (.iload_n 2, 1) := by decide +kernel
theorem dX10_findOrder_58 : decode cX10_findOrder 58 = .ok (.aload_n 0, 1) := by decide +kernel
theorem dX10_findOrder_59 : decode cX10_findOrder 59 = .ok (.getfield 224, 3) := by decide +kernel
theorem dX10_findOrder_62 : decode cX10_findOrder 62 = .ok (.if_icmp .ge 23, 3) := by decide +kernel
theorem dX10_findOrder_65 : decode cX10_findOrder 65 = .ok (.aload_n 0, 1) := by decide +kernel
theorem dX10_findOrder_66 : decode cX10_findOrder 66 = .ok (.getfield 257, 3) := by decide +kernel
theorem dX10_findOrder_69 : decode cX10_findOrder 69 = .ok (.ifCond .ge 16, 3) := by decide +kernel
theorem dX10_findOrder_72 : decode cX10_findOrder 72 = .ok (.aload_n 0, 1) := by decide +kernel
theorem dX10_findOrder_73 : decode cX10_findOrder 73 = .ok (.getfield 107, 3) := by decide +kernel
theorem dX10_findOrder_76 : decode cX10_findOrder 76 = .ok (.iload_n 2, 1) := by decide +kernel
theorem dX10_findOrder_77 : decode cX10_findOrder 77 = .ok (.iload_n 2, 1) := by decide +kernel
theorem dX10_findOrder_78 : decode cX10_findOrder 78 = .ok (.iastore, 1) := by decide +kernel
theorem dX10_findOrder_79 : decode cX10_findOrder 79 = .ok (.iinc 2 1, 3) := by decide +kernel
theorem dX10_findOrder_82 : decode cX10_findOrder 82 = .ok (.goto (-25), 3) := by decide +kernel
theorem dX10_findOrder_85 : decode cX10_findOrder 85 = .ok (.return_, 1) := by decide +kernel
theorem dX10_isDry_0 : decode cX10_isDry 0 = .ok (.iconst 0, 1) := by decide +kernel
theorem dX10_isDry_1 : decode cX10_isDry 1 = .ok (.istore_n 3, 1) := by decide +kernel
theorem dX10_isDry_2 : decode cX10_isDry 2 = .ok (.iload_n 1, 1) := by decide +kernel
theorem dX10_isDry_3 : decode cX10_isDry 3 = .ok (.iconst 1, 1) := by decide +kernel
theorem dX10_isDry_4 : decode cX10_isDry 4 = .ok (.iadd, 1) := by decide +kernel
theorem dX10_isDry_5 : decode cX10_isDry 5 = .ok (.istore 4, 2) := by decide +kernel
theorem dX10_isDry_7 : decode cX10_isDry 7 = .ok (.iload 4, 2) := by decide +kernel
theorem dX10_isDry_9 : decode cX10_isDry 9 = .ok (.iload_n 2, 1) := by decide +kernel
theorem dX10_isDry_10 : decode cX10_isDry 10 = .ok (.if_icmp .ge 30, 3) := by decide +kernel
theorem dX10_isDry_13 : decode cX10_isDry 13 = .ok (.iload_n 3, 1) := by decide +kernel
theorem dX10_isDry_14 : decode cX10_isDry 14 = .ok (.aload_n 0, 1) := by decide +kernel
theorem dX10_isDry_15 : decode cX10_isDry 15 = .ok (.getfield 101, 3) := by decide +kernel
theorem dX10_isDry_18 : decode cX10_isDry 18 = .ok (.iload 4, 2) := by decide +kernel
theorem dX10_isDry_20 : decode cX10_isDry 20 = .ok (.baload, 1) := by decide +kernel
theorem dX10_isDry_21 : decode cX10_isDry 21 = .ok (.ifCond .ne 7, 3) := by decide +kernel
theorem dX10_isDry_24 : decode cX10_isDry 24 = .ok (.iconst 1, 1) := by decide +kernel
theorem dX10_isDry_25 : decode cX10_isDry 25 = .ok (.goto 4, 3) := by decide +kernel
theorem dX10_isDry_28 : decode cX10_isDry 28 = .ok (.iconst 0, 1) := by decide +kernel
theorem dX10_isDry_29 : decode cX10_isDry 29 = .ok (.invokestatic 204, 3) := by decide +kernel
theorem dX10_isDry_32 : decode cX10_isDry 32 = .ok (.iadd, 1) := by decide +kernel
theorem dX10_isDry_33 : decode cX10_isDry 33 = .ok (.istore_n 3, 1) := by decide +kernel
theorem dX10_isDry_34 : decode cX10_isDry 34 = .ok (.iinc 4 1, 3) := by decide +kernel
theorem dX10_isDry_37 : decode cX10_isDry 37 = .ok (.goto (-30), 3) := by decide +kernel
theorem dX10_isDry_40 : decode cX10_isDry 40 = .ok (.iload_n 3, 1) := by decide +kernel
theorem dX10_isDry_41 : decode cX10_isDry 41 = .ok (.aload_n 0, 1) := by decide +kernel
theorem dX10_isDry_42 : decode cX10_isDry 42 = .ok (.getfield 104, 3) := by decide +kernel
theorem dX10_isDry_45 : decode cX10_isDry 45 = .ok (.if_icmp .lt 7, 3) := by decide +kernel
theorem dX10_isDry_48 : decode cX10_isDry 48 = .ok (.iconst 1, 1) := by decide +kernel
theorem dX10_isDry_49 : decode cX10_isDry 49 = .ok (.goto 4, 3) := by decide +kernel
theorem dX10_isDry_52 : decode cX10_isDry 52 = .ok (.iconst 0, 1) := by decide +kernel
theorem dX10_isDry_53 : decode cX10_isDry 53 = .ok (.ireturn, 1) := by decide +kernel
theorem dX10_mayOn_0 : decode cX10_mayOn 0 = .ok (.aload_n 0, 1) := by decide +kernel
theorem dX10_mayOn_1 : decode cX10_mayOn 1 = .ok (.getfield 101, 3) := by decide +kernel
theorem dX10_mayOn_4 : decode cX10_mayOn 4 = .ok (.iload_n 2, 1) := by decide +kernel
theorem dX10_mayOn_5 : decode cX10_mayOn 5 = .ok (.baload, 1) := by decide +kernel
theorem dX10_mayOn_6 : decode cX10_mayOn 6 = .ok (.ifCond .ne 22, 3) := by decide +kernel
theorem dX10_mayOn_9 : decode cX10_mayOn 9 = .ok (.aload_n 0, 1) := by decide +kernel
theorem dX10_mayOn_10 : decode cX10_mayOn 10 = .ok (.getfield 113, 3) := by decide +kernel
theorem dX10_mayOn_13 : decode cX10_mayOn 13 = .ok (.iload_n 2, 1) := by decide +kernel
theorem dX10_mayOn_14 : decode cX10_mayOn 14 = .ok (.iaload, 1) := by decide +kernel
theorem dX10_mayOn_15 : decode cX10_mayOn 15 = .ok (.aload_n 0, 1) := by decide +kernel
theorem dX10_mayOn_16 : decode cX10_mayOn 16 = .ok (.getfield 57, 3) := by decide +kernel
theorem dX10_mayOn_19 : decode cX10_mayOn 19 = .ok (.iload_n 1, 1) := by decide +kernel
theorem dX10_mayOn_20 : decode cX10_mayOn 20 = .ok (.iaload, 1) := by decide +kernel
theorem dX10_mayOn_21 : decode cX10_mayOn 21 = .ok (.if_icmp .lt 7, 3) := by decide +kernel
theorem dX10_mayOn_24 : decode cX10_mayOn 24 = .ok (.iconst 1, 1) := by decide +kernel
theorem dX10_mayOn_25 : decode cX10_mayOn 25 = .ok (.goto 4, 3) := by decide +kernel
theorem dX10_mayOn_28 : decode cX10_mayOn 28 = .ok (.iconst 0, 1) := by decide +kernel
theorem dX10_mayOn_29 : decode cX10_mayOn 29 = .ok (.istore_n 3, 1) := by decide +kernel
theorem dX10_mayOn_30 : decode cX10_mayOn 30 = .ok (.iconst 0, 1) := by decide +kernel
theorem dX10_mayOn_31 : decode cX10_mayOn 31 = .ok (.istore 4, 2) := by decide +kernel
theorem dX10_mayOn_33 : decode cX10_mayOn 33 = .ok (.iload 4, 2) := by decide +kernel
theorem dX10_mayOn_35 : decode cX10_mayOn 35 = .ok (.aload_n 0, 1) := by decide +kernel
theorem dX10_mayOn_36 : decode cX10_mayOn 36 = .ok (.getfield 224, 3) := by decide +kernel
theorem dX10_mayOn_39 : decode cX10_mayOn 39 = .ok (.if_icmp .ge 48, 3) := by decide +kernel
theorem dX10_mayOn_42 : decode cX10_mayOn 42 = .ok (.iload_n 3, 1) := by decide +kernel
theorem dX10_mayOn_43 : decode cX10_mayOn 43 = .ok (.ifCond .eq 44, 3) := by decide +kernel
theorem dX10_mayOn_46 : decode cX10_mayOn 46 = .ok (.aload_n 0, 1) := by decide +kernel
theorem dX10_mayOn_47 : decode cX10_mayOn 47 = .ok (.getfield 60, 3) := by decide +kernel
theorem dX10_mayOn_50 : decode cX10_mayOn 50 = .ok (.iload_n 1, 1) := by decide +kernel
theorem dX10_mayOn_51 : decode cX10_mayOn 51 = .ok (.iaload, 1) := by decide +kernel
theorem dX10_mayOn_52 : decode cX10_mayOn 52 = .ok (.iload 4, 2) := by decide +kernel
theorem dX10_mayOn_54 : decode cX10_mayOn 54 = .ok (.ishr, 1) := by decide +kernel
theorem dX10_mayOn_55 : decode cX10_mayOn 55 = .ok (.iconst 1, 1) := by decide +kernel
theorem dX10_mayOn_56 : decode cX10_mayOn 56 = .ok (.iand, 1) := by decide +kernel
theorem dX10_mayOn_57 : decode cX10_mayOn 57 = .ok (.ifCond .eq 18, 3) := by decide +kernel
theorem dX10_mayOn_60 : decode cX10_mayOn 60 = .ok (.aload_n 0, 1) := by decide +kernel
theorem dX10_mayOn_61 : decode cX10_mayOn 61 = .ok (.aload_n 0, 1) := by decide +kernel
theorem dX10_mayOn_62 : decode cX10_mayOn 62 = .ok (.getfield 110, 3) := by decide +kernel
theorem dX10_mayOn_65 : decode cX10_mayOn 65 = .ok (.iload 4, 2) := by decide +kernel
theorem dX10_mayOn_67 : decode cX10_mayOn 67 = .ok (.iaload, 1) := by decide +kernel
theorem dX10_mayOn_68 : decode cX10_mayOn 68 = .ok (.iload_n 2, 1) := by decide +kernel
theorem dX10_mayOn_69 : decode cX10_mayOn 69 = .ok (.invokevirtual 276, 3) := by decide +kernel
theorem dX10_mayOn_72 : decode cX10_mayOn 72 = .ok (.ifCond .eq 7, 3) := by decide +kernel
theorem dX10_mayOn_75 : decode cX10_mayOn 75 = .ok (.iconst 1, 1) := by decide +kernel
theorem dX10_mayOn_76 : decode cX10_mayOn 76 = .ok (.goto 4, 3) := by decide +kernel
theorem dX10_mayOn_79 : decode cX10_mayOn 79 = .ok (.iconst 0, 1) := by decide +kernel
theorem dX10_mayOn_80 : decode cX10_mayOn 80 = .ok (.istore_n 3, 1) := by decide +kernel
theorem dX10_mayOn_81 : decode cX10_mayOn 81 = .ok (.iinc 4 1, 3) := by decide +kernel
theorem dX10_mayOn_84 : decode cX10_mayOn 84 = .ok (.goto (-51), 3) := by decide +kernel
theorem dX10_mayOn_87 : decode cX10_mayOn 87 = .ok (.iload_n 3, 1) := by decide +kernel
theorem dX10_mayOn_88 : decode cX10_mayOn 88 = .ok (.ireturn, 1) := by decide +kernel
theorem dX10_layAll_0 : decode cX10_layAll 0 = .ok (.iconst 0, 1) := by decide +kernel
theorem dX10_layAll_1 : decode cX10_layAll 1 = .ok (.istore_n 1, 1) := by decide +kernel
theorem dX10_layAll_2 : decode cX10_layAll 2 = .ok (.iload_n 1, 1) := by decide +kernel
theorem dX10_layAll_3 : decode cX10_layAll 3 = .ok (.bipush 80, 2) := by decide +kernel
theorem dX10_layAll_5 : decode cX10_layAll 5 = .ok (.if_icmp .ge 21, 3) := by decide +kernel
theorem dX10_layAll_8 : decode cX10_layAll 8 = .ok (.aload_n 0, 1) := by decide +kernel
theorem dX10_layAll_9 : decode cX10_layAll 9 = .ok (.getfield 113, 3) := by decide +kernel
theorem dX10_layAll_12 : decode cX10_layAll 12 = .ok (.iload_n 1, 1) := by decide +kernel
theorem dX10_layAll_13 : decode cX10_layAll 13 = .ok (.aload_n 0, 1) := by decide +kernel
theorem dX10_layAll_14 : decode cX10_layAll 14 = .ok (.getfield 98, 3) := by decide +kernel
theorem dX10_layAll_17 : decode cX10_layAll 17 = .ok (.iload_n 1, 1) := by decide +kernel
theorem dX10_layAll_18 : decode cX10_layAll 18 = .ok (.iaload, 1) := by decide +kernel
theorem dX10_layAll_19 : decode cX10_layAll 19 = .ok (.iastore, 1) := by decide +kernel
theorem dX10_layAll_20 : decode cX10_layAll 20 = .ok (.iinc 1 1, 3) := by decide +kernel
theorem dX10_layAll_23 : decode cX10_layAll 23 = .ok (.goto (-21), 3) := by decide +kernel
theorem dX10_layAll_26 : decode cX10_layAll 26 = .ok (.iconst 0, 1) := by decide +kernel
theorem dX10_layAll_27 : decode cX10_layAll 27 = .ok (.istore_n 1, 1) := by decide +kernel
theorem dX10_layAll_28 : decode cX10_layAll 28 = .ok (.iconst 0, 1) := by decide +kernel
theorem dX10_layAll_29 : decode cX10_layAll 29 = .ok (.istore_n 2, 1) := by decide +kernel
theorem dX10_layAll_30 : decode cX10_layAll 30 = .ok (.iload_n 2, 1) := by decide +kernel
theorem dX10_layAll_31 : decode cX10_layAll 31 = .ok (.aload_n 0, 1) := by decide +kernel
theorem dX10_layAll_32 : decode cX10_layAll 32 = .ok (.getfield 224, 3) := by decide +kernel
theorem dX10_layAll_35 : decode cX10_layAll 35 = .ok (.if_icmp .ge 75, 3) := by decide +kernel
theorem dX10_layAll_38 : decode cX10_layAll 38 = .ok (.aload_n 0, 1) := by decide +kernel
theorem dX10_layAll_39 : decode cX10_layAll 39 = .ok (.getfield 107, 3) := by decide +kernel
theorem dX10_layAll_42 : decode cX10_layAll 42 = .ok (.iload_n 2, 1) := by decide +kernel
theorem dX10_layAll_43 : decode cX10_layAll 43 = .ok (.iaload, 1) := by decide +kernel
theorem dX10_layAll_44 : decode cX10_layAll 44 = .ok (.istore_n 3, 1) := by decide +kernel
theorem dX10_layAll_45 : decode cX10_layAll 45 = .ok (.iload_n 1, 1) := by decide +kernel
theorem dX10_layAll_46 : decode cX10_layAll 46 = .ok (.bipush 80, 2) := by decide +kernel
theorem dX10_layAll_48 : decode cX10_layAll 48 = .ok (.if_icmp .ge 18, 3) := by decide +kernel
theorem dX10_layAll_51 : decode cX10_layAll 51 = .ok (.aload_n 0, 1) := by decide +kernel
theorem dX10_layAll_52 : decode cX10_layAll 52 = .ok (.iload_n 3, 1) := by decide +kernel
theorem dX10_layAll_53 : decode cX10_layAll 53 = .ok (.iload_n 1, 1) := by decide +kernel
theorem dX10_layAll_54 : decode cX10_layAll 54 = .ok (.invokevirtual 279, 3) := by decide +kernel
theorem dX10_layAll_57 : decode cX10_layAll 57 = .ok (.ifCond .ne 9, 3) := by decide +kernel
theorem dX10_layAll_60 : decode cX10_layAll 60 = .ok (.iinc 1 1, 3) := by decide +kernel
theorem dX10_layAll_63 : decode cX10_layAll 63 = .ok (.goto (-18), 3) := by decide +kernel
theorem dX10_layAll_66 : decode cX10_layAll 66 = .ok (.aload_n 0, 1) := by decide +kernel
theorem dX10_layAll_67 : decode cX10_layAll 67 = .ok (.getfield 110, 3) := by decide +kernel
theorem dX10_layAll_70 : decode cX10_layAll 70 = .ok (.iload_n 3, 1) := by decide +kernel
theorem dX10_layAll_71 : decode cX10_layAll 71 = .ok (.iload_n 1, 1) := by decide +kernel
theorem dX10_layAll_72 : decode cX10_layAll 72 = .ok (.bipush 80, 2) := by decide +kernel
theorem dX10_layAll_74 : decode cX10_layAll 74 = .ok (.if_icmp .ge 7, 3) := by decide +kernel
theorem dX10_layAll_77 : decode cX10_layAll 77 = .ok (.iload_n 1, 1) := by decide +kernel
theorem dX10_layAll_78 : decode cX10_layAll 78 = .ok (.goto 4, 3) := by decide +kernel
theorem dX10_layAll_81 : decode cX10_layAll 81 = .ok (.iconst (-1), 1) := by decide +kernel
theorem dX10_layAll_82 : decode cX10_layAll 82 = .ok (.iastore, 1) := by decide +kernel
theorem dX10_layAll_83 : decode cX10_layAll 83 = .ok (.iload_n 1, 1) := by decide +kernel
theorem dX10_layAll_84 : decode cX10_layAll 84 = .ok (.bipush 80, 2) := by decide +kernel
theorem dX10_layAll_86 : decode cX10_layAll 86 = .ok (.if_icmp .ge 18, 3) := by decide +kernel
theorem dX10_layAll_89 : decode cX10_layAll 89 = .ok (.aload_n 0, 1) := by decide +kernel
theorem dX10_layAll_90 : decode cX10_layAll 90 = .ok (.getfield 113, 3) := by decide +kernel
theorem dX10_layAll_93 : decode cX10_layAll 93 = .ok (.iload_n 1, 1) := by decide +kernel
theorem dX10_layAll_94 : decode cX10_layAll 94 = .ok (.dup2, 1) := by decide +kernel
theorem dX10_layAll_95 : decode cX10_layAll 95 = .ok (.iaload, 1) := by decide +kernel
theorem dX10_layAll_96 : decode cX10_layAll 96 = .ok (.aload_n 0, 1) := by decide +kernel
theorem dX10_layAll_97 : decode cX10_layAll 97 = .ok (.getfield 57, 3) := by decide +kernel
theorem dX10_layAll_100 : decode cX10_layAll 100 = .ok (.iload_n 3, 1) := by decide +kernel
theorem dX10_layAll_101 : decode cX10_layAll 101 = .ok (.iaload, 1) := by decide +kernel
theorem dX10_layAll_102 : decode cX10_layAll 102 = .ok (.isub, 1) := by decide +kernel
theorem dX10_layAll_103 : decode cX10_layAll 103 = .ok (.iastore, 1) := by decide +kernel
theorem dX10_layAll_104 : decode cX10_layAll 104 = .ok (.iinc 2 1, 3) := by decide +kernel
theorem dX10_layAll_107 : decode cX10_layAll 107 = .ok (.goto (-77), 3) := by decide +kernel
theorem dX10_layAll_110 : decode cX10_layAll 110 = .ok (.iload_n 1, 1) := by decide +kernel
theorem dX10_layAll_111 : decode cX10_layAll 111 = .ok (.ireturn, 1) := by decide +kernel
theorem dX10_laid_0 : decode cX10_laid 0 = .ok (.aload_n 0, 1) := by decide +kernel
theorem dX10_laid_1 : decode cX10_laid 1 = .ok (.iload_n 1, 1) := by decide +kernel
theorem dX10_laid_2 : decode cX10_laid 2 = .ok (.invokevirtual 231, 3) := by decide +kernel
theorem dX10_laid_5 : decode cX10_laid 5 = .ok (.ifCond .eq 6, 3) := by decide +kernel
theorem dX10_laid_8 : decode cX10_laid 8 = .ok (.bipush (-2), 2) := by decide +kernel
theorem dX10_laid_10 : decode cX10_laid 10 = .ok (.ireturn, 1) := by decide +kernel
theorem dX10_laid_11 : decode cX10_laid 11 = .ok (.aload_n 0, 1) := by decide +kernel
theorem dX10_laid_12 : decode cX10_laid 12 = .ok (.invokevirtual 282, 3) := by decide +kernel
theorem dX10_laid_15 : decode cX10_laid 15 = .ok (.aload_n 0, 1) := by decide +kernel
theorem dX10_laid_16 : decode cX10_laid 16 = .ok (.invokevirtual 285, 3) := by decide +kernel
theorem dX10_laid_19 : decode cX10_laid 19 = .ok (.istore_n 2, 1) := by decide +kernel
theorem dX10_laid_20 : decode cX10_laid 20 = .ok (.aload_n 0, 1) := by decide +kernel
theorem dX10_laid_21 : decode cX10_laid 21 = .ok (.getfield 110, 3) := by decide +kernel
theorem dX10_laid_24 : decode cX10_laid 24 = .ok (.iload_n 1, 1) := by decide +kernel
theorem dX10_laid_25 : decode cX10_laid 25 = .ok (.iaload, 1) := by decide +kernel
theorem dX10_laid_26 : decode cX10_laid 26 = .ok (.ireturn, 1) := by decide +kernel
theorem dX10_end_0 : decode cX10_end 0 = .ok (.aload_n 0, 1) := by decide +kernel
theorem dX10_end_1 : decode cX10_end 1 = .ok (.getfield 224, 3) := by decide +kernel
theorem dX10_end_4 : decode cX10_end 4 = .ok (.ifCond .ne 5, 3) := by decide +kernel
theorem dX10_end_7 : decode cX10_end 7 = .ok (.iconst (-1), 1) := by decide +kernel
theorem dX10_end_8 : decode cX10_end 8 = .ok (.ireturn, 1) := by decide +kernel
theorem dX10_end_9 : decode cX10_end 9 = .ok (.aload_n 0, 1) := by decide +kernel
theorem dX10_end_10 : decode cX10_end 10 = .ok (.invokevirtual 282, 3) := by decide +kernel
theorem dX10_end_13 : decode cX10_end 13 = .ok (.aload_n 0, 1) := by decide +kernel
theorem dX10_end_14 : decode cX10_end 14 = .ok (.invokevirtual 285, 3) := by decide +kernel
theorem dX10_end_17 : decode cX10_end 17 = .ok (.istore_n 1, 1) := by decide +kernel
theorem dX10_end_18 : decode cX10_end 18 = .ok (.iload_n 1, 1) := by decide +kernel
theorem dX10_end_19 : decode cX10_end 19 = .ok (.bipush 80, 2) := by decide +kernel
theorem dX10_end_21 : decode cX10_end 21 = .ok (.if_icmp .ge 7, 3) := by decide +kernel
theorem dX10_end_24 : decode cX10_end 24 = .ok (.iload_n 1, 1) := by decide +kernel
theorem dX10_end_25 : decode cX10_end 25 = .ok (.goto 4, 3) := by decide +kernel
theorem dX10_end_28 : decode cX10_end 28 = .ok (.iconst (-1), 1) := by decide +kernel
theorem dX10_end_29 : decode cX10_end 29 = .ok (.ireturn, 1) := by decide +kernel
theorem dX10_findWorst_0 : decode cX10_findWorst 0 = .ok (.iconst (-1), 1) := by decide +kernel
theorem dX10_findWorst_1 : decode cX10_findWorst 1 = .ok (.istore_n 2, 1) := by decide +kernel
theorem dX10_findWorst_2 : decode cX10_findWorst 2 = .ok (.iload_n 1, 1) := by decide +kernel
theorem dX10_findWorst_3 : decode cX10_findWorst 3 = .ok (.ifCond .le 7, 3) := by decide +kernel
theorem dX10_findWorst_6 : decode cX10_findWorst 6 = .ok (.iconst 0, 1) := by decide +kernel
theorem dX10_findWorst_7 : decode cX10_findWorst 7 = .ok (.goto 5, 3) := by decide +kernel
theorem dX10_findWorst_10 : decode cX10_findWorst 10 = .ok (.bipush 59, 2) := by decide +kernel
theorem dX10_findWorst_12 : decode cX10_findWorst 12 = .ok (.istore_n 3, 1) := by decide +kernel
theorem dX10_findWorst_13 : decode cX10_findWorst 13 = .ok (.iload_n 3, 1) := by decide +kernel
theorem dX10_findWorst_14 : decode cX10_findWorst 14 = .ok (.bipush 60, 2) := by decide +kernel
theorem dX10_findWorst_16 : decode cX10_findWorst 16 = .ok (.if_icmp .ge 185, 3) := by decide +kernel
theorem dX10_findWorst_19 : decode cX10_findWorst 19 = .ok (.iload_n 1, 1) := by decide +kernel
theorem dX10_findWorst_20 : decode cX10_findWorst 20 = .ok (.iconst 1, 1) := by decide +kernel
theorem dX10_findWorst_21 : decode cX10_findWorst 21 = .ok (.if_icmp .le 9, 3) := by decide +kernel
theorem dX10_findWorst_24 : decode cX10_findWorst 24 = .ok (.iload_n 3, 1) := by decide +kernel
theorem dX10_findWorst_25 : decode cX10_findWorst 25 = .ok (.iconst 1, 1) := by decide +kernel
theorem dX10_findWorst_26 : decode cX10_findWorst 26 = .ok (.iadd, 1) := by decide +kernel
theorem dX10_findWorst_27 : decode cX10_findWorst 27 = .ok (.goto 5, 3) := by decide +kernel
theorem dX10_findWorst_30 : decode cX10_findWorst 30 = .ok (.bipush 59, 2) := by decide +kernel
theorem dX10_findWorst_32 : decode cX10_findWorst 32 = .ok (.istore 4, 2) := by decide +kernel
theorem dX10_findWorst_34 : decode cX10_findWorst 34 = .ok (.iload 4, 2) := by decide +kernel
theorem dX10_findWorst_36 : decode cX10_findWorst 36 = .ok (.bipush 60, 2) := by decide +kernel
theorem dX10_findWorst_38 : decode cX10_findWorst 38 = .ok (.if_icmp .ge 157, 3) := by decide +kernel
theorem dX10_findWorst_41 : decode cX10_findWorst 41 = .ok (.iload_n 1, 1) := by decide +kernel
theorem dX10_findWorst_42 : decode cX10_findWorst 42 = .ok (.iconst 1, 1) := by decide +kernel
theorem dX10_findWorst_43 : decode cX10_findWorst 43 = .ok (.if_icmp .lt 12, 3) := by decide +kernel
theorem dX10_findWorst_46 : decode cX10_findWorst 46 = .ok (.aload_n 0, 1) := by decide +kernel
theorem dX10_findWorst_47 : decode cX10_findWorst 47 = .ok (.getfield 101, 3) := by decide +kernel
theorem dX10_findWorst_50 : decode cX10_findWorst 50 = .ok (.iload_n 3, 1) := by decide +kernel
theorem dX10_findWorst_51 : decode cX10_findWorst 51 = .ok (.baload, 1) := by decide +kernel
theorem dX10_findWorst_52 : decode cX10_findWorst 52 = .ok (.ifCond .ne 22, 3) := by decide +kernel
theorem dX10_findWorst_55 : decode cX10_findWorst 55 = .ok (.iload_n 1, 1) := by decide +kernel
theorem dX10_findWorst_56 : decode cX10_findWorst 56 = .ok (.iconst 2, 1) := by decide +kernel
theorem dX10_findWorst_57 : decode cX10_findWorst 57 = .ok (.if_icmp .lt 13, 3) := by decide +kernel
theorem dX10_findWorst_60 : decode cX10_findWorst 60 = .ok (.aload_n 0, 1) := by decide +kernel
theorem dX10_findWorst_61 : decode cX10_findWorst 61 = .ok (.getfield 101, 3) := by decide +kernel
theorem dX10_findWorst_64 : decode cX10_findWorst 64 = .ok (.iload 4, 2) := by decide +kernel
theorem dX10_findWorst_66 : decode cX10_findWorst 66 = .ok (.baload, 1) := by decide +kernel
theorem dX10_findWorst_67 : decode cX10_findWorst 67 = .ok (.ifCond .ne 7, 3) := by decide +kernel
theorem dX10_findWorst_70 : decode cX10_findWorst 70 = .ok (.iconst 1, 1) := by decide +kernel
theorem dX10_findWorst_71 : decode cX10_findWorst 71 = .ok (.goto 4, 3) := by decide +kernel
theorem dX10_findWorst_74 : decode cX10_findWorst 74 = .ok (.iconst 0, 1) := by decide +kernel
theorem dX10_findWorst_75 : decode cX10_findWorst 75 = .ok (.istore 5, 2) := by decide +kernel
theorem dX10_findWorst_77 : decode cX10_findWorst 77 = .ok (.iload 5, 2) := by decide +kernel
theorem dX10_findWorst_79 : decode cX10_findWorst 79 = .ok (.ifCond .eq 110, 3) := by decide +kernel
theorem dX10_findWorst_82 : decode cX10_findWorst 82 = .ok (.aload_n 0, 1) := by decide +kernel
theorem dX10_findWorst_83 : decode cX10_findWorst 83 = .ok (.getfield 101, 3) := by decide +kernel
theorem dX10_findWorst_86 : decode cX10_findWorst 86 = .ok (.iload_n 3, 1) := by decide +kernel
theorem dX10_findWorst_87 : decode cX10_findWorst 87 = .ok (.baload, 1) := by decide +kernel
theorem dX10_findWorst_88 : decode cX10_findWorst 88 = .ok (.istore 6, 2) := by decide +kernel
theorem dX10_findWorst_90 : decode cX10_findWorst 90 = .ok (.aload_n 0, 1) := by decide +kernel
theorem dX10_findWorst_91 : decode cX10_findWorst 91 = .ok (.getfield 101, 3) := by decide +kernel
theorem dX10_findWorst_94 : decode cX10_findWorst 94 = .ok (.iload 4, 2) := by decide +kernel
theorem dX10_findWorst_96 : decode cX10_findWorst 96 = .ok (.baload, 1) := by decide +kernel
theorem dX10_findWorst_97 : decode cX10_findWorst 97 = .ok (.istore 7, 2) := by decide +kernel
theorem dX10_findWorst_99 : decode cX10_findWorst 99 = .ok (.aload_n 0, 1) := by decide +kernel
theorem dX10_findWorst_100 : decode cX10_findWorst 100 = .ok (.getfield 101, 3) := by decide +kernel
theorem dX10_findWorst_103 : decode cX10_findWorst 103 = .ok (.iload_n 3, 1) := by decide +kernel
theorem dX10_findWorst_104 : decode cX10_findWorst 104 = .ok (.iload_n 1, 1) := by decide +kernel
theorem dX10_findWorst_105 : decode cX10_findWorst 105 = .ok (.ifCond .gt 8, 3) := by decide +kernel
theorem dX10_findWorst_108 : decode cX10_findWorst 108 = .ok (.iload 6, 2) := by decide +kernel
theorem dX10_findWorst_110 : decode cX10_findWorst 110 = .ok (.ifCond .eq 7, 3) := by decide +kernel
theorem dX10_findWorst_113 : decode cX10_findWorst 113 = .ok (.iconst 1, 1) := by decide +kernel
theorem dX10_findWorst_114 : decode cX10_findWorst 114 = .ok (.goto 4, 3) := by decide +kernel
theorem dX10_findWorst_117 : decode cX10_findWorst 117 = .ok (.iconst 0, 1) := by decide +kernel
theorem dX10_findWorst_118 : decode cX10_findWorst 118 = .ok (.bastore, 1) := by decide +kernel
theorem dX10_findWorst_119 : decode cX10_findWorst 119 = .ok (.aload_n 0, 1) := by decide +kernel
theorem dX10_findWorst_120 : decode cX10_findWorst 120 = .ok (.getfield 101, 3) := by decide +kernel
theorem dX10_findWorst_123 : decode cX10_findWorst 123 = .ok (.iload 4, 2) := by decide +kernel
theorem dX10_findWorst_125 : decode cX10_findWorst 125 = .ok (.iload_n 1, 1) := by decide +kernel
theorem dX10_findWorst_126 : decode cX10_findWorst 126 = .ok (.iconst 1, 1) := by decide +kernel
theorem dX10_findWorst_127 : decode cX10_findWorst 127 = .ok (.if_icmp .gt 13, 3) := by decide +kernel
theorem dX10_findWorst_130 : decode cX10_findWorst 130 = .ok (.aload_n 0, 1) := by decide +kernel
theorem dX10_findWorst_131 : decode cX10_findWorst 131 = .ok (.getfield 101, 3) := by decide +kernel
theorem dX10_findWorst_134 : decode cX10_findWorst 134 = .ok (.iload 4, 2) := by decide +kernel
theorem dX10_findWorst_136 : decode cX10_findWorst 136 = .ok (.baload, 1) := by decide +kernel
theorem dX10_findWorst_137 : decode cX10_findWorst 137 = .ok (.ifCond .eq 7, 3) := by decide +kernel
theorem dX10_findWorst_140 : decode cX10_findWorst 140 = .ok (.iconst 1, 1) := by decide +kernel
theorem dX10_findWorst_141 : decode cX10_findWorst 141 = .ok (.goto 4, 3) := by decide +kernel
theorem dX10_findWorst_144 : decode cX10_findWorst 144 = .ok (.iconst 0, 1) := by decide +kernel
theorem dX10_findWorst_145 : decode cX10_findWorst 145 = .ok (.bastore, 1) := by decide +kernel
theorem dX10_findWorst_146 : decode cX10_findWorst 146 = .ok (.aload_n 0, 1) := by decide +kernel
theorem dX10_findWorst_147 : decode cX10_findWorst 147 = .ok (.invokevirtual 285, 3) := by decide +kernel
theorem dX10_findWorst_150 : decode cX10_findWorst 150 = .ok (.istore 8, 2) := by decide +kernel
theorem dX10_findWorst_152 : decode cX10_findWorst 152 = .ok (.aload_n 0, 1) := by decide +kernel
theorem dX10_findWorst_153 : decode cX10_findWorst 153 = .ok (.getfield 101, 3) := by decide +kernel
theorem dX10_findWorst_156 : decode cX10_findWorst 156 = .ok (.iload 4, 2) := by decide +kernel
theorem dX10_findWorst_158 : decode cX10_findWorst 158 = .ok (.iload 7, 2) := by decide +kernel
theorem dX10_findWorst_160 : decode cX10_findWorst 160 = .ok (.bastore, 1) := by decide +kernel
theorem dX10_findWorst_161 : decode cX10_findWorst 161 = .ok (.aload_n 0, 1) := by decide +kernel
theorem dX10_findWorst_162 : decode cX10_findWorst 162 = .ok (.getfield 101, 3) := by decide +kernel
theorem dX10_findWorst_165 : decode cX10_findWorst 165 = .ok (.iload_n 3, 1) := by decide +kernel
theorem dX10_findWorst_166 : decode cX10_findWorst 166 = .ok (.iload 6, 2) := by decide +kernel
theorem dX10_findWorst_168 : decode cX10_findWorst 168 = .ok (.bastore, 1) := by decide +kernel
theorem dX10_findWorst_169 : decode cX10_findWorst 169 = .ok (.iload 8, 2) := by decide +kernel
theorem dX10_findWorst_171 : decode cX10_findWorst 171 = .ok (.iload_n 2, 1) := by decide +kernel
theorem dX10_findWorst_172 : decode cX10_findWorst 172 = .ok (.if_icmp .le 17, 3) := by decide +kernel
theorem dX10_findWorst_175 : decode cX10_findWorst 175 = .ok (.iload 8, 2) := by decide +kernel
theorem dX10_findWorst_177 : decode cX10_findWorst 177 = .ok (.istore_n 2, 1) := by decide +kernel
theorem dX10_findWorst_178 : decode cX10_findWorst 178 = .ok (.aload_n 0, 1) := by decide +kernel
theorem dX10_findWorst_179 : decode cX10_findWorst 179 = .ok (.iload_n 3, 1) := by decide +kernel
theorem dX10_findWorst_180 : decode cX10_findWorst 180 = .ok (.putfield 289, 3) := by decide +kernel
theorem dX10_findWorst_183 : decode cX10_findWorst 183 = .ok (.aload_n 0, 1) := by decide +kernel
theorem dX10_findWorst_184 : decode cX10_findWorst 184 = .ok (.iload 4, 2) := by decide +kernel
theorem dX10_findWorst_186 : decode cX10_findWorst 186 = .ok (.putfield 292, 3) := by decide +kernel
theorem dX10_findWorst_189 : decode cX10_findWorst 189 = .ok (.iinc 4 1, 3) := by decide +kernel
theorem dX10_findWorst_192 : decode cX10_findWorst 192 = .ok (.goto (-158), 3) := by decide +kernel
theorem dX10_findWorst_195 : decode cX10_findWorst 195 = .ok (.iinc 3 1, 3) := by decide +kernel
theorem dX10_findWorst_198 : decode cX10_findWorst 198 = .ok (.goto (-185), 3) := by decide +kernel
theorem dX10_findWorst_201 : decode cX10_findWorst 201 = .ok (.iload_n 2, 1) := by decide +kernel
theorem dX10_findWorst_202 : decode cX10_findWorst 202 = .ok (.ireturn, 1) := by decide +kernel
theorem dX10_worst_0 : decode cX10_worst 0 = .ok (.iload_n 1, 1) := by decide +kernel
theorem dX10_worst_1 : decode cX10_worst 1 = .ok (.i2l, 1) := by decide +kernel
theorem dX10_worst_2 : decode cX10_worst 2 = .ok (.lconst 0, 1) := by decide +kernel
theorem dX10_worst_3 : decode cX10_worst 3 = .ok (.ldc2_w 295, 3) := by decide +kernel
theorem dX10_worst_6 : decode cX10_worst 6 = .ok (.invokestatic 126, 3) := by decide +kernel
theorem dX10_worst_9 : decode cX10_worst 9 = .ok (.ifCond .eq 22, 3) := by decide +kernel
theorem dX10_worst_12 : decode cX10_worst 12 = .ok (.iload_n 2, 1) := by decide +kernel
theorem dX10_worst_13 : decode cX10_worst 13 = .ok (.i2l, 1) := by decide +kernel
theorem dX10_worst_14 : decode cX10_worst 14 = .ok (.lconst 0, 1) := by decide +kernel
theorem dX10_worst_15 : decode cX10_worst 15 = .ok (.lconst 1, 1) := by decide +kernel
theorem dX10_worst_16 : decode cX10_worst 16 = .ok (.invokestatic 126, 3) := by decide +kernel
theorem dX10_worst_19 : decode cX10_worst 19 = .ok (.ifCond .eq 12, 3) := by decide +kernel
theorem dX10_worst_22 : decode cX10_worst 22 = .ok (.iload_n 2, 1) := by decide +kernel
theorem dX10_worst_23 : decode cX10_worst 23 = .ok (.iconst 1, 1) := by decide +kernel
theorem dX10_worst_24 : decode cX10_worst 24 = .ok (.if_icmp .ne 10, 3) := by decide +kernel
theorem dX10_worst_27 : decode cX10_worst 27 = .ok (.iload_n 3, 1) := by decide +kernel
theorem dX10_worst_28 : decode cX10_worst 28 = .ok (.ifCond .ge 6, 3) := by decide +kernel
theorem dX10_worst_31 : decode cX10_worst 31 = .ok (.bipush (-2), 2) := by decide +kernel
theorem dX10_worst_33 : decode cX10_worst 33 = .ok (.ireturn, 1) := by decide +kernel
theorem dX10_worst_34 : decode cX10_worst 34 = .ok (.aload_n 0, 1) := by decide +kernel
theorem dX10_worst_35 : decode cX10_worst 35 = .ok (.getfield 224, 3) := by decide +kernel
theorem dX10_worst_38 : decode cX10_worst 38 = .ok (.ifCond .ne 5, 3) := by decide +kernel
theorem dX10_worst_41 : decode cX10_worst 41 = .ok (.iconst (-1), 1) := by decide +kernel
theorem dX10_worst_42 : decode cX10_worst 42 = .ok (.ireturn, 1) := by decide +kernel
theorem dX10_worst_43 : decode cX10_worst 43 = .ok (.aload_n 0, 1) := by decide +kernel
theorem dX10_worst_44 : decode cX10_worst 44 = .ok (.invokevirtual 282, 3) := by decide +kernel
theorem dX10_worst_47 : decode cX10_worst 47 = .ok (.aload_n 0, 1) := by decide +kernel
theorem dX10_worst_48 : decode cX10_worst 48 = .ok (.iload_n 1, 1) := by decide +kernel
theorem dX10_worst_49 : decode cX10_worst 49 = .ok (.invokevirtual 297, 3) := by decide +kernel
theorem dX10_worst_52 : decode cX10_worst 52 = .ok (.istore 4, 2) := by decide +kernel
theorem dX10_worst_54 : decode cX10_worst 54 = .ok (.iload_n 2, 1) := by decide +kernel
theorem dX10_worst_55 : decode cX10_worst 55 = .ok (.ifCond .eq 8, 3) := by decide +kernel
theorem dX10_worst_58 : decode cX10_worst 58 = .ok (.iload 4, 2) := by decide +kernel
theorem dX10_worst_60 : decode cX10_worst 60 = .ok (.ifCond .ge 6, 3) := by decide +kernel
theorem dX10_worst_63 : decode cX10_worst 63 = .ok (.iload 4, 2) := by decide +kernel
theorem dX10_worst_65 : decode cX10_worst 65 = .ok (.ireturn, 1) := by decide +kernel
theorem dX10_worst_66 : decode cX10_worst 66 = .ok (.iload_n 3, 1) := by decide +kernel
theorem dX10_worst_67 : decode cX10_worst 67 = .ok (.iload_n 1, 1) := by decide +kernel
theorem dX10_worst_68 : decode cX10_worst 68 = .ok (.if_icmp .lt 7, 3) := by decide +kernel
theorem dX10_worst_71 : decode cX10_worst 71 = .ok (.iconst (-1), 1) := by decide +kernel
theorem dX10_worst_72 : decode cX10_worst 72 = .ok (.goto 18, 3) := by decide +kernel
theorem dX10_worst_75 : decode cX10_worst 75 = .ok (.iload_n 3, 1) := by decide +kernel
theorem dX10_worst_76 : decode cX10_worst 76 = .ok (.ifCond .ne 10, 3) := by decide +kernel
theorem dX10_worst_79 : decode cX10_worst 79 = .ok (.aload_n 0, 1) := by decide +kernel
theorem dX10_worst_80 : decode cX10_worst 80 = .ok (.getfield 289, 3) := by decide +kernel
theorem dX10_worst_83 : decode cX10_worst 83 = .ok (.goto 7, 3) := by decide +kernel
theorem dX10_worst_86 : decode cX10_worst 86 = .ok (.aload_n 0, 1) := by decide +kernel
theorem dX10_worst_87 : decode cX10_worst 87 = .ok (.getfield 292, 3) := by decide +kernel
theorem dX10_worst_90 : decode cX10_worst 90 = .ok (.ireturn, 1) := by decide +kernel
theorem dX10_shape_0 : decode cX10_shape 0 = .ok (.aload_n 0, 1) := by decide +kernel
theorem dX10_shape_1 : decode cX10_shape 1 = .ok (.getfield 300, 3) := by decide +kernel
theorem dX10_shape_4 : decode cX10_shape 4 = .ok (.istore_n 1, 1) := by decide +kernel
theorem dX10_shape_5 : decode cX10_shape 5 = .ok (.aload_n 0, 1) := by decide +kernel
theorem dX10_shape_6 : decode cX10_shape 6 = .ok (.iconst 0, 1) := by decide +kernel
theorem dX10_shape_7 : decode cX10_shape 7 = .ok (.putfield 300, 3) := by decide +kernel
theorem dX10_shape_10 : decode cX10_shape 10 = .ok (.iload_n 1, 1) := by decide +kernel
theorem dX10_shape_11 : decode cX10_shape 11 = .ok (.ireturn, 1) := by decide +kernel
theorem dX10_isAt_0 : decode cX10_isAt 0 = .ok (.iload_n 0, 1) := by decide +kernel
theorem dX10_isAt_1 : decode cX10_isAt 1 = .ok (.i2l, 1) := by decide +kernel
theorem dX10_isAt_2 : decode cX10_isAt 2 = .ok (.lconst 0, 1) := by decide +kernel
theorem dX10_isAt_3 : decode cX10_isAt 3 = .ok (.ldc2_w 164, 3) := by decide +kernel
theorem dX10_isAt_6 : decode cX10_isAt 6 = .ok (.invokestatic 126, 3) := by decide +kernel
theorem dX10_isAt_9 : decode cX10_isAt 9 = .ok (.ireturn, 1) := by decide +kernel
theorem dX10_corner_0 : decode cX10_corner 0 = .ok (.iload_n 1, 1) := by decide +kernel
theorem dX10_corner_1 : decode cX10_corner 1 = .ok (.invokestatic 303, 3) := by decide +kernel
theorem dX10_corner_4 : decode cX10_corner 4 = .ok (.ifCond .eq 10, 3) := by decide +kernel
theorem dX10_corner_7 : decode cX10_corner 7 = .ok (.iload_n 2, 1) := by decide +kernel
theorem dX10_corner_8 : decode cX10_corner 8 = .ok (.invokestatic 303, 3) := by decide +kernel
theorem dX10_corner_11 : decode cX10_corner 11 = .ok (.ifCond .ne 6, 3) := by decide +kernel
theorem dX10_corner_14 : decode cX10_corner 14 = .ok (.bipush (-2), 2) := by decide +kernel
theorem dX10_corner_16 : decode cX10_corner 16 = .ok (.ireturn, 1) := by decide +kernel
theorem dX10_corner_17 : decode cX10_corner 17 = .ok (.aload_n 0, 1) := by decide +kernel
theorem dX10_corner_18 : decode cX10_corner 18 = .ok (.getfield 300, 3) := by decide +kernel
theorem dX10_corner_21 : decode cX10_corner 21 = .ok (.bipush 8, 2) := by decide +kernel
theorem dX10_corner_23 : decode cX10_corner 23 = .ok (.if_icmp .ne 6, 3) := by decide +kernel
theorem dX10_corner_26 : decode cX10_corner 26 = .ok (.bipush (-4), 2) := by decide +kernel
theorem dX10_corner_28 : decode cX10_corner 28 = .ok (.ireturn, 1) := by decide +kernel
theorem dX10_corner_29 : decode cX10_corner 29 = .ok (.aload_n 0, 1) := by decide +kernel
theorem dX10_corner_30 : decode cX10_corner 30 = .ok (.getfield 116, 3) := by decide +kernel
theorem dX10_corner_33 : decode cX10_corner 33 = .ok (.aload_n 0, 1) := by decide +kernel
theorem dX10_corner_34 : decode cX10_corner 34 = .ok (.getfield 300, 3) := by decide +kernel
theorem dX10_corner_37 : decode cX10_corner 37 = .ok (.iload_n 1, 1) := by decide +kernel
theorem dX10_corner_38 : decode cX10_corner 38 = .ok (.iastore, 1) := by decide +kernel
theorem dX10_corner_39 : decode cX10_corner 39 = .ok (.aload_n 0, 1) := by decide +kernel
theorem dX10_corner_40 : decode cX10_corner 40 = .ok (.getfield 119, 3) := by decide +kernel
theorem dX10_corner_43 : decode cX10_corner 43 = .ok (.aload_n 0, 1) := by decide +kernel
theorem dX10_corner_44 : decode cX10_corner 44 = .ok (.getfield 300, 3) := by decide +kernel
theorem dX10_corner_47 : decode cX10_corner 47 = .ok (.iload_n 2, 1) := by decide +kernel
theorem dX10_corner_48 : decode cX10_corner 48 = .ok (.iastore, 1) := by decide +kernel
theorem dX10_corner_49 : decode cX10_corner 49 = .ok (.aload_n 0, 1) := by decide +kernel
theorem dX10_corner_50 : decode cX10_corner 50 = .ok (.dup, 1) := by decide +kernel
theorem dX10_corner_51 : decode cX10_corner 51 = .ok (.getfield 300, 3) := by decide +kernel
theorem dX10_corner_54 : decode cX10_corner 54 = .ok (.iconst 1, 1) := by decide +kernel
theorem dX10_corner_55 : decode cX10_corner 55 = .ok (.iadd, 1) := by decide +kernel
theorem dX10_corner_56 : decode cX10_corner 56 = .ok (.putfield 300, 3) := by decide +kernel
theorem dX10_corner_59 : decode cX10_corner 59 = .ok (.aload_n 0, 1) := by decide +kernel
theorem dX10_corner_60 : decode cX10_corner 60 = .ok (.getfield 300, 3) := by decide +kernel
theorem dX10_corner_63 : decode cX10_corner 63 = .ok (.ireturn, 1) := by decide +kernel
theorem dX10_findSums_0 : decode cX10_findSums 0 = .ok (.aload_n 0, 1) := by decide +kernel
theorem dX10_findSums_1 : decode cX10_findSums 1 = .ok (.lconst 0, 1) := by decide +kernel
theorem dX10_findSums_2 : decode cX10_findSums 2 = .ok (.putfield 306, 3) := by decide +kernel
theorem dX10_findSums_5 : decode cX10_findSums 5 = .ok (.aload_n 0, 1) := by decide +kernel
theorem dX10_findSums_6 : decode cX10_findSums 6 = .ok (.lconst 0, 1) := by decide +kernel
theorem dX10_findSums_7 : decode cX10_findSums 7 = .ok (.putfield 310, 3) := by decide +kernel
theorem dX10_findSums_10 : decode cX10_findSums 10 = .ok (.aload_n 0, 1) := by decide +kernel
theorem dX10_findSums_11 : decode cX10_findSums 11 = .ok (.lconst 0, 1) := by decide +kernel
theorem dX10_findSums_12 : decode cX10_findSums 12 = .ok (.putfield 313, 3) := by decide +kernel
theorem dX10_findSums_15 : decode cX10_findSums 15 = .ok (.iconst 0, 1) := by decide +kernel
theorem dX10_findSums_16 : decode cX10_findSums 16 = .ok (.istore_n 1, 1) := by decide +kernel
theorem dX10_findSums_17 : decode cX10_findSums 17 = .ok (.iload_n 1, 1) := by decide +kernel
theorem dX10_findSums_18 : decode cX10_findSums 18 = .ok (.aload_n 0, 1) := by decide +kernel
theorem dX10_findSums_19 : decode cX10_findSums 19 = .ok (.getfield 300, 3) := by decide +kernel
theorem dX10_findSums_22 : decode cX10_findSums 22 = .ok (.if_icmp .ge 119, 3) := by decide +kernel
theorem dX10_findSums_25 : decode cX10_findSums 25 = .ok (.iload_n 1, 1) := by decide +kernel
theorem dX10_findSums_26 : decode cX10_findSums 26 = .ok (.iconst 1, 1) := by decide +kernel
theorem dX10_findSums_27 : decode cX10_findSums 27 = .ok (.iadd, 1) := by decide +kernel
theorem dX10_findSums_28 : decode cX10_findSums 28 = .ok (.aload_n 0, 1) := by decide +kernel
theorem dX10_findSums_29 : decode cX10_findSums 29 = .ok (.getfield 300, 3) := by decide +kernel
theorem dX10_findSums_32 : decode cX10_findSums 32 = .ok (.if_icmp .ne 7, 3) := by decide +kernel
theorem dX10_findSums_35 : decode cX10_findSums 35 = .ok (.iconst 0, 1) := by decide +kernel
theorem dX10_findSums_36 : decode cX10_findSums 36 = .ok (.goto 6, 3) := by decide +kernel
theorem dX10_findSums_39 : decode cX10_findSums 39 = .ok (.iload_n 1, 1) := by decide +kernel
theorem dX10_findSums_40 : decode cX10_findSums 40 = .ok (.iconst 1, 1) := by decide +kernel
theorem dX10_findSums_41 : decode cX10_findSums 41 = .ok (.iadd, 1) := by decide +kernel
theorem dX10_findSums_42 : decode cX10_findSums 42 = .ok (.istore_n 2, 1) := by decide +kernel
theorem dX10_findSums_43 : decode cX10_findSums 43 = .ok (.aload_n 0, 1) := by decide +kernel
theorem dX10_findSums_44 : decode cX10_findSums 44 = .ok (.getfield 116, 3) := by decide +kernel
theorem dX10_findSums_47 : decode cX10_findSums 47 = .ok (.iload_n 1, 1) := by decide +kernel
theorem dX10_findSums_48 : decode cX10_findSums 48 = .ok (.iaload, 1) := by decide +kernel
theorem dX10_findSums_49 : decode cX10_findSums 49 = .ok (.i2l, 1) := by decide +kernel
theorem dX10_findSums_50 : decode cX10_findSums 50 = .ok (.aload_n 0, 1) := by decide +kernel
theorem dX10_findSums_51 : decode cX10_findSums 51 = .ok (.getfield 119, 3) := by decide +kernel
theorem dX10_findSums_54 : decode cX10_findSums 54 = .ok (.iload_n 2, 1) := by decide +kernel
theorem dX10_findSums_55 : decode cX10_findSums 55 = .ok (.iaload, 1) := by decide +kernel
theorem dX10_findSums_56 : decode cX10_findSums 56 = .ok (.i2l, 1) := by decide +kernel
theorem dX10_findSums_57 : decode cX10_findSums 57 = .ok (.lmul, 1) := by decide +kernel
theorem dX10_findSums_58 : decode cX10_findSums 58 = .ok (.aload_n 0, 1) := by decide +kernel
theorem dX10_findSums_59 : decode cX10_findSums 59 = .ok (.getfield 116, 3) := by decide +kernel
theorem dX10_findSums_62 : decode cX10_findSums 62 = .ok (.iload_n 2, 1) := by decide +kernel
theorem dX10_findSums_63 : decode cX10_findSums 63 = .ok (.iaload, 1) := by decide +kernel
theorem dX10_findSums_64 : decode cX10_findSums 64 = .ok (.i2l, 1) := by decide +kernel
theorem dX10_findSums_65 : decode cX10_findSums 65 = .ok (.aload_n 0, 1) := by decide +kernel
theorem dX10_findSums_66 : decode cX10_findSums 66 = .ok (.getfield 119, 3) := by decide +kernel
theorem dX10_findSums_69 : decode cX10_findSums 69 = .ok (.iload_n 1, 1) := by decide +kernel
theorem dX10_findSums_70 : decode cX10_findSums 70 = .ok (.iaload, 1) := by decide +kernel
theorem dX10_findSums_71 : decode cX10_findSums 71 = .ok (.i2l, 1) := by decide +kernel
theorem dX10_findSums_72 : decode cX10_findSums 72 = .ok (.lmul, 1) := by decide +kernel
theorem dX10_findSums_73 : decode cX10_findSums 73 = .ok (.lsub, 1) := by decide +kernel
theorem dX10_findSums_74 : decode cX10_findSums 74 = .ok (.lstore_n 3, 1) := by decide +kernel
theorem dX10_findSums_75 : decode cX10_findSums 75 = .ok (.aload_n 0, 1) := by decide +kernel
theorem dX10_findSums_76 : decode cX10_findSums 76 = .ok (.dup, 1) := by decide +kernel
theorem dX10_findSums_77 : decode cX10_findSums 77 = .ok (.getfield 313, 3) := by decide +kernel
theorem dX10_findSums_80 : decode cX10_findSums 80 = .ok (.lload_n 3, 1) := by decide +kernel
theorem dX10_findSums_81 : decode cX10_findSums 81 = .ok (.ladd, 1) := by decide +kernel
theorem dX10_findSums_82 : decode cX10_findSums 82 = .ok (.putfield 313, 3) := by decide +kernel
theorem dX10_findSums_85 : decode cX10_findSums 85 = .ok (.aload_n 0, 1) := by decide +kernel
theorem dX10_findSums_86 : decode cX10_findSums 86 = .ok (.dup, 1) := by decide +kernel
theorem dX10_findSums_87 : decode cX10_findSums 87 = .ok (.getfield 306, 3) := by decide +kernel
theorem dX10_findSums_90 : decode cX10_findSums 90 = .ok (.lload_n 3, 1) := by decide +kernel
theorem dX10_findSums_91 : decode cX10_findSums 91 = .ok (.aload_n 0, 1) := by decide +kernel
theorem dX10_findSums_92 : decode cX10_findSums 92 = .ok (.getfield 116, 3) := by decide +kernel
theorem dX10_findSums_95 : decode cX10_findSums 95 = .ok (.iload_n 1, 1) := by decide +kernel
theorem dX10_findSums_96 : decode cX10_findSums 96 = .ok (.iaload, 1) := by decide +kernel
theorem dX10_findSums_97 : decode cX10_findSums 97 = .ok (.aload_n 0, 1) := by decide +kernel
theorem dX10_findSums_98 : decode cX10_findSums 98 = .ok (.getfield 116, 3) := by decide +kernel
theorem dX10_findSums_101 : decode cX10_findSums 101 = .ok (.iload_n 2, 1) := by decide +kernel
theorem dX10_findSums_102 : decode cX10_findSums 102 = .ok (.iaload, 1) := by decide +kernel
theorem dX10_findSums_103 : decode cX10_findSums 103 = .ok (.iadd, 1) := by decide +kernel
theorem dX10_findSums_104 : decode cX10_findSums 104 = .ok (.i2l, 1) := by decide +kernel
theorem dX10_findSums_105 : decode cX10_findSums 105 = .ok (.lmul, 1) := by decide +kernel
theorem dX10_findSums_106 : decode cX10_findSums 106 = .ok (.ladd, 1) := by decide +kernel
theorem dX10_findSums_107 : decode cX10_findSums 107 = .ok (.putfield 306, 3) := by decide +kernel
theorem dX10_findSums_110 : decode cX10_findSums 110 = .ok (.aload_n 0, 1) := by decide +kernel
theorem dX10_findSums_111 : decode cX10_findSums 111 = .ok (.dup, 1) := by decide +kernel
theorem dX10_findSums_112 : decode cX10_findSums 112 = .ok (.getfield 310, 3) := by decide +kernel
theorem dX10_findSums_115 : decode cX10_findSums 115 = .ok (.lload_n 3, 1) := by decide +kernel
theorem dX10_findSums_116 : decode cX10_findSums 116 = .ok (.aload_n 0, 1) := by decide +kernel
theorem dX10_findSums_117 : decode cX10_findSums 117 = .ok (.getfield 119, 3) := by decide +kernel
theorem dX10_findSums_120 : decode cX10_findSums 120 = .ok (.iload_n 1, 1) := by decide +kernel
theorem dX10_findSums_121 : decode cX10_findSums 121 = .ok (.iaload, 1) := by decide +kernel
theorem dX10_findSums_122 : decode cX10_findSums 122 = .ok (.aload_n 0, 1) := by decide +kernel
theorem dX10_findSums_123 : decode cX10_findSums 123 = .ok (.getfield 119, 3) := by decide +kernel
theorem dX10_findSums_126 : decode cX10_findSums 126 = .ok (.iload_n 2, 1) := by decide +kernel
theorem dX10_findSums_127 : decode cX10_findSums 127 = .ok (.iaload, 1) := by decide +kernel
theorem dX10_findSums_128 : decode cX10_findSums 128 = .ok (.iadd, 1) := by decide +kernel
theorem dX10_findSums_129 : decode cX10_findSums 129 = .ok (.i2l, 1) := by decide +kernel
theorem dX10_findSums_130 : decode cX10_findSums 130 = .ok (.lmul, 1) := by decide +kernel
theorem dX10_findSums_131 : decode cX10_findSums 131 = .ok (.ladd, 1) := by decide +kernel
theorem dX10_findSums_132 : decode cX10_findSums 132 = .ok (.putfield 310, 3) := by decide +kernel
theorem dX10_findSums_135 : decode cX10_findSums 135 = .ok (.iinc 1 1, 3) := by decide +kernel
theorem dX10_findSums_138 : decode cX10_findSums 138 = .ok (.goto (-121), 3) := by decide +kernel
theorem dX10_findSums_141 : decode cX10_findSums 141 = .ok (.aload_n 0, 1) := by decide +kernel
theorem dX10_findSums_142 : decode cX10_findSums 142 = .ok (.getfield 300, 3) := by decide +kernel
theorem dX10_findSums_145 : decode cX10_findSums 145 = .ok (.iconst 2, 1) := by decide +kernel
theorem dX10_findSums_146 : decode cX10_findSums 146 = .ok (.if_icmp .le 16, 3) := by decide +kernel
theorem dX10_findSums_149 : decode cX10_findSums 149 = .ok (.aload_n 0, 1) := by decide +kernel
theorem dX10_findSums_150 : decode cX10_findSums 150 = .ok (.getfield 313, 3) := by decide +kernel
theorem dX10_findSums_153 : decode cX10_findSums 153 = .ok (.lconst 0, 1) := by decide +kernel
theorem dX10_findSums_154 : decode cX10_findSums 154 = .ok (.lcmp, 1) := by decide +kernel
theorem dX10_findSums_155 : decode cX10_findSums 155 = .ok (.ifCond .eq 7, 3) := by decide +kernel
theorem dX10_findSums_158 : decode cX10_findSums 158 = .ok (.iconst 1, 1) := by decide +kernel
theorem dX10_findSums_159 : decode cX10_findSums 159 = .ok (.goto 4, 3) := by decide +kernel
theorem dX10_findSums_162 : decode cX10_findSums 162 = .ok (.iconst 0, 1) := by decide +kernel
theorem dX10_findSums_163 : decode cX10_findSums 163 = .ok (.ireturn, 1) := by decide +kernel
theorem dX10_area_0 : decode cX10_area 0 = .ok (.aload_n 0, 1) := by decide +kernel
theorem dX10_area_1 : decode cX10_area 1 = .ok (.invokevirtual 316, 3) := by decide +kernel
theorem dX10_area_4 : decode cX10_area 4 = .ok (.istore_n 1, 1) := by decide +kernel
theorem dX10_area_5 : decode cX10_area 5 = .ok (.aload_n 0, 1) := by decide +kernel
theorem dX10_area_6 : decode cX10_area 6 = .ok (.getfield 300, 3) := by decide +kernel
theorem dX10_area_9 : decode cX10_area 9 = .ok (.iconst 3, 1) := by decide +kernel
theorem dX10_area_10 : decode cX10_area 10 = .ok (.if_icmp .ge 8, 3) := by decide +kernel
theorem dX10_area_13 : decode cX10_area 13 = .ok (.bipush (-3), 2) := by decide +kernel
theorem dX10_area_15 : decode cX10_area 15 = .ok (.goto 26, 3) := by decide +kernel
theorem dX10_area_18 : decode cX10_area 18 = .ok (.aload_n 0, 1) := by decide +kernel
theorem dX10_area_19 : decode cX10_area 19 = .ok (.getfield 313, 3) := by decide +kernel
theorem dX10_area_22 : decode cX10_area 22 = .ok (.lconst 0, 1) := by decide +kernel
theorem dX10_area_23 : decode cX10_area 23 = .ok (.lcmp, 1) := by decide +kernel
theorem dX10_area_24 : decode cX10_area 24 = .ok (.ifCond .ge 12, 3) := by decide +kernel
theorem dX10_area_27 : decode cX10_area 27 = .ok (.lconst 0, 1) := by decide +kernel
theorem dX10_area_28 : decode cX10_area 28 = .ok (.aload_n 0, 1) := by decide +kernel
theorem dX10_area_29 : decode cX10_area 29 = .ok (.getfield 313, 3) := by decide +kernel
theorem dX10_area_32 : decode cX10_area 32 = .ok (.lsub, 1) := by decide +kernel
theorem dX10_area_33 : decode cX10_area 33 = .ok (.goto 7, 3) := by decide +kernel
theorem dX10_area_36 : decode cX10_area 36 = .ok (.aload_n 0, 1) := by decide +kernel
theorem dX10_area_37 : decode cX10_area 37 = .ok (.getfield 313, 3) := by decide +kernel
theorem dX10_area_40 : decode cX10_area 40 = .ok (.l2i, 1) := by decide +kernel
theorem dX10_area_41 : decode cX10_area 41 = .ok (.ireturn, 1) := by decide +kernel
theorem dX10_size_0 : decode cX10_size 0 = .ok (.lload_n 0, 1) := by decide +kernel
theorem dX10_size_1 : decode cX10_size 1 = .ok (.lconst 0, 1) := by decide +kernel
theorem dX10_size_2 : decode cX10_size 2 = .ok (.lcmp, 1) := by decide +kernel
theorem dX10_size_3 : decode cX10_size 3 = .ok (.ifCond .ge 9, 3) := by decide +kernel
theorem dX10_size_6 : decode cX10_size 6 = .ok (.lconst 0, 1) := by decide +kernel
theorem dX10_size_7 : decode cX10_size 7 = .ok (.lload_n 0, 1) := by decide +kernel
theorem dX10_size_8 : decode cX10_size 8 = .ok (.lsub, 1) := by decide +kernel
theorem dX10_size_9 : decode cX10_size 9 = .ok (.goto 4, 3) := by decide +kernel
theorem dX10_size_12 : decode cX10_size 12 = .ok (.lload_n 0, 1) := by decide +kernel
theorem dX10_size_13 : decode cX10_size 13 = .ok (.lreturn, 1) := by decide +kernel
theorem dX10_lowest_0 : decode cX10_lowest 0 = .ok (.lload_n 1, 1) := by decide +kernel
theorem dX10_lowest_1 : decode cX10_lowest 1 = .ok (.invokestatic 320, 3) := by decide +kernel
theorem dX10_lowest_4 : decode cX10_lowest 4 = .ok (.lstore 5, 2) := by decide +kernel
theorem dX10_lowest_6 : decode cX10_lowest 6 = .ok (.lload_n 3, 1) := by decide +kernel
theorem dX10_lowest_7 : decode cX10_lowest 7 = .ok (.invokestatic 320, 3) := by decide +kernel
theorem dX10_lowest_10 : decode cX10_lowest 10 = .ok (.lstore 7, 2) := by decide +kernel
theorem dX10_lowest_12 : decode cX10_lowest 12 = .ok (.lload 7, 2) := by decide +kernel
theorem dX10_lowest_14 : decode cX10_lowest 14 = .ok (.lconst 0, 1) := by decide +kernel
theorem dX10_lowest_15 : decode cX10_lowest 15 = .ok (.lcmp, 1) := by decide +kernel
theorem dX10_lowest_16 : decode cX10_lowest 16 = .ok (.ifCond .eq 21, 3) := by decide +kernel
theorem dX10_lowest_19 : decode cX10_lowest 19 = .ok (.lload 5, 2) := by decide +kernel
theorem dX10_lowest_21 : decode cX10_lowest 21 = .ok (.lload 7, 2) := by decide +kernel
theorem dX10_lowest_23 : decode cX10_lowest 23 = .ok (.lrem, 1) := by decide +kernel
theorem dX10_lowest_24 : decode cX10_lowest 24 = .ok (.lstore 9, 2) := by decide +kernel
theorem dX10_lowest_26 : decode cX10_lowest 26 = .ok (.lload 7, 2) := by decide +kernel
theorem dX10_lowest_28 : decode cX10_lowest 28 = .ok (.lstore 5, 2) := by decide +kernel
theorem dX10_lowest_30 : decode cX10_lowest 30 = .ok (.lload 9, 2) := by decide +kernel
theorem dX10_lowest_32 : decode cX10_lowest 32 = .ok (.lstore 7, 2) := by decide +kernel
theorem dX10_lowest_34 : decode cX10_lowest 34 = .ok (.goto (-22), 3) := by decide +kernel
theorem dX10_lowest_37 : decode cX10_lowest 37 = .ok (.lload_n 3, 1) := by decide +kernel
theorem dX10_lowest_38 : decode cX10_lowest 38 = .ok (.lconst 0, 1) := by decide +kernel
theorem dX10_lowest_39 : decode cX10_lowest 39 = .ok (.lcmp, 1) := by decide +kernel
theorem dX10_lowest_40 : decode cX10_lowest 40 = .ok (.ifCond .ge 9, 3) := by decide +kernel
theorem dX10_lowest_43 : decode cX10_lowest 43 = .ok (.ldc2_w 324, 3) := by decide +kernel
theorem dX10_lowest_46 : decode cX10_lowest 46 = .ok (.goto 4, 3) := by decide +kernel
theorem dX10_lowest_49 : decode cX10_lowest 49 = .ok (.lconst 1, 1) := by decide +kernel
theorem dX10_lowest_50 : decode cX10_lowest 50 = .ok (.lstore 9, 2) := by decide +kernel
theorem dX10_lowest_52 : decode cX10_lowest 52 = .ok (.aload_n 0, 1) := by decide +kernel
theorem dX10_lowest_53 : decode cX10_lowest 53 = .ok (.lload 9, 2) := by decide +kernel
theorem dX10_lowest_55 : decode cX10_lowest 55 = .ok (.lload_n 1, 1) := by decide +kernel
theorem dX10_lowest_56 : decode cX10_lowest 56 = .ok (.lmul, 1) := by decide +kernel
theorem dX10_lowest_57 : decode cX10_lowest 57 = .ok (.lload 5, 2) := by decide +kernel
theorem dX10_lowest_59 : decode cX10_lowest 59 = .ok (.ldiv, 1) := by decide +kernel
theorem dX10_lowest_60 : decode cX10_lowest 60 = .ok (.putfield 326, 3) := by decide +kernel
theorem dX10_lowest_63 : decode cX10_lowest 63 = .ok (.aload_n 0, 1) := by decide +kernel
theorem dX10_lowest_64 : decode cX10_lowest 64 = .ok (.lload 9, 2) := by decide +kernel
theorem dX10_lowest_66 : decode cX10_lowest 66 = .ok (.lload_n 3, 1) := by decide +kernel
theorem dX10_lowest_67 : decode cX10_lowest 67 = .ok (.lmul, 1) := by decide +kernel
theorem dX10_lowest_68 : decode cX10_lowest 68 = .ok (.lload 5, 2) := by decide +kernel
theorem dX10_lowest_70 : decode cX10_lowest 70 = .ok (.ldiv, 1) := by decide +kernel
theorem dX10_lowest_71 : decode cX10_lowest 71 = .ok (.putfield 329, 3) := by decide +kernel
theorem dX10_lowest_74 : decode cX10_lowest 74 = .ok (.return_, 1) := by decide +kernel
theorem dX10_middle_0 : decode cX10_middle 0 = .ok (.iload_n 1, 1) := by decide +kernel
theorem dX10_middle_1 : decode cX10_middle 1 = .ok (.i2l, 1) := by decide +kernel
theorem dX10_middle_2 : decode cX10_middle 2 = .ok (.lconst 0, 1) := by decide +kernel
theorem dX10_middle_3 : decode cX10_middle 3 = .ok (.ldc2_w 332, 3) := by decide +kernel
theorem dX10_middle_6 : decode cX10_middle 6 = .ok (.invokestatic 126, 3) := by decide +kernel
theorem dX10_middle_9 : decode cX10_middle 9 = .ok (.ifCond .ne 7, 3) := by decide +kernel
theorem dX10_middle_12 : decode cX10_middle 12 = .ok (.ldc2_w 334, 3) := by decide +kernel
theorem dX10_middle_15 : decode cX10_middle 15 = .ok (.lreturn, 1) := by decide +kernel
theorem dX10_middle_16 : decode cX10_middle 16 = .ok (.aload_n 0, 1) := by decide +kernel
theorem dX10_middle_17 : decode cX10_middle 17 = .ok (.invokevirtual 316, 3) := by decide +kernel
theorem dX10_middle_20 : decode cX10_middle 20 = .ok (.ifCond .ne 7, 3) := by decide +kernel
theorem dX10_middle_23 : decode cX10_middle 23 = .ok (.ldc2_w 336, 3) := by decide +kernel
theorem dX10_middle_26 : decode cX10_middle 26 = .ok (.lreturn, 1) := by decide +kernel
theorem dX10_middle_27 : decode cX10_middle 27 = .ok (.aload_n 0, 1) := by decide +kernel
theorem dX10_middle_28 : decode cX10_middle 28 = .ok (.iload_n 1, 1) := by decide +kernel
theorem dX10_middle_29 : decode cX10_middle 29 = .ok (.iconst 2, 1) := by decide +kernel
theorem dX10_middle_30 : decode cX10_middle 30 = .ok (.if_icmp .ge 10, 3) := by decide +kernel
theorem dX10_middle_33 : decode cX10_middle 33 = .ok (.aload_n 0, 1) := by decide +kernel
theorem dX10_middle_34 : decode cX10_middle 34 = .ok (.getfield 306, 3) := by decide +kernel
theorem dX10_middle_37 : decode cX10_middle 37 = .ok (.goto 7, 3) := by decide +kernel
theorem dX10_middle_40 : decode cX10_middle 40 = .ok (.aload_n 0, 1) := by decide +kernel
theorem dX10_middle_41 : decode cX10_middle 41 = .ok (.getfield 310, 3) := by decide +kernel
theorem dX10_middle_44 : decode cX10_middle 44 = .ok (.ldc2_w 332, 3) := by decide +kernel
theorem dX10_middle_47 : decode cX10_middle 47 = .ok (.aload_n 0, 1) := by decide +kernel
theorem dX10_middle_48 : decode cX10_middle 48 = .ok (.getfield 313, 3) := by decide +kernel
theorem dX10_middle_51 : decode cX10_middle 51 = .ok (.lmul, 1) := by decide +kernel
theorem dX10_middle_52 : decode cX10_middle 52 = .ok (.invokevirtual 338, 3) := by decide +kernel
theorem dX10_middle_55 : decode cX10_middle 55 = .ok (.iload_n 1, 1) := by decide +kernel
theorem dX10_middle_56 : decode cX10_middle 56 = .ok (.iconst 2, 1) := by decide +kernel
theorem dX10_middle_57 : decode cX10_middle 57 = .ok (.irem, 1) := by decide +kernel
theorem dX10_middle_58 : decode cX10_middle 58 = .ok (.ifCond .ne 10, 3) := by decide +kernel
theorem dX10_middle_61 : decode cX10_middle 61 = .ok (.aload_n 0, 1) := by decide +kernel
theorem dX10_middle_62 : decode cX10_middle 62 = .ok (.getfield 326, 3) := by decide +kernel
theorem dX10_middle_65 : decode cX10_middle 65 = .ok (.goto 7, 3) := by decide +kernel
theorem dX10_middle_68 : decode cX10_middle 68 = .ok (.aload_n 0, 1) := by decide +kernel
theorem dX10_middle_69 : decode cX10_middle 69 = .ok (.getfield 329, 3) := by decide +kernel
theorem dX10_middle_72 : decode cX10_middle 72 = .ok (.lreturn, 1) := by decide +kernel
theorem dX10_findTilt_0 : decode cX10_findTilt 0 = .ok (.aload_n 0, 1) := by decide +kernel
theorem dX10_findTilt_1 : decode cX10_findTilt 1 = .ok (.ldc2_w 295, 3) := by decide +kernel
theorem dX10_findTilt_4 : decode cX10_findTilt 4 = .ok (.aload_n 0, 1) := by decide +kernel
theorem dX10_findTilt_5 : decode cX10_findTilt 5 = .ok (.getfield 306, 3) := by decide +kernel
theorem dX10_findTilt_8 : decode cX10_findTilt 8 = .ok (.lmul, 1) := by decide +kernel
theorem dX10_findTilt_9 : decode cX10_findTilt 9 = .ok (.ldc2_w 332, 3) := by decide +kernel
theorem dX10_findTilt_12 : decode cX10_findTilt 12 = .ok (.aload_n 0, 1) := by decide +kernel
theorem dX10_findTilt_13 : decode cX10_findTilt 13 = .ok (.getfield 313, 3) := by decide +kernel
theorem dX10_findTilt_16 : decode cX10_findTilt 16 = .ok (.lmul, 1) := by decide +kernel
theorem dX10_findTilt_17 : decode cX10_findTilt 17 = .ok (.iload_n 1, 1) := by decide +kernel
theorem dX10_findTilt_18 : decode cX10_findTilt 18 = .ok (.iload_n 2, 1) := by decide +kernel
theorem dX10_findTilt_19 : decode cX10_findTilt 19 = .ok (.iadd, 1) := by decide +kernel
theorem dX10_findTilt_20 : decode cX10_findTilt 20 = .ok (.i2l, 1) := by decide +kernel
theorem dX10_findTilt_21 : decode cX10_findTilt 21 = .ok (.lmul, 1) := by decide +kernel
theorem dX10_findTilt_22 : decode cX10_findTilt 22 = .ok (.lsub, 1) := by decide +kernel
theorem dX10_findTilt_23 : decode cX10_findTilt 23 = .ok (.ldc2_w 342, 3) := by decide +kernel
theorem dX10_findTilt_26 : decode cX10_findTilt 26 = .ok (.aload_n 0, 1) := by decide +kernel
theorem dX10_findTilt_27 : decode cX10_findTilt 27 = .ok (.getfield 313, 3) := by decide +kernel
theorem dX10_findTilt_30 : decode cX10_findTilt 30 = .ok (.lmul, 1) := by decide +kernel
theorem dX10_findTilt_31 : decode cX10_findTilt 31 = .ok (.invokevirtual 338, 3) := by decide +kernel
theorem dX10_findTilt_34 : decode cX10_findTilt 34 = .ok (.return_, 1) := by decide +kernel
theorem dX10_tilt_0 : decode cX10_tilt 0 = .ok (.iload_n 1, 1) := by decide +kernel
theorem dX10_tilt_1 : decode cX10_tilt 1 = .ok (.invokestatic 303, 3) := by decide +kernel
theorem dX10_tilt_4 : decode cX10_tilt 4 = .ok (.ifCond .eq 36, 3) := by decide +kernel
theorem dX10_tilt_7 : decode cX10_tilt 7 = .ok (.iload_n 2, 1) := by decide +kernel
theorem dX10_tilt_8 : decode cX10_tilt 8 = .ok (.invokestatic 303, 3) := by decide +kernel
theorem dX10_tilt_11 : decode cX10_tilt 11 = .ok (.ifCond .eq 29, 3) := by decide +kernel
theorem dX10_tilt_14 : decode cX10_tilt 14 = .ok (.iload_n 3, 1) := by decide +kernel
theorem dX10_tilt_15 : decode cX10_tilt 15 = .ok (.invokestatic 303, 3) := by decide +kernel
theorem dX10_tilt_18 : decode cX10_tilt 18 = .ok (.ifCond .eq 22, 3) := by decide +kernel
theorem dX10_tilt_21 : decode cX10_tilt 21 = .ok (.iload 4, 2) := by decide +kernel
theorem dX10_tilt_23 : decode cX10_tilt 23 = .ok (.invokestatic 303, 3) := by decide +kernel
theorem dX10_tilt_26 : decode cX10_tilt 26 = .ok (.ifCond .eq 14, 3) := by decide +kernel
theorem dX10_tilt_29 : decode cX10_tilt 29 = .ok (.iload 5, 2) := by decide +kernel
theorem dX10_tilt_31 : decode cX10_tilt 31 = .ok (.i2l, 1) := by decide +kernel
theorem dX10_tilt_32 : decode cX10_tilt 32 = .ok (.lconst 0, 1) := by decide +kernel
theorem dX10_tilt_33 : decode cX10_tilt 33 = .ok (.lconst 1, 1) := by decide +kernel
theorem dX10_tilt_34 : decode cX10_tilt 34 = .ok (.invokestatic 126, 3) := by decide +kernel
theorem dX10_tilt_37 : decode cX10_tilt 37 = .ok (.ifCond .ne 7, 3) := by decide +kernel
theorem dX10_tilt_40 : decode cX10_tilt 40 = .ok (.ldc2_w 334, 3) := by decide +kernel
theorem dX10_tilt_43 : decode cX10_tilt 43 = .ok (.lreturn, 1) := by decide +kernel
theorem dX10_tilt_44 : decode cX10_tilt 44 = .ok (.aload_n 0, 1) := by decide +kernel
theorem dX10_tilt_45 : decode cX10_tilt 45 = .ok (.invokevirtual 316, 3) := by decide +kernel
theorem dX10_tilt_48 : decode cX10_tilt 48 = .ok (.ifCond .ne 7, 3) := by decide +kernel
theorem dX10_tilt_51 : decode cX10_tilt 51 = .ok (.ldc2_w 336, 3) := by decide +kernel
theorem dX10_tilt_54 : decode cX10_tilt 54 = .ok (.lreturn, 1) := by decide +kernel
theorem dX10_tilt_55 : decode cX10_tilt 55 = .ok (.aload_n 0, 1) := by decide +kernel
theorem dX10_tilt_56 : decode cX10_tilt 56 = .ok (.iload_n 1, 1) := by decide +kernel
theorem dX10_tilt_57 : decode cX10_tilt 57 = .ok (.iload_n 3, 1) := by decide +kernel
theorem dX10_tilt_58 : decode cX10_tilt 58 = .ok (.invokevirtual 344, 3) := by decide +kernel
theorem dX10_tilt_61 : decode cX10_tilt 61 = .ok (.iload 5, 2) := by decide +kernel
theorem dX10_tilt_63 : decode cX10_tilt 63 = .ok (.ifCond .ne 10, 3) := by decide +kernel
theorem dX10_tilt_66 : decode cX10_tilt 66 = .ok (.aload_n 0, 1) := by decide +kernel
theorem dX10_tilt_67 : decode cX10_tilt 67 = .ok (.getfield 326, 3) := by decide +kernel
theorem dX10_tilt_70 : decode cX10_tilt 70 = .ok (.goto 7, 3) := by decide +kernel
theorem dX10_tilt_73 : decode cX10_tilt 73 = .ok (.aload_n 0, 1) := by decide +kernel
theorem dX10_tilt_74 : decode cX10_tilt 74 = .ok (.getfield 329, 3) := by decide +kernel
theorem dX10_tilt_77 : decode cX10_tilt 77 = .ok (.lreturn, 1) := by decide +kernel
theorem dX10_isSteady_0 : decode cX10_isSteady 0 = .ok (.ldc2_w 332, 3) := by decide +kernel
theorem dX10_isSteady_3 : decode cX10_isSteady 3 = .ok (.aload_n 0, 1) := by decide +kernel
theorem dX10_isSteady_4 : decode cX10_isSteady 4 = .ok (.getfield 313, 3) := by decide +kernel
theorem dX10_isSteady_7 : decode cX10_isSteady 7 = .ok (.invokestatic 320, 3) := by decide +kernel
theorem dX10_isSteady_10 : decode cX10_isSteady 10 = .ok (.lmul, 1) := by decide +kernel
theorem dX10_isSteady_11 : decode cX10_isSteady 11 = .ok (.lstore 5, 2) := by decide +kernel
theorem dX10_isSteady_13 : decode cX10_isSteady 13 = .ok (.aload_n 0, 1) := by decide +kernel
theorem dX10_isSteady_14 : decode cX10_isSteady 14 = .ok (.getfield 313, 3) := by decide +kernel
theorem dX10_isSteady_17 : decode cX10_isSteady 17 = .ok (.lconst 0, 1) := by decide +kernel
theorem dX10_isSteady_18 : decode cX10_isSteady 18 = .ok (.lcmp, 1) := by decide +kernel
theorem dX10_isSteady_19 : decode cX10_isSteady 19 = .ok (.ifCond .ge 12, 3) := by decide +kernel
theorem dX10_isSteady_22 : decode cX10_isSteady 22 = .ok (.lconst 0, 1) := by decide +kernel
theorem dX10_isSteady_23 : decode cX10_isSteady 23 = .ok (.aload_n 0, 1) := by decide +kernel
theorem dX10_isSteady_24 : decode cX10_isSteady 24 = .ok (.getfield 306, 3) := by decide +kernel
theorem dX10_isSteady_27 : decode cX10_isSteady 27 = .ok (.lsub, 1) := by decide +kernel
theorem dX10_isSteady_28 : decode cX10_isSteady 28 = .ok (.goto 7, 3) := by decide +kernel
theorem dX10_isSteady_31 : decode cX10_isSteady 31 = .ok (.aload_n 0, 1) := by decide +kernel
theorem dX10_isSteady_32 : decode cX10_isSteady 32 = .ok (.getfield 306, 3) := by decide +kernel
theorem dX10_isSteady_35 : decode cX10_isSteady 35 = .ok (.lstore 7, 2) := by decide +kernel
theorem dX10_isSteady_37 : decode cX10_isSteady 37 = .ok (.aload_n 0, 1) := by decide +kernel
theorem dX10_isSteady_38 : decode cX10_isSteady 38 = .ok (.getfield 313, 3) := by decide +kernel
theorem dX10_isSteady_41 : decode cX10_isSteady 41 = .ok (.lconst 0, 1) := by decide +kernel
theorem dX10_isSteady_42 : decode cX10_isSteady 42 = .ok (.lcmp, 1) := by decide +kernel
theorem dX10_isSteady_43 : decode cX10_isSteady 43 = .ok (.ifCond .ge 12, 3) := by decide +kernel
theorem dX10_isSteady_46 : decode cX10_isSteady 46 = .ok (.lconst 0, 1) := by decide +kernel
theorem dX10_isSteady_47 : decode cX10_isSteady 47 = .ok (.aload_n 0, 1) := by decide +kernel
theorem dX10_isSteady_48 : decode cX10_isSteady 48 = .ok (.getfield 310, 3) := by decide +kernel
theorem dX10_isSteady_51 : decode cX10_isSteady 51 = .ok (.lsub, 1) := by decide +kernel
theorem dX10_isSteady_52 : decode cX10_isSteady 52 = .ok (.goto 7, 3) := by decide +kernel
theorem dX10_isSteady_55 : decode cX10_isSteady 55 = .ok (.aload_n 0, 1) := by decide +kernel
theorem dX10_isSteady_56 : decode cX10_isSteady 56 = .ok (.getfield 310, 3) := by decide +kernel
theorem dX10_isSteady_59 : decode cX10_isSteady 59 = .ok (.lstore 9, 2) := by decide +kernel
theorem dX10_isSteady_61 : decode cX10_isSteady 61 = .ok (.iload_n 1, 1) := by decide +kernel
theorem dX10_isSteady_62 : decode cX10_isSteady 62 = .ok (.iload_n 3, 1) := by decide +kernel
theorem dX10_isSteady_63 : decode cX10_isSteady 63 = .ok (.if_icmp .ge 7, 3) := by decide +kernel
theorem dX10_isSteady_66 : decode cX10_isSteady 66 = .ok (.iload_n 1, 1) := by decide +kernel
theorem dX10_isSteady_67 : decode cX10_isSteady 67 = .ok (.goto 4, 3) := by decide +kernel
theorem dX10_isSteady_70 : decode cX10_isSteady 70 = .ok (.iload_n 3, 1) := by decide +kernel
theorem dX10_isSteady_71 : decode cX10_isSteady 71 = .ok (.istore 11, 2) := by decide +kernel
theorem dX10_isSteady_73 : decode cX10_isSteady 73 = .ok (.iload_n 1, 1) := by decide +kernel
theorem dX10_isSteady_74 : decode cX10_isSteady 74 = .ok (.iload_n 3, 1) := by decide +kernel
theorem dX10_isSteady_75 : decode cX10_isSteady 75 = .ok (.if_icmp .ge 7, 3) := by decide +kernel
theorem dX10_isSteady_78 : decode cX10_isSteady 78 = .ok (.iload_n 3, 1) := by decide +kernel
theorem dX10_isSteady_79 : decode cX10_isSteady 79 = .ok (.goto 4, 3) := by decide +kernel
theorem dX10_isSteady_82 : decode cX10_isSteady 82 = .ok (.iload_n 1, 1) := by decide +kernel
theorem dX10_isSteady_83 : decode cX10_isSteady 83 = .ok (.istore 12, 2) := by decide +kernel
theorem dX10_isSteady_85 : decode cX10_isSteady 85 = .ok (.iload 11, 2) := by decide +kernel
theorem dX10_isSteady_87 : decode cX10_isSteady 87 = .ok (.i2l, 1) := by decide +kernel
theorem dX10_isSteady_88 : decode cX10_isSteady 88 = .ok (.lload 5, 2) := by decide +kernel
theorem dX10_isSteady_90 : decode cX10_isSteady 90 = .ok (.lmul, 1) := by decide +kernel
theorem dX10_isSteady_91 : decode cX10_isSteady 91 = .ok (.lload 7, 2) := by decide +kernel
theorem dX10_isSteady_93 : decode cX10_isSteady 93 = .ok (.lcmp, 1) := by decide +kernel
theorem dX10_isSteady_94 : decode cX10_isSteady 94 = .ok (.ifCond .gt 42, 3) := by decide +kernel
theorem dX10_isSteady_97 : decode cX10_isSteady 97 = .ok (.lload 7, 2) := by decide +kernel
theorem dX10_isSteady_99 : decode cX10_isSteady 99 = .ok (.iload 12, 2) := by decide +kernel
theorem dX10_isSteady_101 : decode cX10_isSteady 101 = .ok (.i2l, 1) := by decide +kernel
theorem dX10_isSteady_102 : decode cX10_isSteady 102 = .ok (.lload 5, 2) := by decide +kernel
theorem dX10_isSteady_104 : decode cX10_isSteady 104 = .ok (.lmul, 1) := by decide +kernel
theorem dX10_isSteady_105 : decode cX10_isSteady 105 = .ok (.lcmp, 1) := by decide +kernel
theorem dX10_isSteady_106 : decode cX10_isSteady 106 = .ok (.ifCond .gt 30, 3) := by decide +kernel
theorem dX10_isSteady_109 : decode cX10_isSteady 109 = .ok (.lload 9, 2) := by decide +kernel
theorem dX10_isSteady_111 : decode cX10_isSteady 111 = .ok (.iload_n 2, 1) := by decide +kernel
theorem dX10_isSteady_112 : decode cX10_isSteady 112 = .ok (.i2l, 1) := by decide +kernel
theorem dX10_isSteady_113 : decode cX10_isSteady 113 = .ok (.lload 5, 2) := by decide +kernel
theorem dX10_isSteady_115 : decode cX10_isSteady 115 = .ok (.lmul, 1) := by decide +kernel
theorem dX10_isSteady_116 : decode cX10_isSteady 116 = .ok (.lcmp, 1) := by decide +kernel
theorem dX10_isSteady_117 : decode cX10_isSteady 117 = .ok (.ifCond .ge 19, 3) := by decide +kernel
theorem dX10_isSteady_120 : decode cX10_isSteady 120 = .ok (.lload 9, 2) := by decide +kernel
theorem dX10_isSteady_122 : decode cX10_isSteady 122 = .ok (.iload 4, 2) := by decide +kernel
theorem dX10_isSteady_124 : decode cX10_isSteady 124 = .ok (.i2l, 1) := by decide +kernel
theorem dX10_isSteady_125 : decode cX10_isSteady 125 = .ok (.lload 5, 2) := by decide +kernel
theorem dX10_isSteady_127 : decode cX10_isSteady 127 = .ok (.lmul, 1) := by decide +kernel
theorem dX10_isSteady_128 : decode cX10_isSteady 128 = .ok (.lcmp, 1) := by decide +kernel
theorem dX10_isSteady_129 : decode cX10_isSteady 129 = .ok (.ifCond .ge 7, 3) := by decide +kernel
theorem dX10_isSteady_132 : decode cX10_isSteady 132 = .ok (.iconst 1, 1) := by decide +kernel
theorem dX10_isSteady_133 : decode cX10_isSteady 133 = .ok (.goto 4, 3) := by decide +kernel
theorem dX10_isSteady_136 : decode cX10_isSteady 136 = .ok (.iconst 0, 1) := by decide +kernel
theorem dX10_isSteady_137 : decode cX10_isSteady 137 = .ok (.ireturn, 1) := by decide +kernel
theorem dX10_steady_0 : decode cX10_steady 0 = .ok (.iload_n 1, 1) := by decide +kernel
theorem dX10_steady_1 : decode cX10_steady 1 = .ok (.invokestatic 303, 3) := by decide +kernel
theorem dX10_steady_4 : decode cX10_steady 4 = .ok (.ifCond .eq 25, 3) := by decide +kernel
theorem dX10_steady_7 : decode cX10_steady 7 = .ok (.iload_n 2, 1) := by decide +kernel
theorem dX10_steady_8 : decode cX10_steady 8 = .ok (.invokestatic 303, 3) := by decide +kernel
theorem dX10_steady_11 : decode cX10_steady 11 = .ok (.ifCond .eq 18, 3) := by decide +kernel
theorem dX10_steady_14 : decode cX10_steady 14 = .ok (.iload_n 3, 1) := by decide +kernel
theorem dX10_steady_15 : decode cX10_steady 15 = .ok (.invokestatic 303, 3) := by decide +kernel
theorem dX10_steady_18 : decode cX10_steady 18 = .ok (.ifCond .eq 11, 3) := by decide +kernel
theorem dX10_steady_21 : decode cX10_steady 21 = .ok (.iload 4, 2) := by decide +kernel
theorem dX10_steady_23 : decode cX10_steady 23 = .ok (.invokestatic 303, 3) := by decide +kernel
theorem dX10_steady_26 : decode cX10_steady 26 = .ok (.ifCond .ne 6, 3) := by decide +kernel
theorem dX10_steady_29 : decode cX10_steady 29 = .ok (.bipush (-2), 2) := by decide +kernel
theorem dX10_steady_31 : decode cX10_steady 31 = .ok (.ireturn, 1) := by decide +kernel
theorem dX10_steady_32 : decode cX10_steady 32 = .ok (.aload_n 0, 1) := by decide +kernel
theorem dX10_steady_33 : decode cX10_steady 33 = .ok (.invokevirtual 316, 3) := by decide +kernel
theorem dX10_steady_36 : decode cX10_steady 36 = .ok (.ifCond .eq 18, 3) := by decide +kernel
theorem dX10_steady_39 : decode cX10_steady 39 = .ok (.aload_n 0, 1) := by decide +kernel
theorem dX10_steady_40 : decode cX10_steady 40 = .ok (.iload_n 1, 1) := by decide +kernel
theorem dX10_steady_41 : decode cX10_steady 41 = .ok (.iload_n 2, 1) := by decide +kernel
theorem dX10_steady_42 : decode cX10_steady 42 = .ok (.iload_n 3, 1) := by decide +kernel
theorem dX10_steady_43 : decode cX10_steady 43 = .ok (.iload 4, 2) := by decide +kernel
theorem dX10_steady_45 : decode cX10_steady 45 = .ok (.invokevirtual 347, 3) := by decide +kernel
theorem dX10_steady_48 : decode cX10_steady 48 = .ok (.invokestatic 204, 3) := by decide +kernel
theorem dX10_steady_51 : decode cX10_steady 51 = .ok (.goto 5, 3) := by decide +kernel
theorem dX10_steady_54 : decode cX10_steady 54 = .ok (.bipush (-3), 2) := by decide +kernel
theorem dX10_steady_56 : decode cX10_steady 56 = .ok (.ireturn, 1) := by decide +kernel
theorem dX10_holes_0 : decode cX10_holes 0 = .ok (.aload_n 0, 1) := by decide +kernel
theorem dX10_holes_1 : decode cX10_holes 1 = .ok (.invokevirtual 316, 3) := by decide +kernel
theorem dX10_holes_4 : decode cX10_holes 4 = .ok (.ifCond .ne 6, 3) := by decide +kernel
theorem dX10_holes_7 : decode cX10_holes 7 = .ok (.bipush (-3), 2) := by decide +kernel
theorem dX10_holes_9 : decode cX10_holes 9 = .ok (.ireturn, 1) := by decide +kernel
theorem dX10_holes_10 : decode cX10_holes 10 = .ok (.iconst (-1), 1) := by decide +kernel
theorem dX10_holes_11 : decode cX10_holes 11 = .ok (.istore_n 1, 1) := by decide +kernel
theorem dX10_holes_12 : decode cX10_holes 12 = .ok (.lconst 0, 1) := by decide +kernel
theorem dX10_holes_13 : decode cX10_holes 13 = .ok (.lstore_n 2, 1) := by decide +kernel
theorem dX10_holes_14 : decode cX10_holes 14 = .ok (.iconst 0, 1) := by decide +kernel
theorem dX10_holes_15 : decode cX10_holes 15 = .ok (.istore 4, 2) := by decide +kernel
theorem dX10_holes_17 : decode cX10_holes 17 = .ok (.iload 4, 2) := by decide +kernel
theorem dX10_holes_19 : decode cX10_holes 19 = .ok (.aload_n 0, 1) := by decide +kernel
theorem dX10_holes_20 : decode cX10_holes 20 = .ok (.getfield 300, 3) := by decide +kernel
theorem dX10_holes_23 : decode cX10_holes 23 = .ok (.if_icmp .ge 127, 3) := by decide +kernel
theorem dX10_holes_26 : decode cX10_holes 26 = .ok (.iload 4, 2) := by decide +kernel
theorem dX10_holes_28 : decode cX10_holes 28 = .ok (.iconst 1, 1) := by decide +kernel
theorem dX10_holes_29 : decode cX10_holes 29 = .ok (.iadd, 1) := by decide +kernel
theorem dX10_holes_30 : decode cX10_holes 30 = .ok (.istore 5, 2) := by decide +kernel
theorem dX10_holes_32 : decode cX10_holes 32 = .ok (.iload 5, 2) := by decide +kernel
theorem dX10_holes_34 : decode cX10_holes 34 = .ok (.aload_n 0, 1) := by decide +kernel
theorem dX10_holes_35 : decode cX10_holes 35 = .ok (.getfield 300, 3) := by decide +kernel
theorem dX10_holes_38 : decode cX10_holes 38 = .ok (.if_icmp .ge 106, 3) := by decide +kernel
theorem dX10_holes_41 : decode cX10_holes 41 = .ok (.ldc2_w 295, 3) := by decide +kernel
theorem dX10_holes_44 : decode cX10_holes 44 = .ok (.aload_n 0, 1) := by decide +kernel
theorem dX10_holes_45 : decode cX10_holes 45 = .ok (.getfield 306, 3) := by decide +kernel
theorem dX10_holes_48 : decode cX10_holes 48 = .ok (.lmul, 1) := by decide +kernel
theorem dX10_holes_49 : decode cX10_holes 49 = .ok (.ldc2_w 332, 3) := by decide +kernel
theorem dX10_holes_52 : decode cX10_holes 52 = .ok (.aload_n 0, 1) := by decide +kernel
theorem dX10_holes_53 : decode cX10_holes 53 = .ok (.getfield 313, 3) := by decide +kernel
theorem dX10_holes_56 : decode cX10_holes 56 = .ok (.lmul, 1) := by decide +kernel
theorem dX10_holes_57 : decode cX10_holes 57 = .ok (.aload_n 0, 1) := by decide +kernel
theorem dX10_holes_58 : decode cX10_holes 58 = .ok (.getfield 116, 3) := by decide +kernel
theorem dX10_holes_61 : decode cX10_holes 61 = .ok (.iload 4, 2) := by decide +kernel
theorem dX10_holes_63 : decode cX10_holes 63 = .ok (.iaload, 1) := by decide +kernel
theorem dX10_holes_64 : decode cX10_holes 64 = .ok (.aload_n 0, 1) := by decide +kernel
theorem dX10_holes_65 : decode cX10_holes 65 = .ok (.getfield 116, 3) := by decide +kernel
theorem dX10_holes_68 : decode cX10_holes 68 = .ok (.iload 5, 2) := by decide +kernel
theorem dX10_holes_70 : decode cX10_holes 70 = .ok (.iaload, 1) := by decide +kernel
theorem dX10_holes_71 : decode cX10_holes 71 = .ok (.iadd, 1) := by decide +kernel
theorem dX10_holes_72 : decode cX10_holes 72 = .ok (.i2l, 1) := by decide +kernel
theorem dX10_holes_73 : decode cX10_holes 73 = .ok (.lmul, 1) := by decide +kernel
theorem dX10_holes_74 : decode cX10_holes 74 = .ok (.lsub, 1) := by decide +kernel
theorem dX10_holes_75 : decode cX10_holes 75 = .ok (.invokestatic 320, 3) := by decide +kernel
theorem dX10_holes_78 : decode cX10_holes 78 = .ok (.lstore 6, 2) := by decide +kernel
theorem dX10_holes_80 : decode cX10_holes 80 = .ok (.aload_n 0, 1) := by decide +kernel
theorem dX10_holes_81 : decode cX10_holes 81 = .ok (.aload_n 0, 1) := by decide +kernel
theorem dX10_holes_82 : decode cX10_holes 82 = .ok (.getfield 116, 3) := by decide +kernel
theorem dX10_holes_85 : decode cX10_holes 85 = .ok (.iload 4, 2) := by decide +kernel
theorem dX10_holes_87 : decode cX10_holes 87 = .ok (.iaload, 1) := by decide +kernel
theorem dX10_holes_88 : decode cX10_holes 88 = .ok (.aload_n 0, 1) := by decide +kernel
theorem dX10_holes_89 : decode cX10_holes 89 = .ok (.getfield 119, 3) := by decide +kernel
theorem dX10_holes_92 : decode cX10_holes 92 = .ok (.iload 4, 2) := by decide +kernel
theorem dX10_holes_94 : decode cX10_holes 94 = .ok (.iaload, 1) := by decide +kernel
theorem dX10_holes_95 : decode cX10_holes 95 = .ok (.aload_n 0, 1) := by decide +kernel
theorem dX10_holes_96 : decode cX10_holes 96 = .ok (.getfield 116, 3) := by decide +kernel
theorem dX10_holes_99 : decode cX10_holes 99 = .ok (.iload 5, 2) := by decide +kernel
theorem dX10_holes_101 : decode cX10_holes 101 = .ok (.iaload, 1) := by decide +kernel
theorem dX10_holes_102 : decode cX10_holes 102 = .ok (.aload_n 0, 1) := by decide +kernel
theorem dX10_holes_103 : decode cX10_holes 103 = .ok (.getfield 119, 3) := by decide +kernel
theorem dX10_holes_106 : decode cX10_holes 106 = .ok (.iload 5, 2) := by decide +kernel
theorem dX10_holes_108 : decode cX10_holes 108 = .ok (.iaload, 1) := by decide +kernel
theorem dX10_holes_109 : decode cX10_holes 109 = .ok (.invokevirtual 347, 3) := by decide +kernel
theorem dX10_holes_112 : decode cX10_holes 112 = .ok (.ifCond .eq 26, 3) := by decide +kernel
theorem dX10_holes_115 : decode cX10_holes 115 = .ok (.iload_n 1, 1) := by decide +kernel
theorem dX10_holes_116 : decode cX10_holes 116 = .ok (.ifCond .lt 10, 3) := by decide +kernel
theorem dX10_holes_119 : decode cX10_holes 119 = .ok (.lload 6, 2) := by decide +kernel
theorem dX10_holes_121 : decode cX10_holes 121 = .ok (.lload_n 2, 1) := by decide +kernel
theorem dX10_holes_122 : decode cX10_holes 122 = .ok (.lcmp, 1) := by decide +kernel
theorem dX10_holes_123 : decode cX10_holes 123 = .ok (.ifCond .ge 15, 3) := by decide +kernel
theorem dX10_holes_126 : decode cX10_holes 126 = .ok (.bipush 10, 2) := by decide +kernel
theorem dX10_holes_128 : decode cX10_holes 128 = .ok (.iload 4, 2) := by decide +kernel
theorem dX10_holes_130 : decode cX10_holes 130 = .ok (.imul, 1) := by decide +kernel
theorem dX10_holes_131 : decode cX10_holes 131 = .ok (.iload 5, 2) := by decide +kernel
theorem dX10_holes_133 : decode cX10_holes 133 = .ok (.iadd, 1) := by decide +kernel
theorem dX10_holes_134 : decode cX10_holes 134 = .ok (.istore_n 1, 1) := by decide +kernel
theorem dX10_holes_135 : decode cX10_holes 135 = .ok (.lload 6, 2) := by decide +kernel
theorem dX10_holes_137 : decode cX10_holes 137 = .ok (.lstore_n 2, 1) := by decide +kernel
theorem dX10_holes_138 : decode cX10_holes 138 = .ok (.iinc 5 1, 3) := by decide +kernel
theorem dX10_holes_141 : decode cX10_holes 141 = .ok (.goto (-109), 3) := by decide +kernel
theorem dX10_holes_144 : decode cX10_holes 144 = .ok (.iinc 4 1, 3) := by decide +kernel
theorem dX10_holes_147 : decode cX10_holes 147 = .ok (.goto (-130), 3) := by decide +kernel
theorem dX10_holes_150 : decode cX10_holes 150 = .ok (.iload_n 1, 1) := by decide +kernel
theorem dX10_holes_151 : decode cX10_holes 151 = .ok (.ireturn, 1) := by decide +kernel
