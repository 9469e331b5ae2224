theorem dX10_in_0 : decode cX10_in 0 = .ok (.lload_n 0, 1) := by decide +kernel
theorem dX10_in_1 : decode cX10_in 1 = .ok (.lload_n 2, 1) := by decide +kernel
theorem dX10_in_2 : decode cX10_in 2 = .ok (.lcmp, 1) := by decide +kernel
theorem dX10_in_3 : decode cX10_in 3 = .ok (.ifCond .lt 14, 3) := by decide +kernel
theorem dX10_in_6 : decode cX10_in 6 = .ok (.lload_n 0, 1) := by decide +kernel
theorem dX10_in_7 : decode cX10_in 7 = .ok (.lload 4, 2) := by decide +kernel
theorem dX10_in_9 : decode cX10_in 9 = .ok (.lcmp, 1) := by decide +kernel
theorem dX10_in_10 : decode cX10_in 10 = .ok (.ifCond .gt 7, 3) := by decide +kernel
theorem dX10_in_13 : decode cX10_in 13 = .ok (.iconst 1, 1) := by decide +kernel
theorem dX10_in_14 : decode cX10_in 14 = .ok (.goto 4, 3) := by decide +kernel
theorem dX10_in_17 : decode cX10_in 17 = .ok (.iconst 0, 1) := by decide +kernel
theorem dX10_in_18 : decode cX10_in 18 = .ok (.ireturn, 1) := by decide +kernel
theorem dX10_bit_0 : decode cX10_bit 0 = .ok (.iload_n 0, 1) := by decide +kernel
theorem dX10_bit_1 : decode cX10_bit 1 = .ok (.ifCond .eq 7, 3) := by decide +kernel
theorem dX10_bit_4 : decode cX10_bit 4 = .ok (.iconst 1, 1) := by decide +kernel
theorem dX10_bit_5 : decode cX10_bit 5 = .ok (.goto 4, 3) := by decide +kernel
theorem dX10_bit_8 : decode cX10_bit 8 = .ok (.iconst 0, 1) := by decide +kernel
theorem dX10_bit_9 : decode cX10_bit 9 = .ok (.ireturn, 1) := by decide +kernel
theorem dX10_wheel_0 : decode cX10_wheel 0 = .ok (.iload_n 1, 1) := by decide +kernel
theorem dX10_wheel_1 : decode cX10_wheel 1 = .ok (.i2l, 1) := by decide +kernel
theorem dX10_wheel_2 : decode cX10_wheel 2 = .ok (.ldc2_w 122, 3) := by decide +kernel
theorem dX10_wheel_5 : decode cX10_wheel 5 = .ok (.ldc2_w 124, 3) := by decide +kernel
theorem dX10_wheel_8 : decode cX10_wheel 8 = .ok (.invokestatic 126, 3) := by decide +kernel
theorem dX10_wheel_11 : decode cX10_wheel 11 = .ok (.ifCond .eq 44, 3) := by decide +kernel
theorem dX10_wheel_14 : decode cX10_wheel 14 = .ok (.iload_n 2, 1) := by decide +kernel
theorem dX10_wheel_15 : decode cX10_wheel 15 = .ok (.i2l, 1) := by decide +kernel
theorem dX10_wheel_16 : decode cX10_wheel 16 = .ok (.ldc2_w 130, 3) := by decide +kernel
theorem dX10_wheel_19 : decode cX10_wheel 19 = .ok (.ldc2_w 132, 3) := by decide +kernel
theorem dX10_wheel_22 : decode cX10_wheel 22 = .ok (.invokestatic 126, 3) := by decide +kernel
theorem dX10_wheel_25 : decode cX10_wheel 25 = .ok (.ifCond .eq 30, 3) := by decide +kernel
theorem dX10_wheel_28 : decode cX10_wheel 28 = .ok (.iload_n 3, 1) := by decide +kernel
theorem dX10_wheel_29 : decode cX10_wheel 29 = .ok (.i2l, 1) := by decide +kernel
theorem dX10_wheel_30 : decode cX10_wheel 30 = .ok (.ldc2_w 130, 3) := by decide +kernel
theorem dX10_wheel_33 : decode cX10_wheel 33 = .ok (.ldc2_w 134, 3) := by decide +kernel
theorem dX10_wheel_36 : decode cX10_wheel 36 = .ok (.invokestatic 126, 3) := by decide +kernel
theorem dX10_wheel_39 : decode cX10_wheel 39 = .ok (.ifCond .eq 16, 3) := by decide +kernel
theorem dX10_wheel_42 : decode cX10_wheel 42 = .ok (.iload 4, 2) := by decide +kernel
theorem dX10_wheel_44 : decode cX10_wheel 44 = .ok (.i2l, 1) := by decide +kernel
theorem dX10_wheel_45 : decode cX10_wheel 45 = .ok (.lconst 0, 1) := by decide +kernel
theorem dX10_wheel_46 : decode cX10_wheel 46 = .ok (.ldc2_w 122, 3) := by decide +kernel
theorem dX10_wheel_49 : decode cX10_wheel 49 = .ok (.invokestatic 126, 3) := by decide +kernel
theorem dX10_wheel_52 : decode cX10_wheel 52 = .ok (.ifCond .ne 6, 3) := by decide +kernel
theorem dX10_wheel_55 : decode cX10_wheel 55 = .ok (.bipush (-2), 2) := by decide +kernel
theorem dX10_wheel_57 : decode cX10_wheel 57 = .ok (.ireturn, 1) := by decide +kernel
theorem dX10_wheel_58 : decode cX10_wheel 58 = .ok (.aload_n 0, 1) := by decide +kernel
theorem dX10_wheel_59 : decode cX10_wheel 59 = .ok (.iload_n 1, 1) := by decide +kernel
theorem dX10_wheel_60 : decode cX10_wheel 60 = .ok (.putfield 7, 3) := by decide +kernel
theorem dX10_wheel_63 : decode cX10_wheel 63 = .ok (.aload_n 0, 1) := by decide +kernel
theorem dX10_wheel_64 : decode cX10_wheel 64 = .ok (.iload_n 2, 1) := by decide +kernel
theorem dX10_wheel_65 : decode cX10_wheel 65 = .ok (.putfield 13, 3) := by decide +kernel
theorem dX10_wheel_68 : decode cX10_wheel 68 = .ok (.aload_n 0, 1) := by decide +kernel
theorem dX10_wheel_69 : decode cX10_wheel 69 = .ok (.iload_n 3, 1) := by decide +kernel
theorem dX10_wheel_70 : decode cX10_wheel 70 = .ok (.putfield 16, 3) := by decide +kernel
theorem dX10_wheel_73 : decode cX10_wheel 73 = .ok (.aload_n 0, 1) := by decide +kernel
theorem dX10_wheel_74 : decode cX10_wheel 74 = .ok (.iload 4, 2) := by decide +kernel
theorem dX10_wheel_76 : decode cX10_wheel 76 = .ok (.putfield 19, 3) := by decide +kernel
theorem dX10_wheel_79 : decode cX10_wheel 79 = .ok (.iconst 1, 1) := by decide +kernel
theorem dX10_wheel_80 : decode cX10_wheel 80 = .ok (.ireturn, 1) := by decide +kernel
theorem dX10_winds_0 : decode cX10_winds 0 = .ok (.iload_n 1, 1) := by decide +kernel
theorem dX10_winds_1 : decode cX10_winds 1 = .ok (.i2l, 1) := by decide +kernel
theorem dX10_winds_2 : decode cX10_winds 2 = .ok (.lconst 0, 1) := by decide +kernel
theorem dX10_winds_3 : decode cX10_winds 3 = .ok (.ldc2_w 130, 3) := by decide +kernel
theorem dX10_winds_6 : decode cX10_winds 6 = .ok (.invokestatic 126, 3) := by decide +kernel
theorem dX10_winds_9 : decode cX10_winds 9 = .ok (.ifCond .eq 15, 3) := by decide +kernel
theorem dX10_winds_12 : decode cX10_winds 12 = .ok (.iload_n 2, 1) := by decide +kernel
theorem dX10_winds_13 : decode cX10_winds 13 = .ok (.i2l, 1) := by decide +kernel
theorem dX10_winds_14 : decode cX10_winds 14 = .ok (.lconst 1, 1) := by decide +kernel
theorem dX10_winds_15 : decode cX10_winds 15 = .ok (.ldc2_w 136, 3) := by decide +kernel
theorem dX10_winds_18 : decode cX10_winds 18 = .ok (.invokestatic 126, 3) := by decide +kernel
theorem dX10_winds_21 : decode cX10_winds 21 = .ok (.ifCond .ne 6, 3) := by decide +kernel
theorem dX10_winds_24 : decode cX10_winds 24 = .ok (.bipush (-2), 2) := by decide +kernel
theorem dX10_winds_26 : decode cX10_winds 26 = .ok (.ireturn, 1) := by decide +kernel
theorem dX10_winds_27 : decode cX10_winds 27 = .ok (.aload_n 0, 1) := by decide +kernel
theorem dX10_winds_28 : decode cX10_winds 28 = .ok (.iload_n 1, 1) := by decide +kernel
theorem dX10_winds_29 : decode cX10_winds 29 = .ok (.putfield 22, 3) := by decide +kernel
theorem dX10_winds_32 : decode cX10_winds 32 = .ok (.aload_n 0, 1) := by decide +kernel
theorem dX10_winds_33 : decode cX10_winds 33 = .ok (.iload_n 2, 1) := by decide +kernel
theorem dX10_winds_34 : decode cX10_winds 34 = .ok (.putfield 25, 3) := by decide +kernel
theorem dX10_winds_37 : decode cX10_winds 37 = .ok (.iconst 1, 1) := by decide +kernel
theorem dX10_winds_38 : decode cX10_winds 38 = .ok (.ireturn, 1) := by decide +kernel
theorem dX10_girthOf_0 : decode cX10_girthOf 0 = .ok (.aload_n 0, 1) := by decide +kernel
theorem dX10_girthOf_1 : decode cX10_girthOf 1 = .ok (.getfield 16, 3) := by decide +kernel
theorem dX10_girthOf_4 : decode cX10_girthOf 4 = .ok (.bipush 6, 2) := by decide +kernel
theorem dX10_girthOf_6 : decode cX10_girthOf 6 = .ok (.aload_n 0, 1) := by decide +kernel
theorem dX10_girthOf_7 : decode cX10_girthOf 7 = .ok (.getfield 22, 3) := by decide +kernel
theorem dX10_girthOf_10 : decode cX10_girthOf 10 = .ok (.imul, 1) := by decide +kernel
theorem dX10_girthOf_11 : decode cX10_girthOf 11 = .ok (.iload_n 1, 1) := by decide +kernel
theorem dX10_girthOf_12 : decode cX10_girthOf 12 = .ok (.aload_n 0, 1) := by decide +kernel
theorem dX10_girthOf_13 : decode cX10_girthOf 13 = .ok (.getfield 25, 3) := by decide +kernel
theorem dX10_girthOf_16 : decode cX10_girthOf 16 = .ok (.idiv, 1) := by decide +kernel
theorem dX10_girthOf_17 : decode cX10_girthOf 17 = .ok (.imul, 1) := by decide +kernel
theorem dX10_girthOf_18 : decode cX10_girthOf 18 = .ok (.iadd, 1) := by decide +kernel
theorem dX10_girthOf_19 : decode cX10_girthOf 19 = .ok (.ireturn, 1) := by decide +kernel
theorem dX10_liftOf_0 : decode cX10_liftOf 0 = .ok (.iload_n 1, 1) := by decide +kernel
theorem dX10_liftOf_1 : decode cX10_liftOf 1 = .ok (.aload_n 0, 1) := by decide +kernel
theorem dX10_liftOf_2 : decode cX10_liftOf 2 = .ok (.getfield 13, 3) := by decide +kernel
theorem dX10_liftOf_5 : decode cX10_liftOf 5 = .ok (.idiv, 1) := by decide +kernel
theorem dX10_liftOf_6 : decode cX10_liftOf 6 = .ok (.istore_n 2, 1) := by decide +kernel
theorem dX10_liftOf_7 : decode cX10_liftOf 7 = .ok (.iconst 0, 1) := by decide +kernel
theorem dX10_liftOf_8 : decode cX10_liftOf 8 = .ok (.istore_n 3, 1) := by decide +kernel
theorem dX10_liftOf_9 : decode cX10_liftOf 9 = .ok (.iconst 0, 1) := by decide +kernel
theorem dX10_liftOf_10 : decode cX10_liftOf 10 = .ok (.istore 4, 2) := by decide +kernel
theorem dX10_liftOf_12 : decode cX10_liftOf 12 = .ok (.iload 4, 2) := by decide +kernel
theorem dX10_liftOf_14 : decode cX10_liftOf 14 = .ok (.iload_n 2, 1) := by decide +kernel
theorem dX10_liftOf_15 : decode cX10_liftOf 15 = .ok (.if_icmp .ge 18, 3) := by decide +kernel
theorem dX10_liftOf_18 : decode cX10_liftOf 18 = .ok (.iload_n 3, 1) := by decide +kernel
theorem dX10_liftOf_19 : decode cX10_liftOf 19 = .ok (.aload_n 0, 1) := by decide +kernel
theorem dX10_liftOf_20 : decode cX10_liftOf 20 = .ok (.iload 4, 2) := by decide +kernel
theorem dX10_liftOf_22 : decode cX10_liftOf 22 = .ok (.invokevirtual 138, 3) := by decide +kernel
theorem dX10_liftOf_25 : decode cX10_liftOf 25 = .ok (.iadd, 1) := by decide +kernel
theorem dX10_liftOf_26 : decode cX10_liftOf 26 = .ok (.istore_n 3, 1) := by decide +kernel
theorem dX10_liftOf_27 : decode cX10_liftOf 27 = .ok (.iinc 4 1, 3) := by decide +kernel
theorem dX10_liftOf_30 : decode cX10_liftOf 30 = .ok (.goto (-18), 3) := by decide +kernel
theorem dX10_liftOf_33 : decode cX10_liftOf 33 = .ok (.iload_n 3, 1) := by decide +kernel
theorem dX10_liftOf_34 : decode cX10_liftOf 34 = .ok (.iload_n 1, 1) := by decide +kernel
theorem dX10_liftOf_35 : decode cX10_liftOf 35 = .ok (.aload_n 0, 1) := by decide +kernel
theorem dX10_liftOf_36 : decode cX10_liftOf 36 = .ok (.getfield 13, 3) := by decide +kernel
theorem dX10_liftOf_39 : decode cX10_liftOf 39 = .ok (.irem, 1) := by decide +kernel
theorem dX10_liftOf_40 : decode cX10_liftOf 40 = .ok (.i2l, 1) := by decide +kernel
theorem dX10_liftOf_41 : decode cX10_liftOf 41 = .ok (.aload_n 0, 1) := by decide +kernel
theorem dX10_liftOf_42 : decode cX10_liftOf 42 = .ok (.iload_n 2, 1) := by decide +kernel
theorem dX10_liftOf_43 : decode cX10_liftOf 43 = .ok (.invokevirtual 138, 3) := by decide +kernel
theorem dX10_liftOf_46 : decode cX10_liftOf 46 = .ok (.i2l, 1) := by decide +kernel
theorem dX10_liftOf_47 : decode cX10_liftOf 47 = .ok (.lmul, 1) := by decide +kernel
theorem dX10_liftOf_48 : decode cX10_liftOf 48 = .ok (.aload_n 0, 1) := by decide +kernel
theorem dX10_liftOf_49 : decode cX10_liftOf 49 = .ok (.getfield 13, 3) := by decide +kernel
theorem dX10_liftOf_52 : decode cX10_liftOf 52 = .ok (.i2l, 1) := by decide +kernel
theorem dX10_liftOf_53 : decode cX10_liftOf 53 = .ok (.ldiv, 1) := by decide +kernel
theorem dX10_liftOf_54 : decode cX10_liftOf 54 = .ok (.l2i, 1) := by decide +kernel
theorem dX10_liftOf_55 : decode cX10_liftOf 55 = .ok (.iadd, 1) := by decide +kernel
theorem dX10_liftOf_56 : decode cX10_liftOf 56 = .ok (.ireturn, 1) := by decide +kernel
theorem dX10_lift_0 : decode cX10_lift 0 = .ok (.iload_n 1, 1) := by decide +kernel
theorem dX10_lift_1 : decode cX10_lift 1 = .ok (.i2l, 1) := by decide +kernel
theorem dX10_lift_2 : decode cX10_lift 2 = .ok (.lconst 0, 1) := by decide +kernel
theorem dX10_lift_3 : decode cX10_lift 3 = .ok (.ldc2_w 142, 3) := by decide +kernel
theorem dX10_lift_6 : decode cX10_lift 6 = .ok (.invokestatic 126, 3) := by decide +kernel
theorem dX10_lift_9 : decode cX10_lift 9 = .ok (.ifCond .eq 11, 3) := by decide +kernel
theorem dX10_lift_12 : decode cX10_lift 12 = .ok (.aload_n 0, 1) := by decide +kernel
theorem dX10_lift_13 : decode cX10_lift 13 = .ok (.iload_n 1, 1) := by decide +kernel
theorem dX10_lift_14 : decode cX10_lift 14 = .ok (.invokevirtual 144, 3) := by decide +kernel
theorem dX10_lift_17 : decode cX10_lift 17 = .ok (.goto 5, 3) := by decide +kernel
theorem dX10_lift_20 : decode cX10_lift 20 = .ok (.bipush (-2), 2) := by decide +kernel
theorem dX10_lift_22 : decode cX10_lift 22 = .ok (.ireturn, 1) := by decide +kernel
theorem dX10_stepsFor_0 : decode cX10_stepsFor 0 = .ok (.iconst 0, 1) := by decide +kernel
theorem dX10_stepsFor_1 : decode cX10_stepsFor 1 = .ok (.istore_n 2, 1) := by decide +kernel
theorem dX10_stepsFor_2 : decode cX10_stepsFor 2 = .ok (.iconst 0, 1) := by decide +kernel
theorem dX10_stepsFor_3 : decode cX10_stepsFor 3 = .ok (.istore_n 3, 1) := by decide +kernel
theorem dX10_stepsFor_4 : decode cX10_stepsFor 4 = .ok (.iload_n 3, 1) := by decide +kernel
theorem dX10_stepsFor_5 : decode cX10_stepsFor 5 = .ok (.aload_n 0, 1) := by decide +kernel
theorem dX10_stepsFor_6 : decode cX10_stepsFor 6 = .ok (.iload_n 2, 1) := by decide +kernel
theorem dX10_stepsFor_7 : decode cX10_stepsFor 7 = .ok (.invokevirtual 138, 3) := by decide +kernel
theorem dX10_stepsFor_10 : decode cX10_stepsFor 10 = .ok (.iadd, 1) := by decide +kernel
theorem dX10_stepsFor_11 : decode cX10_stepsFor 11 = .ok (.iload_n 1, 1) := by decide +kernel
theorem dX10_stepsFor_12 : decode cX10_stepsFor 12 = .ok (.if_icmp .ge 17, 3) := by decide +kernel
theorem dX10_stepsFor_15 : decode cX10_stepsFor 15 = .ok (.iload_n 3, 1) := by decide +kernel
theorem dX10_stepsFor_16 : decode cX10_stepsFor 16 = .ok (.aload_n 0, 1) := by decide +kernel
theorem dX10_stepsFor_17 : decode cX10_stepsFor 17 = .ok (.iload_n 2, 1) := by decide +kernel
theorem dX10_stepsFor_18 : decode cX10_stepsFor 18 = .ok (.invokevirtual 138, 3) := by decide +kernel
theorem dX10_stepsFor_21 : decode cX10_stepsFor 21 = .ok (.iadd, 1) := by decide +kernel
theorem dX10_stepsFor_22 : decode cX10_stepsFor 22 = .ok (.istore_n 3, 1) := by decide +kernel
theorem dX10_stepsFor_23 : decode cX10_stepsFor 23 = .ok (.iinc 2 1, 3) := by decide +kernel
theorem dX10_stepsFor_26 : decode cX10_stepsFor 26 = .ok (.goto (-22), 3) := by decide +kernel
theorem dX10_stepsFor_29 : decode cX10_stepsFor 29 = .ok (.iconst 0, 1) := by decide +kernel
theorem dX10_stepsFor_30 : decode cX10_stepsFor 30 = .ok (.istore 4, 2) := by decide +kernel
theorem dX10_stepsFor_32 : decode cX10_stepsFor 32 = .ok (.iload_n 3, 1) := by decide +kernel
theorem dX10_stepsFor_33 : decode cX10_stepsFor 33 = .ok (.iload 4, 2) := by decide +kernel
theorem dX10_stepsFor_35 : decode cX10_stepsFor 35 = .ok (.i2l, 1) := by decide +kernel
theorem dX10_stepsFor_36 : decode cX10_stepsFor 36 = .ok (.aload_n 0, 1) := by decide +kernel
theorem dX10_stepsFor_37 : decode cX10_stepsFor 37 = .ok (.iload_n 2, 1) := by decide +kernel
theorem dX10_stepsFor_38 : decode cX10_stepsFor 38 = .ok (.invokevirtual 138, 3) := by decide +kernel
theorem dX10_stepsFor_41 : decode cX10_stepsFor 41 = .ok (.i2l, 1) := by decide +kernel
theorem dX10_stepsFor_42 : decode cX10_stepsFor 42 = .ok (.lmul, 1) := by decide +kernel
theorem dX10_stepsFor_43 : decode cX10_stepsFor 43 = .ok (.aload_n 0, 1) := by decide +kernel
theorem dX10_stepsFor_44 : decode cX10_stepsFor 44 = .ok (.getfield 13, 3) := by decide +kernel
theorem dX10_stepsFor_47 : decode cX10_stepsFor 47 = .ok (.i2l, 1) := by decide +kernel
theorem dX10_stepsFor_48 : decode cX10_stepsFor 48 = .ok (.ldiv, 1) := by decide +kernel
theorem dX10_stepsFor_49 : decode cX10_stepsFor 49 = .ok (.l2i, 1) := by decide +kernel
theorem dX10_stepsFor_50 : decode cX10_stepsFor 50 = .ok (.iadd, 1) := by decide +kernel
theorem dX10_stepsFor_51 : decode cX10_stepsFor 51 = .ok (.iload_n 1, 1) := by decide +kernel
theorem dX10_stepsFor_52 : decode cX10_stepsFor 52 = .ok (.if_icmp .ge 9, 3) := by decide +kernel
theorem dX10_stepsFor_55 : decode cX10_stepsFor 55 = .ok (.iinc 4 1, 3) := by decide +kernel
theorem dX10_stepsFor_58 : decode cX10_stepsFor 58 = .ok (.goto (-26), 3) := by decide +kernel
theorem dX10_stepsFor_61 : decode cX10_stepsFor 61 = .ok (.iload_n 2, 1) := by decide +kernel
theorem dX10_stepsFor_62 : decode cX10_stepsFor 62 = .ok (.aload_n 0, 1) := by decide +kernel
theorem dX10_stepsFor_63 : decode cX10_stepsFor 63 = .ok (.getfield 13, 3) := by decide +kernel
theorem dX10_stepsFor_66 : decode cX10_stepsFor 66 = .ok (.imul, 1) := by decide +kernel
theorem dX10_stepsFor_67 : decode cX10_stepsFor 67 = .ok (.iload 4, 2) := by decide +kernel
theorem dX10_stepsFor_69 : decode cX10_stepsFor 69 = .ok (.iadd, 1) := by decide +kernel
theorem dX10_stepsFor_70 : decode cX10_stepsFor 70 = .ok (.ireturn, 1) := by decide +kernel
theorem dX10_isHeight_0 : decode cX10_isHeight 0 = .ok (.iload_n 0, 1) := by decide +kernel
theorem dX10_isHeight_1 : decode cX10_isHeight 1 = .ok (.i2l, 1) := by decide +kernel
theorem dX10_isHeight_2 : decode cX10_isHeight 2 = .ok (.lconst 0, 1) := by decide +kernel
theorem dX10_isHeight_3 : decode cX10_isHeight 3 = .ok (.ldc2_w 142, 3) := by decide +kernel
theorem dX10_isHeight_6 : decode cX10_isHeight 6 = .ok (.invokestatic 126, 3) := by decide +kernel
theorem dX10_isHeight_9 : decode cX10_isHeight 9 = .ok (.ireturn, 1) := by decide +kernel
theorem dX10_steps_0 : decode cX10_steps 0 = .ok (.iload_n 1, 1) := by decide +kernel
theorem dX10_steps_1 : decode cX10_steps 1 = .ok (.invokestatic 147, 3) := by decide +kernel
theorem dX10_steps_4 : decode cX10_steps 4 = .ok (.ifCond .eq 11, 3) := by decide +kernel
theorem dX10_steps_7 : decode cX10_steps 7 = .ok (.aload_n 0, 1) := by decide +kernel
theorem dX10_steps_8 : decode cX10_steps 8 = .ok (.iload_n 1, 1) := by decide +kernel
theorem dX10_steps_9 : decode cX10_steps 9 = .ok (.invokevirtual 151, 3) := by decide +kernel
theorem dX10_steps_12 : decode cX10_steps 12 = .ok (.goto 5, 3) := by decide +kernel
theorem dX10_steps_15 : decode cX10_steps 15 = .ok (.bipush (-2), 2) := by decide +kernel
theorem dX10_steps_17 : decode cX10_steps 17 = .ok (.ireturn, 1) := by decide +kernel
theorem dX10_lastTurn_0 : decode cX10_lastTurn 0 = .ok (.iload_n 1, 1) := by decide +kernel
theorem dX10_lastTurn_1 : decode cX10_lastTurn 1 = .ok (.ifCond .ne 7, 3) := by decide +kernel
theorem dX10_lastTurn_4 : decode cX10_lastTurn 4 = .ok (.iconst 0, 1) := by decide +kernel
theorem dX10_lastTurn_5 : decode cX10_lastTurn 5 = .ok (.goto 11, 3) := by decide +kernel
theorem dX10_lastTurn_8 : decode cX10_lastTurn 8 = .ok (.iload_n 1, 1) := by decide +kernel
theorem dX10_lastTurn_9 : decode cX10_lastTurn 9 = .ok (.iconst 1, 1) := by decide +kernel
theorem dX10_lastTurn_10 : decode cX10_lastTurn 10 = .ok (.isub, 1) := by decide +kernel
theorem dX10_lastTurn_11 : decode cX10_lastTurn 11 = .ok (.aload_n 0, 1) := by decide +kernel
theorem dX10_lastTurn_12 : decode cX10_lastTurn 12 = .ok (.getfield 13, 3) := by decide +kernel
theorem dX10_lastTurn_15 : decode cX10_lastTurn 15 = .ok (.idiv, 1) := by decide +kernel
theorem dX10_lastTurn_16 : decode cX10_lastTurn 16 = .ok (.ireturn, 1) := by decide +kernel
theorem dX10_layer_0 : decode cX10_layer 0 = .ok (.iload_n 1, 1) := by decide +kernel
theorem dX10_layer_1 : decode cX10_layer 1 = .ok (.i2l, 1) := by decide +kernel
theorem dX10_layer_2 : decode cX10_layer 2 = .ok (.lconst 0, 1) := by decide +kernel
theorem dX10_layer_3 : decode cX10_layer 3 = .ok (.ldc2_w 142, 3) := by decide +kernel
theorem dX10_layer_6 : decode cX10_layer 6 = .ok (.invokestatic 126, 3) := by decide +kernel
theorem dX10_layer_9 : decode cX10_layer 9 = .ok (.ifCond .eq 13, 3) := by decide +kernel
theorem dX10_layer_12 : decode cX10_layer 12 = .ok (.iload_n 2, 1) := by decide +kernel
theorem dX10_layer_13 : decode cX10_layer 13 = .ok (.i2l, 1) := by decide +kernel
theorem dX10_layer_14 : decode cX10_layer 14 = .ok (.lconst 0, 1) := by decide +kernel
theorem dX10_layer_15 : decode cX10_layer 15 = .ok (.lconst 1, 1) := by decide +kernel
theorem dX10_layer_16 : decode cX10_layer 16 = .ok (.invokestatic 126, 3) := by decide +kernel
theorem dX10_layer_19 : decode cX10_layer 19 = .ok (.ifCond .ne 6, 3) := by decide +kernel
theorem dX10_layer_22 : decode cX10_layer 22 = .ok (.bipush (-2), 2) := by decide +kernel
theorem dX10_layer_24 : decode cX10_layer 24 = .ok (.ireturn, 1) := by decide +kernel
theorem dX10_layer_25 : decode cX10_layer 25 = .ok (.iload_n 2, 1) := by decide +kernel
theorem dX10_layer_26 : decode cX10_layer 26 = .ok (.ifCond .ne 16, 3) := by decide +kernel
theorem dX10_layer_29 : decode cX10_layer 29 = .ok (.aload_n 0, 1) := by decide +kernel
theorem dX10_layer_30 : decode cX10_layer 30 = .ok (.iload_n 1, 1) := by decide +kernel
theorem dX10_layer_31 : decode cX10_layer 31 = .ok (.invokevirtual 154, 3) := by decide +kernel
theorem dX10_layer_34 : decode cX10_layer 34 = .ok (.aload_n 0, 1) := by decide +kernel
theorem dX10_layer_35 : decode cX10_layer 35 = .ok (.getfield 25, 3) := by decide +kernel
theorem dX10_layer_38 : decode cX10_layer 38 = .ok (.idiv, 1) := by decide +kernel
theorem dX10_layer_39 : decode cX10_layer 39 = .ok (.goto 12, 3) := by decide +kernel
theorem dX10_layer_42 : decode cX10_layer 42 = .ok (.aload_n 0, 1) := by decide +kernel
theorem dX10_layer_43 : decode cX10_layer 43 = .ok (.aload_n 0, 1) := by decide +kernel
theorem dX10_layer_44 : decode cX10_layer 44 = .ok (.iload_n 1, 1) := by decide +kernel
theorem dX10_layer_45 : decode cX10_layer 45 = .ok (.invokevirtual 154, 3) := by decide +kernel
theorem dX10_layer_48 : decode cX10_layer 48 = .ok (.invokevirtual 138, 3) := by decide +kernel
theorem dX10_layer_51 : decode cX10_layer 51 = .ok (.ireturn, 1) := by decide +kernel
theorem dX10_man_0 : decode cX10_man 0 = .ok (.iload_n 1, 1) := by decide +kernel
theorem dX10_man_1 : decode cX10_man 1 = .ok (.i2l, 1) := by decide +kernel
theorem dX10_man_2 : decode cX10_man 2 = .ok (.ldc2_w 157, 3) := by decide +kernel
theorem dX10_man_5 : decode cX10_man 5 = .ok (.ldc2_w 159, 3) := by decide +kernel
theorem dX10_man_8 : decode cX10_man 8 = .ok (.invokestatic 126, 3) := by decide +kernel
theorem dX10_man_11 : decode cX10_man 11 = .ok (.ifCond .ne 6, 3) := by decide +kernel
theorem dX10_man_14 : decode cX10_man 14 = .ok (.bipush (-2), 2) := by decide +kernel
theorem dX10_man_16 : decode cX10_man 16 = .ok (.ireturn, 1) := by decide +kernel
theorem dX10_man_17 : decode cX10_man 17 = .ok (.aload_n 0, 1) := by decide +kernel
theorem dX10_man_18 : decode cX10_man 18 = .ok (.getfield 161, 3) := by decide +kernel
theorem dX10_man_21 : decode cX10_man 21 = .ok (.bipush 8, 2) := by decide +kernel
theorem dX10_man_23 : decode cX10_man 23 = .ok (.if_icmp .ne 6, 3) := by decide +kernel
theorem dX10_man_26 : decode cX10_man 26 = .ok (.bipush (-4), 2) := by decide +kernel
theorem dX10_man_28 : decode cX10_man 28 = .ok (.ireturn, 1) := by decide +kernel
theorem dX10_man_29 : decode cX10_man 29 = .ok (.aload_n 0, 1) := by decide +kernel
theorem dX10_man_30 : decode cX10_man 30 = .ok (.getfield 28, 3) := by decide +kernel
theorem dX10_man_33 : decode cX10_man 33 = .ok (.aload_n 0, 1) := by decide +kernel
theorem dX10_man_34 : decode cX10_man 34 = .ok (.getfield 161, 3) := by decide +kernel
theorem dX10_man_37 : decode cX10_man 37 = .ok (.iload_n 1, 1) := by decide +kernel
theorem dX10_man_38 : decode cX10_man 38 = .ok (.iastore, 1) := by decide +kernel
theorem dX10_man_39 : decode cX10_man 39 = .ok (.aload_n 0, 1) := by decide +kernel
theorem dX10_man_40 : decode cX10_man 40 = .ok (.getfield 32, 3) := by decide +kernel
theorem dX10_man_43 : decode cX10_man 43 = .ok (.aload_n 0, 1) := by decide +kernel
theorem dX10_man_44 : decode cX10_man 44 = .ok (.getfield 161, 3) := by decide +kernel
theorem dX10_man_47 : decode cX10_man 47 = .ok (.sipush 1000, 3) := by decide +kernel
theorem dX10_man_50 : decode cX10_man 50 = .ok (.iastore, 1) := by decide +kernel
theorem dX10_man_51 : decode cX10_man 51 = .ok (.aload_n 0, 1) := by decide +kernel
theorem dX10_man_52 : decode cX10_man 52 = .ok (.dup, 1) := by decide +kernel
theorem dX10_man_53 : decode cX10_man 53 = .ok (.getfield 161, 3) := by decide +kernel
theorem dX10_man_56 : decode cX10_man 56 = .ok (.iconst 1, 1) := by decide +kernel
theorem dX10_man_57 : decode cX10_man 57 = .ok (.iadd, 1) := by decide +kernel
theorem dX10_man_58 : decode cX10_man 58 = .ok (.putfield 161, 3) := by decide +kernel
theorem dX10_man_61 : decode cX10_man 61 = .ok (.aload_n 0, 1) := by decide +kernel
theorem dX10_man_62 : decode cX10_man 62 = .ok (.getfield 161, 3) := by decide +kernel
theorem dX10_man_65 : decode cX10_man 65 = .ok (.iconst 1, 1) := by decide +kernel
theorem dX10_man_66 : decode cX10_man 66 = .ok (.isub, 1) := by decide +kernel
theorem dX10_man_67 : decode cX10_man 67 = .ok (.ireturn, 1) := by decide +kernel
theorem dX10_breath_0 : decode cX10_breath 0 = .ok (.iload_n 1, 1) := by decide +kernel
theorem dX10_breath_1 : decode cX10_breath 1 = .ok (.i2l, 1) := by decide +kernel
theorem dX10_breath_2 : decode cX10_breath 2 = .ok (.lconst 0, 1) := by decide +kernel
theorem dX10_breath_3 : decode cX10_breath 3 = .ok (.aload_n 0, 1) := by decide +kernel
theorem dX10_breath_4 : decode cX10_breath 4 = .ok (.getfield 161, 3) := by decide +kernel
theorem dX10_breath_7 : decode cX10_breath 7 = .ok (.iconst 1, 1) := by decide +kernel
theorem dX10_breath_8 : decode cX10_breath 8 = .ok (.isub, 1) := by decide +kernel
theorem dX10_breath_9 : decode cX10_breath 9 = .ok (.i2l, 1) := by decide +kernel
theorem dX10_breath_10 : decode cX10_breath 10 = .ok (.invokestatic 126, 3) := by decide +kernel
theorem dX10_breath_13 : decode cX10_breath 13 = .ok (.ifCond .eq 12, 3) := by decide +kernel
theorem dX10_breath_16 : decode cX10_breath 16 = .ok (.aload_n 0, 1) := by decide +kernel
theorem dX10_breath_17 : decode cX10_breath 17 = .ok (.getfield 32, 3) := by decide +kernel
theorem dX10_breath_20 : decode cX10_breath 20 = .ok (.iload_n 1, 1) := by decide +kernel
theorem dX10_breath_21 : decode cX10_breath 21 = .ok (.iaload, 1) := by decide +kernel
theorem dX10_breath_22 : decode cX10_breath 22 = .ok (.goto 5, 3) := by decide +kernel
theorem dX10_breath_25 : decode cX10_breath 25 = .ok (.bipush (-2), 2) := by decide +kernel
theorem dX10_breath_27 : decode cX10_breath 27 = .ok (.ireturn, 1) := by decide +kernel
theorem dX10_rest_0 : decode cX10_rest 0 = .ok (.iload_n 1, 1) := by decide +kernel
theorem dX10_rest_1 : decode cX10_rest 1 = .ok (.i2l, 1) := by decide +kernel
theorem dX10_rest_2 : decode cX10_rest 2 = .ok (.lconst 1, 1) := by decide +kernel
theorem dX10_rest_3 : decode cX10_rest 3 = .ok (.ldc2_w 164, 3) := by decide +kernel
theorem dX10_rest_6 : decode cX10_rest 6 = .ok (.invokestatic 126, 3) := by decide +kernel
theorem dX10_rest_9 : decode cX10_rest 9 = .ok (.ifCond .ne 6, 3) := by decide +kernel
theorem dX10_rest_12 : decode cX10_rest 12 = .ok (.bipush (-2), 2) := by decide +kernel
theorem dX10_rest_14 : decode cX10_rest 14 = .ok (.ireturn, 1) := by decide +kernel
theorem dX10_rest_15 : decode cX10_rest 15 = .ok (.iconst 0, 1) := by decide +kernel
theorem dX10_rest_16 : decode cX10_rest 16 = .ok (.istore_n 2, 1) := by decide +kernel
theorem dX10_rest_17 : decode cX10_rest 17 = .ok (.iload_n 2, 1) := by decide +kernel
theorem dX10_rest_18 : decode cX10_rest 18 = .ok (.aload_n 0, 1) := by decide +kernel
theorem dX10_rest_19 : decode cX10_rest 19 = .ok (.getfield 161, 3) := by decide +kernel
theorem dX10_rest_22 : decode cX10_rest 22 = .ok (.if_icmp .ge 40, 3) := by decide +kernel
theorem dX10_rest_25 : decode cX10_rest 25 = .ok (.aload_n 0, 1) := by decide +kernel
theorem dX10_rest_26 : decode cX10_rest 26 = .ok (.getfield 32, 3) := by decide +kernel
theorem dX10_rest_29 : decode cX10_rest 29 = .ok (.iload_n 2, 1) := by decide +kernel
theorem dX10_rest_30 : decode cX10_rest 30 = .ok (.iaload, 1) := by decide +kernel
theorem dX10_rest_31 : decode cX10_rest 31 = .ok (.iconst 2, 1) := by decide +kernel
theorem dX10_rest_32 : decode cX10_rest 32 = .ok (.iload_n 1, 1) := by decide +kernel
theorem dX10_rest_33 : decode cX10_rest 33 = .ok (.imul, 1) := by decide +kernel
theorem dX10_rest_34 : decode cX10_rest 34 = .ok (.iadd, 1) := by decide +kernel
theorem dX10_rest_35 : decode cX10_rest 35 = .ok (.istore_n 3, 1) := by decide +kernel
theorem dX10_rest_36 : decode cX10_rest 36 = .ok (.aload_n 0, 1) := by decide +kernel
theorem dX10_rest_37 : decode cX10_rest 37 = .ok (.getfield 32, 3) := by decide +kernel
theorem dX10_rest_40 : decode cX10_rest 40 = .ok (.iload_n 2, 1) := by decide +kernel
theorem dX10_rest_41 : decode cX10_rest 41 = .ok (.iload_n 3, 1) := by decide +kernel
theorem dX10_rest_42 : decode cX10_rest 42 = .ok (.sipush 5000, 3) := by decide +kernel
theorem dX10_rest_45 : decode cX10_rest 45 = .ok (.if_icmp .le 9, 3) := by decide +kernel
theorem dX10_rest_48 : decode cX10_rest 48 = .ok (.sipush 5000, 3) := by decide +kernel
theorem dX10_rest_51 : decode cX10_rest 51 = .ok (.goto 4, 3) := by decide +kernel
theorem dX10_rest_54 : decode cX10_rest 54 = .ok (.iload_n 3, 1) := by decide +kernel
theorem dX10_rest_55 : decode cX10_rest 55 = .ok (.iastore, 1) := by decide +kernel
theorem dX10_rest_56 : decode cX10_rest 56 = .ok (.iinc 2 1, 3) := by decide +kernel
theorem dX10_rest_59 : decode cX10_rest 59 = .ok (.goto (-42), 3) := by decide +kernel
theorem dX10_rest_62 : decode cX10_rest 62 = .ok (.iconst 1, 1) := by decide +kernel
theorem dX10_rest_63 : decode cX10_rest 63 = .ok (.ireturn, 1) := by decide +kernel
theorem dX10_weightOf_0 : decode cX10_weightOf 0 = .ok (.iconst 0, 1) := by decide +kernel
theorem dX10_weightOf_1 : decode cX10_weightOf 1 = .ok (.istore_n 2, 1) := by decide +kernel
theorem dX10_weightOf_2 : decode cX10_weightOf 2 = .ok (.iconst 0, 1) := by decide +kernel
theorem dX10_weightOf_3 : decode cX10_weightOf 3 = .ok (.istore_n 3, 1) := by decide +kernel
theorem dX10_weightOf_4 : decode cX10_weightOf 4 = .ok (.iload_n 3, 1) := by decide +kernel
theorem dX10_weightOf_5 : decode cX10_weightOf 5 = .ok (.aload_n 0, 1) := by decide +kernel
theorem dX10_weightOf_6 : decode cX10_weightOf 6 = .ok (.getfield 161, 3) := by decide +kernel
theorem dX10_weightOf_9 : decode cX10_weightOf 9 = .ok (.if_icmp .ge 24, 3) := by decide +kernel
theorem dX10_weightOf_12 : decode cX10_weightOf 12 = .ok (.iload_n 2, 1) := by decide +kernel
theorem dX10_weightOf_13 : decode cX10_weightOf 13 = .ok (.iload_n 1, 1) := by decide +kernel
theorem dX10_weightOf_14 : decode cX10_weightOf 14 = .ok (.iload_n 3, 1) := by decide +kernel
theorem dX10_weightOf_15 : decode cX10_weightOf 15 = .ok (.ishr, 1) := by decide +kernel
theorem dX10_weightOf_16 : decode cX10_weightOf 16 = .ok (.iconst 1, 1) := by decide +kernel
theorem dX10_weightOf_17 : decode cX10_weightOf 17 = .ok (.iand, 1) := by decide +kernel
theorem dX10_weightOf_18 : decode cX10_weightOf 18 = .ok (.aload_n 0, 1) := by decide +kernel
theorem dX10_weightOf_19 : decode cX10_weightOf 19 = .ok (.getfield 28, 3) := by decide +kernel
theorem dX10_weightOf_22 : decode cX10_weightOf 22 = .ok (.iload_n 3, 1) := by decide +kernel
theorem dX10_weightOf_23 : decode cX10_weightOf 23 = .ok (.iaload, 1) := by decide +kernel
theorem dX10_weightOf_24 : decode cX10_weightOf 24 = .ok (.imul, 1) := by decide +kernel
theorem dX10_weightOf_25 : decode cX10_weightOf 25 = .ok (.iadd, 1) := by decide +kernel
theorem dX10_weightOf_26 : decode cX10_weightOf 26 = .ok (.istore_n 2, 1) := by decide +kernel
theorem dX10_weightOf_27 : decode cX10_weightOf 27 = .ok (.iinc 3 1, 3) := by decide +kernel
theorem dX10_weightOf_30 : decode cX10_weightOf 30 = .ok (.goto (-26), 3) := by decide +kernel
theorem dX10_weightOf_33 : decode cX10_weightOf 33 = .ok (.iload_n 2, 1) := by decide +kernel
theorem dX10_weightOf_34 : decode cX10_weightOf 34 = .ok (.ireturn, 1) := by decide +kernel
theorem dX10_canOf_0 : decode cX10_canOf 0 = .ok (.aload_n 0, 1) := by decide +kernel
theorem dX10_canOf_1 : decode cX10_canOf 1 = .ok (.iload_n 3, 1) := by decide +kernel
theorem dX10_canOf_2 : decode cX10_canOf 2 = .ok (.invokevirtual 151, 3) := by decide +kernel
theorem dX10_canOf_5 : decode cX10_canOf 5 = .ok (.istore 4, 2) := by decide +kernel
theorem dX10_canOf_7 : decode cX10_canOf 7 = .ok (.ldc2_w 122, 3) := by decide +kernel
theorem dX10_canOf_10 : decode cX10_canOf 10 = .ok (.aload_n 0, 1) := by decide +kernel
theorem dX10_canOf_11 : decode cX10_canOf 11 = .ok (.iload_n 1, 1) := by decide +kernel
theorem dX10_canOf_12 : decode cX10_canOf 12 = .ok (.invokevirtual 166, 3) := by decide +kernel
theorem dX10_canOf_15 : decode cX10_canOf 15 = .ok (.i2l, 1) := by decide +kernel
theorem dX10_canOf_16 : decode cX10_canOf 16 = .ok (.lmul, 1) := by decide +kernel
theorem dX10_canOf_17 : decode cX10_canOf 17 = .ok (.aload_n 0, 1) := by decide +kernel
theorem dX10_canOf_18 : decode cX10_canOf 18 = .ok (.getfield 7, 3) := by decide +kernel
theorem dX10_canOf_21 : decode cX10_canOf 21 = .ok (.i2l, 1) := by decide +kernel
theorem dX10_canOf_22 : decode cX10_canOf 22 = .ok (.lmul, 1) := by decide +kernel
theorem dX10_canOf_23 : decode cX10_canOf 23 = .ok (.lstore 5, 2) := by decide +kernel
theorem dX10_canOf_25 : decode cX10_canOf 25 = .ok (.iload_n 2, 1) := by decide +kernel
theorem dX10_canOf_26 : decode cX10_canOf 26 = .ok (.i2l, 1) := by decide +kernel
theorem dX10_canOf_27 : decode cX10_canOf 27 = .ok (.aload_n 0, 1) := by decide +kernel
theorem dX10_canOf_28 : decode cX10_canOf 28 = .ok (.aload_n 0, 1) := by decide +kernel
theorem dX10_canOf_29 : decode cX10_canOf 29 = .ok (.iload 4, 2) := by decide +kernel
theorem dX10_canOf_31 : decode cX10_canOf 31 = .ok (.invokevirtual 154, 3) := by decide +kernel
theorem dX10_canOf_34 : decode cX10_canOf 34 = .ok (.invokevirtual 138, 3) := by decide +kernel
theorem dX10_canOf_37 : decode cX10_canOf 37 = .ok (.i2l, 1) := by decide +kernel
theorem dX10_canOf_38 : decode cX10_canOf 38 = .ok (.lmul, 1) := by decide +kernel
theorem dX10_canOf_39 : decode cX10_canOf 39 = .ok (.bipush 100, 2) := by decide +kernel
theorem dX10_canOf_41 : decode cX10_canOf 41 = .ok (.aload_n 0, 1) := by decide +kernel
theorem dX10_canOf_42 : decode cX10_canOf 42 = .ok (.getfield 19, 3) := by decide +kernel
theorem dX10_canOf_45 : decode cX10_canOf 45 = .ok (.iadd, 1) := by decide +kernel
theorem dX10_canOf_46 : decode cX10_canOf 46 = .ok (.i2l, 1) := by decide +kernel
theorem dX10_canOf_47 : decode cX10_canOf 47 = .ok (.lmul, 1) := by decide +kernel
theorem dX10_canOf_48 : decode cX10_canOf 48 = .ok (.lstore 7, 2) := by decide +kernel
theorem dX10_canOf_50 : decode cX10_canOf 50 = .ok (.lload 5, 2) := by decide +kernel
theorem dX10_canOf_52 : decode cX10_canOf 52 = .ok (.lload 7, 2) := by decide +kernel
theorem dX10_canOf_54 : decode cX10_canOf 54 = .ok (.lcmp, 1) := by decide +kernel
theorem dX10_canOf_55 : decode cX10_canOf 55 = .ok (.ifCond .ge 5, 3) := by decide +kernel
theorem dX10_canOf_58 : decode cX10_canOf 58 = .ok (.iconst 0, 1) := by decide +kernel
theorem dX10_canOf_59 : decode cX10_canOf 59 = .ok (.ireturn, 1) := by decide +kernel
theorem dX10_canOf_60 : decode cX10_canOf 60 = .ok (.iload 4, 2) := by decide +kernel
theorem dX10_canOf_62 : decode cX10_canOf 62 = .ok (.i2l, 1) := by decide +kernel
theorem dX10_canOf_63 : decode cX10_canOf 63 = .ok (.iconst 1, 1) := by decide +kernel
theorem dX10_canOf_64 : decode cX10_canOf 64 = .ok (.iload_n 2, 1) := by decide +kernel
theorem dX10_canOf_65 : decode cX10_canOf 65 = .ok (.sipush 1000, 3) := by decide +kernel
theorem dX10_canOf_68 : decode cX10_canOf 68 = .ok (.idiv, 1) := by decide +kernel
theorem dX10_canOf_69 : decode cX10_canOf 69 = .ok (.iadd, 1) := by decide +kernel
theorem dX10_canOf_70 : decode cX10_canOf 70 = .ok (.i2l, 1) := by decide +kernel
theorem dX10_canOf_71 : decode cX10_canOf 71 = .ok (.lmul, 1) := by decide +kernel
theorem dX10_canOf_72 : decode cX10_canOf 72 = .ok (.lstore 9, 2) := by decide +kernel
theorem dX10_canOf_74 : decode cX10_canOf 74 = .ok (.iconst 0, 1) := by decide +kernel
theorem dX10_canOf_75 : decode cX10_canOf 75 = .ok (.istore 11, 2) := by decide +kernel
theorem dX10_canOf_77 : decode cX10_canOf 77 = .ok (.iconst 0, 1) := by decide +kernel
theorem dX10_canOf_78 : decode cX10_canOf 78 = .ok (.istore 12, 2) := by decide +kernel
theorem dX10_canOf_80 : decode cX10_canOf 80 = .ok (.iload 12, 2) := by decide +kernel
theorem dX10_canOf_82 : decode cX10_canOf 82 = .ok (.aload_n 0, 1) := by decide +kernel
theorem dX10_canOf_83 : decode cX10_canOf 83 = .ok (.getfield 161, 3) := by decide +kernel
theorem dX10_canOf_86 : decode cX10_canOf 86 = .ok (.if_icmp .ge 45, 3) := by decide +kernel
theorem dX10_canOf_89 : decode cX10_canOf 89 = .ok (.iload 11, 2) := by decide +kernel
theorem dX10_canOf_91 : decode cX10_canOf 91 = .ok (.ifCond .ne 27, 3) := by decide +kernel
theorem dX10_canOf_94 : decode cX10_canOf 94 = .ok (.iload_n 1, 1) := by decide +kernel
theorem dX10_canOf_95 : decode cX10_canOf 95 = .ok (.iload 12, 2) := by decide +kernel
theorem dX10_canOf_97 : decode cX10_canOf 97 = .ok (.ishr, 1) := by decide +kernel
theorem dX10_canOf_98 : decode cX10_canOf 98 = .ok (.iconst 1, 1) := by decide +kernel
theorem dX10_canOf_99 : decode cX10_canOf 99 = .ok (.iand, 1) := by decide +kernel
theorem dX10_canOf_100 : decode cX10_canOf 100 = .ok (.iconst 1, 1) := by decide +kernel
theorem dX10_canOf_101 : decode cX10_canOf 101 = .ok (.if_icmp .ne 21, 3) := by decide +kernel
theorem dX10_canOf_104 : decode cX10_canOf 104 = .ok (.aload_n 0, 1) := by decide +kernel
theorem dX10_canOf_105 : decode cX10_canOf 105 = .ok (.getfield 32, 3) := by decide +kernel
theorem dX10_canOf_108 : decode cX10_canOf 108 = .ok (.iload 12, 2) := by decide +kernel
theorem dX10_canOf_110 : decode cX10_canOf 110 = .ok (.iaload, 1) := by decide +kernel
theorem dX10_canOf_111 : decode cX10_canOf 111 = .ok (.i2l, 1) := by decide +kernel
theorem dX10_canOf_112 : decode cX10_canOf 112 = .ok (.lload 9, 2) := by decide +kernel
theorem dX10_canOf_114 : decode cX10_canOf 114 = .ok (.lcmp, 1) := by decide +kernel
theorem dX10_canOf_115 : decode cX10_canOf 115 = .ok (.ifCond .ge 7, 3) := by decide +kernel
theorem dX10_canOf_118 : decode cX10_canOf 118 = .ok (.iconst 1, 1) := by decide +kernel
theorem dX10_canOf_119 : decode cX10_canOf 119 = .ok (.goto 4, 3) := by decide +kernel
theorem dX10_canOf_122 : decode cX10_canOf 122 = .ok (.iconst 0, 1) := by decide +kernel
theorem dX10_canOf_123 : decode cX10_canOf 123 = .ok (.istore 11, 2) := by decide +kernel
theorem dX10_canOf_125 : decode cX10_canOf 125 = .ok (.iinc 12 1, 3) := by decide +kernel
theorem dX10_canOf_128 : decode cX10_canOf 128 = .ok (.goto (-48), 3) := by decide +kernel
theorem dX10_canOf_131 : decode cX10_canOf 131 = .ok (.iload 11, 2) := by decide +kernel
theorem dX10_canOf_133 : decode cX10_canOf 133 = .ok (.ifCond .eq 7, 3) := by decide +kernel
theorem dX10_canOf_136 : decode cX10_canOf 136 = .ok (.iconst 2, 1) := by decide +kernel
theorem dX10_canOf_137 : decode cX10_canOf 137 = .ok (.goto 4, 3) := by decide +kernel
theorem dX10_canOf_140 : decode cX10_canOf 140 = .ok (.iconst 1, 1) := by decide +kernel
theorem dX10_canOf_141 : decode cX10_canOf 141 = .ok (.ireturn, 1) := by decide +kernel
theorem dX10_isLoad_0 : decode cX10_isLoad 0 = .ok (.iload_n 0, 1) := by decide +kernel
theorem dX10_isLoad_1 : decode cX10_isLoad 1 = .ok (.i2l, 1) := by decide +kernel
theorem dX10_isLoad_2 : decode cX10_isLoad 2 = .ok (.lconst 1, 1) := by decide +kernel
theorem dX10_isLoad_3 : decode cX10_isLoad 3 = .ok (.ldc2_w 169, 3) := by decide +kernel
theorem dX10_isLoad_6 : decode cX10_isLoad 6 = .ok (.invokestatic 126, 3) := by decide +kernel
theorem dX10_isLoad_9 : decode cX10_isLoad 9 = .ok (.ireturn, 1) := by decide +kernel
theorem dX10_areMen_0 : decode cX10_areMen 0 = .ok (.iload_n 1, 1) := by decide +kernel
theorem dX10_areMen_1 : decode cX10_areMen 1 = .ok (.i2l, 1) := by decide +kernel
theorem dX10_areMen_2 : decode cX10_areMen 2 = .ok (.lconst 0, 1) := by decide +kernel
theorem dX10_areMen_3 : decode cX10_areMen 3 = .ok (.iconst 1, 1) := by decide +kernel
theorem dX10_areMen_4 : decode cX10_areMen 4 = .ok (.aload_n 0, 1) := by decide +kernel
theorem dX10_areMen_5 : decode cX10_areMen 5 = .ok (.getfield 161, 3) := by decide +kernel
theorem dX10_areMen_8 : decode cX10_areMen 8 = .ok (.ishl, 1) := by decide +kernel
theorem dX10_areMen_9 : decode cX10_areMen 9 = .ok (.iconst 1, 1) := by decide +kernel
theorem dX10_areMen_10 : decode cX10_areMen 10 = .ok (.isub, 1) := by decide +kernel
theorem dX10_areMen_11 : decode cX10_areMen 11 = .ok (.i2l, 1) := by decide +kernel
theorem dX10_areMen_12 : decode cX10_areMen 12 = .ok (.invokestatic 126, 3) := by decide +kernel
theorem dX10_areMen_15 : decode cX10_areMen 15 = .ok (.ireturn, 1) := by decide +kernel
theorem dX10_can_0 : decode cX10_can 0 = .ok (.aload_n 0, 1) := by decide +kernel
theorem dX10_can_1 : decode cX10_can 1 = .ok (.iload_n 1, 1) := by decide +kernel
theorem dX10_can_2 : decode cX10_can 2 = .ok (.invokevirtual 171, 3) := by decide +kernel
theorem dX10_can_5 : decode cX10_can 5 = .ok (.ifCond .eq 27, 3) := by decide +kernel
theorem dX10_can_8 : decode cX10_can 8 = .ok (.iload_n 2, 1) := by decide +kernel
theorem dX10_can_9 : decode cX10_can 9 = .ok (.invokestatic 174, 3) := by decide +kernel
theorem dX10_can_12 : decode cX10_can 12 = .ok (.ifCond .eq 20, 3) := by decide +kernel
theorem dX10_can_15 : decode cX10_can 15 = .ok (.iload_n 3, 1) := by decide +kernel
theorem dX10_can_16 : decode cX10_can 16 = .ok (.invokestatic 147, 3) := by decide +kernel
theorem dX10_can_19 : decode cX10_can 19 = .ok (.ifCond .eq 13, 3) := by decide +kernel
theorem dX10_can_22 : decode cX10_can 22 = .ok (.aload_n 0, 1) := by decide +kernel
theorem dX10_can_23 : decode cX10_can 23 = .ok (.iload_n 1, 1) := by decide +kernel
theorem dX10_can_24 : decode cX10_can 24 = .ok (.iload_n 2, 1) := by decide +kernel
theorem dX10_can_25 : decode cX10_can 25 = .ok (.iload_n 3, 1) := by decide +kernel
theorem dX10_can_26 : decode cX10_can 26 = .ok (.invokevirtual 177, 3) := by decide +kernel
theorem dX10_can_29 : decode cX10_can 29 = .ok (.goto 5, 3) := by decide +kernel
theorem dX10_can_32 : decode cX10_can 32 = .ok (.bipush (-2), 2) := by decide +kernel
theorem dX10_can_34 : decode cX10_can 34 = .ok (.ireturn, 1) := by decide +kernel
theorem dX10_ones_0 : decode cX10_ones 0 = .ok (.iconst 0, 1) := by decide +kernel
theorem dX10_ones_1 : decode cX10_ones 1 = .ok (.istore_n 1, 1) := by decide +kernel
theorem dX10_ones_2 : decode cX10_ones 2 = .ok (.iconst 0, 1) := by decide +kernel
theorem dX10_ones_3 : decode cX10_ones 3 = .ok (.istore_n 2, 1) := by decide +kernel
theorem dX10_ones_4 : decode cX10_ones 4 = .ok (.iload_n 2, 1) := by decide +kernel
theorem dX10_ones_5 : decode cX10_ones 5 = .ok (.bipush 20, 2) := by decide +kernel
theorem dX10_ones_7 : decode cX10_ones 7 = .ok (.if_icmp .ge 17, 3) := by decide +kernel
theorem dX10_ones_10 : decode cX10_ones 10 = .ok (.iload_n 1, 1) := by decide +kernel
theorem dX10_ones_11 : decode cX10_ones 11 = .ok (.iload_n 0, 1) := by decide +kernel
theorem dX10_ones_12 : decode cX10_ones 12 = .ok (.iload_n 2, 1) := by decide +kernel
theorem dX10_ones_13 : decode cX10_ones 13 = .ok (.ishr, 1) := by decide +kernel
theorem dX10_ones_14 : decode cX10_ones 14 = .ok (.iconst 1, 1) := by decide +kernel
theorem dX10_ones_15 : decode cX10_ones 15 = .ok (.iand, 1) := by decide +kernel
theorem dX10_ones_16 : decode cX10_ones 16 = .ok (.iadd, 1) := by decide +kernel
theorem dX10_ones_17 : decode cX10_ones 17 = .ok (.istore_n 1, 1) := by decide +kernel
theorem dX10_ones_18 : decode cX10_ones 18 = .ok (.iinc 2 1, 3) := by decide +kernel
theorem dX10_ones_21 : decode cX10_ones 21 = .ok (.goto (-17), 3) := by decide +kernel
theorem dX10_ones_24 : decode cX10_ones 24 = .ok (.iload_n 1, 1) := by decide +kernel
theorem dX10_ones_25 : decode cX10_ones 25 = .ok (.ireturn, 1) := by decide +kernel
theorem dX10_fewest_0 : decode cX10_fewest 0 = .ok (.iload_n 1, 1) := by decide +kernel
theorem dX10_fewest_1 : decode cX10_fewest 1 = .ok (.invokestatic 174, 3) := by decide +kernel
theorem dX10_fewest_4 : decode cX10_fewest 4 = .ok (.ifCond .eq 10, 3) := by decide +kernel
theorem dX10_fewest_7 : decode cX10_fewest 7 = .ok (.iload_n 2, 1) := by decide +kernel
theorem dX10_fewest_8 : decode cX10_fewest 8 = .ok (.invokestatic 147, 3) := by decide +kernel
theorem dX10_fewest_11 : decode cX10_fewest 11 = .ok (.ifCond .ne 6, 3) := by decide +kernel
theorem dX10_fewest_14 : decode cX10_fewest 14 = .ok (.bipush (-2), 2) := by decide +kernel
theorem dX10_fewest_16 : decode cX10_fewest 16 = .ok (.ireturn, 1) := by decide +kernel
theorem dX10_fewest_17 : decode cX10_fewest 17 = .ok (.iconst (-1), 1) := by decide +kernel
theorem dX10_fewest_18 : decode cX10_fewest 18 = .ok (.istore_n 3, 1) := by decide +kernel
theorem dX10_fewest_19 : decode cX10_fewest 19 = .ok (.iconst 1, 1) := by decide +kernel
theorem dX10_fewest_20 : decode cX10_fewest 20 = .ok (.istore 4, 2) := by decide +kernel
theorem dX10_fewest_22 : decode cX10_fewest 22 = .ok (.iload 4, 2) := by decide +kernel
theorem dX10_fewest_24 : decode cX10_fewest 24 = .ok (.iconst 1, 1) := by decide +kernel
theorem dX10_fewest_25 : decode cX10_fewest 25 = .ok (.aload_n 0, 1) := by decide +kernel
theorem dX10_fewest_26 : decode cX10_fewest 26 = .ok (.getfield 161, 3) := by decide +kernel
theorem dX10_fewest_29 : decode cX10_fewest 29 = .ok (.ishl, 1) := by decide +kernel
theorem dX10_fewest_30 : decode cX10_fewest 30 = .ok (.if_icmp .ge 82, 3) := by decide +kernel
theorem dX10_fewest_33 : decode cX10_fewest 33 = .ok (.aload_n 0, 1) := by decide +kernel
theorem dX10_fewest_34 : decode cX10_fewest 34 = .ok (.iload 4, 2) := by decide +kernel
theorem dX10_fewest_36 : decode cX10_fewest 36 = .ok (.iload_n 1, 1) := by decide +kernel
theorem dX10_fewest_37 : decode cX10_fewest 37 = .ok (.iload_n 2, 1) := by decide +kernel
theorem dX10_fewest_38 : decode cX10_fewest 38 = .ok (.invokevirtual 177, 3) := by decide +kernel
theorem dX10_fewest_41 : decode cX10_fewest 41 = .ok (.iconst 1, 1) := by decide +kernel
theorem dX10_fewest_42 : decode cX10_fewest 42 = .ok (.if_icmp .ne 64, 3) := by decide +kernel
theorem dX10_fewest_45 : decode cX10_fewest 45 = .ok (.iload_n 3, 1) := by decide +kernel
theorem dX10_fewest_46 : decode cX10_fewest 46 = .ok (.ifCond .lt 41, 3) := by decide +kernel
theorem dX10_fewest_49 : decode cX10_fewest 49 = .ok (.iload 4, 2) := by decide +kernel
theorem dX10_fewest_51 : decode cX10_fewest 51 = .ok (.invokestatic 181, 3) := by decide +kernel
theorem dX10_fewest_54 : decode cX10_fewest 54 = .ok (.iload_n 3, 1) := by decide +kernel
theorem dX10_fewest_55 : decode cX10_fewest 55 = .ok (.invokestatic 181, 3) := by decide +kernel
theorem dX10_fewest_58 : decode cX10_fewest 58 = .ok (.if_icmp .lt 29, 3) := by decide +kernel
theorem dX10_fewest_61 : decode cX10_fewest 61 = .ok (.iload 4, 2) := by decide +kernel
theorem dX10_fewest_63 : decode cX10_fewest 63 = .ok (.invokestatic 181, 3) := by decide +kernel
theorem dX10_fewest_66 : decode cX10_fewest 66 = .ok (.iload_n 3, 1) := by decide +kernel
theorem dX10_fewest_67 : decode cX10_fewest 67 = .ok (.invokestatic 181, 3) := by decide +kernel
theorem dX10_fewest_70 : decode cX10_fewest 70 = .ok (.if_icmp .ne 21, 3) := by decide +kernel
theorem dX10_fewest_73 : decode cX10_fewest 73 = .ok (.aload_n 0, 1) := by decide +kernel
theorem dX10_fewest_74 : decode cX10_fewest 74 = .ok (.iload 4, 2) := by decide +kernel
theorem dX10_fewest_76 : decode cX10_fewest 76 = .ok (.invokevirtual 166, 3) := by decide +kernel
theorem dX10_fewest_79 : decode cX10_fewest 79 = .ok (.aload_n 0, 1) := by decide +kernel
theorem dX10_fewest_80 : decode cX10_fewest 80 = .ok (.iload_n 3, 1) := by decide +kernel
theorem dX10_fewest_81 : decode cX10_fewest 81 = .ok (.invokevirtual 166, 3) := by decide +kernel
theorem dX10_fewest_84 : decode cX10_fewest 84 = .ok (.if_icmp .ge 7, 3) := by decide +kernel
theorem dX10_fewest_87 : decode cX10_fewest 87 = .ok (.iconst 1, 1) := by decide +kernel
theorem dX10_fewest_88 : decode cX10_fewest 88 = .ok (.goto 4, 3) := by decide +kernel
theorem dX10_fewest_91 : decode cX10_fewest 91 = .ok (.iconst 0, 1) := by decide +kernel
theorem dX10_fewest_92 : decode cX10_fewest 92 = .ok (.istore 5, 2) := by decide +kernel
theorem dX10_fewest_94 : decode cX10_fewest 94 = .ok (.iload 5, 2) := by decide +kernel
theorem dX10_fewest_96 : decode cX10_fewest 96 = .ok (.ifCond .eq 8, 3) := by decide +kernel
theorem dX10_fewest_99 : decode cX10_fewest 99 = .ok (.iload 4, 2) := by decide +kernel
theorem dX10_fewest_101 : decode cX10_fewest 101 = .ok (.goto 4, 3) := by decide +kernel
theorem dX10_fewest_104 : decode cX10_fewest 104 = .ok (.iload_n 3, 1) := by decide +kernel
theorem dX10_fewest_105 : decode cX10_fewest 105 = .ok (.istore_n 3, 1) := by decide +kernel
theorem dX10_fewest_106 : decode cX10_fewest 106 = .ok (.iinc 4 1, 3) := by decide +kernel
theorem dX10_fewest_109 : decode cX10_fewest 109 = .ok (.goto (-87), 3) := by decide +kernel
theorem dX10_fewest_112 : decode cX10_fewest 112 = .ok (.iload_n 3, 1) := by decide +kernel
theorem dX10_fewest_113 : decode cX10_fewest 113 = .ok (.ireturn, 1) := by decide +kernel
theorem dX10_hoist_0 : decode cX10_hoist 0 = .ok (.aload_n 0, 1) := by decide +kernel
theorem dX10_hoist_1 : decode cX10_hoist 1 = .ok (.iload_n 1, 1) := by decide +kernel
theorem dX10_hoist_2 : decode cX10_hoist 2 = .ok (.invokevirtual 171, 3) := by decide +kernel
theorem dX10_hoist_5 : decode cX10_hoist 5 = .ok (.ifCond .eq 31, 3) := by decide +kernel
theorem dX10_hoist_8 : decode cX10_hoist 8 = .ok (.iload_n 2, 1) := by decide +kernel
theorem dX10_hoist_9 : decode cX10_hoist 9 = .ok (.iconst (-1), 1) := by decide +kernel
theorem dX10_hoist_10 : decode cX10_hoist 10 = .ok (.if_icmp .eq 11, 3) := by decide +kernel
theorem dX10_hoist_13 : decode cX10_hoist 13 = .ok (.aload_n 0, 1) := by decide +kernel
theorem dX10_hoist_14 : decode cX10_hoist 14 = .ok (.iload_n 2, 1) := by decide +kernel
theorem dX10_hoist_15 : decode cX10_hoist 15 = .ok (.invokevirtual 184, 3) := by decide +kernel
theorem dX10_hoist_18 : decode cX10_hoist 18 = .ok (.ifCond .ne 18, 3) := by decide +kernel
theorem dX10_hoist_21 : decode cX10_hoist 21 = .ok (.iload_n 3, 1) := by decide +kernel
theorem dX10_hoist_22 : decode cX10_hoist 22 = .ok (.invokestatic 174, 3) := by decide +kernel
theorem dX10_hoist_25 : decode cX10_hoist 25 = .ok (.ifCond .eq 11, 3) := by decide +kernel
theorem dX10_hoist_28 : decode cX10_hoist 28 = .ok (.iload 4, 2) := by decide +kernel
theorem dX10_hoist_30 : decode cX10_hoist 30 = .ok (.invokestatic 147, 3) := by decide +kernel
theorem dX10_hoist_33 : decode cX10_hoist 33 = .ok (.ifCond .ne 6, 3) := by decide +kernel
theorem dX10_hoist_36 : decode cX10_hoist 36 = .ok (.bipush (-2), 2) := by decide +kernel
theorem dX10_hoist_38 : decode cX10_hoist 38 = .ok (.ireturn, 1) := by decide +kernel
theorem dX10_hoist_39 : decode cX10_hoist 39 = .ok (.aload_n 0, 1) := by decide +kernel
theorem dX10_hoist_40 : decode cX10_hoist 40 = .ok (.iload_n 1, 1) := by decide +kernel
theorem dX10_hoist_41 : decode cX10_hoist 41 = .ok (.iload_n 3, 1) := by decide +kernel
theorem dX10_hoist_42 : decode cX10_hoist 42 = .ok (.iload 4, 2) := by decide +kernel
theorem dX10_hoist_44 : decode cX10_hoist 44 = .ok (.invokevirtual 177, 3) := by decide +kernel
theorem dX10_hoist_47 : decode cX10_hoist 47 = .ok (.iconst 1, 1) := by decide +kernel
theorem dX10_hoist_48 : decode cX10_hoist 48 = .ok (.if_icmp .ne 16, 3) := by decide +kernel
theorem dX10_hoist_51 : decode cX10_hoist 51 = .ok (.iload_n 2, 1) := by decide +kernel
theorem dX10_hoist_52 : decode cX10_hoist 52 = .ok (.ifCond .lt 15, 3) := by decide +kernel
theorem dX10_hoist_55 : decode cX10_hoist 55 = .ok (.aload_n 0, 1) := by decide +kernel
theorem dX10_hoist_56 : decode cX10_hoist 56 = .ok (.getfield 45, 3) := by decide +kernel
theorem dX10_hoist_59 : decode cX10_hoist 59 = .ok (.iload_n 2, 1) := by decide +kernel
theorem dX10_hoist_60 : decode cX10_hoist 60 = .ok (.baload, 1) := by decide +kernel
theorem dX10_hoist_61 : decode cX10_hoist 61 = .ok (.ifCond .eq 6, 3) := by decide +kernel
theorem dX10_hoist_64 : decode cX10_hoist 64 = .ok (.bipush (-3), 2) := by decide +kernel
theorem dX10_hoist_66 : decode cX10_hoist 66 = .ok (.ireturn, 1) := by decide +kernel
theorem dX10_hoist_67 : decode cX10_hoist 67 = .ok (.iload_n 2, 1) := by decide +kernel
theorem dX10_hoist_68 : decode cX10_hoist 68 = .ok (.ifCond .lt 15, 3) := by decide +kernel
theorem dX10_hoist_71 : decode cX10_hoist 71 = .ok (.aload_n 0, 1) := by decide +kernel
theorem dX10_hoist_72 : decode cX10_hoist 72 = .ok (.iload_n 2, 1) := by decide +kernel
theorem dX10_hoist_73 : decode cX10_hoist 73 = .ok (.iload_n 3, 1) := by decide +kernel
theorem dX10_hoist_74 : decode cX10_hoist 74 = .ok (.invokevirtual 187, 3) := by decide +kernel
theorem dX10_hoist_77 : decode cX10_hoist 77 = .ok (.ifCond .ne 6, 3) := by decide +kernel
theorem dX10_hoist_80 : decode cX10_hoist 80 = .ok (.bipush (-10), 2) := by decide +kernel
theorem dX10_hoist_82 : decode cX10_hoist 82 = .ok (.ireturn, 1) := by decide +kernel
theorem dX10_hoist_83 : decode cX10_hoist 83 = .ok (.aload_n 0, 1) := by decide +kernel
theorem dX10_hoist_84 : decode cX10_hoist 84 = .ok (.iload 4, 2) := by decide +kernel
theorem dX10_hoist_86 : decode cX10_hoist 86 = .ok (.invokevirtual 151, 3) := by decide +kernel
theorem dX10_hoist_89 : decode cX10_hoist 89 = .ok (.istore 5, 2) := by decide +kernel
theorem dX10_hoist_91 : decode cX10_hoist 91 = .ok (.iconst 0, 1) := by decide +kernel
theorem dX10_hoist_92 : decode cX10_hoist 92 = .ok (.istore 6, 2) := by decide +kernel
theorem dX10_hoist_94 : decode cX10_hoist 94 = .ok (.iload 6, 2) := by decide +kernel
theorem dX10_hoist_96 : decode cX10_hoist 96 = .ok (.aload_n 0, 1) := by decide +kernel
theorem dX10_hoist_97 : decode cX10_hoist 97 = .ok (.getfield 161, 3) := by decide +kernel
theorem dX10_hoist_100 : decode cX10_hoist 100 = .ok (.if_icmp .ge 36, 3) := by decide +kernel
theorem dX10_hoist_103 : decode cX10_hoist 103 = .ok (.aload_n 0, 1) := by decide +kernel
theorem dX10_hoist_104 : decode cX10_hoist 104 = .ok (.getfield 32, 3) := by decide +kernel
theorem dX10_hoist_107 : decode cX10_hoist 107 = .ok (.iload 6, 2) := by decide +kernel
theorem dX10_hoist_109 : decode cX10_hoist 109 = .ok (.dup2, 1) := by decide +kernel
theorem dX10_hoist_110 : decode cX10_hoist 110 = .ok (.iaload, 1) := by decide +kernel
theorem dX10_hoist_111 : decode cX10_hoist 111 = .ok (.iload_n 1, 1) := by decide +kernel
theorem dX10_hoist_112 : decode cX10_hoist 112 = .ok (.iload 6, 2) := by decide +kernel
theorem dX10_hoist_114 : decode cX10_hoist 114 = .ok (.ishr, 1) := by decide +kernel
theorem dX10_hoist_115 : decode cX10_hoist 115 = .ok (.iconst 1, 1) := by decide +kernel
theorem dX10_hoist_116 : decode cX10_hoist 116 = .ok (.iand, 1) := by decide +kernel
theorem dX10_hoist_117 : decode cX10_hoist 117 = .ok (.iload 5, 2) := by decide +kernel
theorem dX10_hoist_119 : decode cX10_hoist 119 = .ok (.imul, 1) := by decide +kernel
theorem dX10_hoist_120 : decode cX10_hoist 120 = .ok (.iconst 1, 1) := by decide +kernel
theorem dX10_hoist_121 : decode cX10_hoist 121 = .ok (.iload_n 3, 1) := by decide +kernel
theorem dX10_hoist_122 : decode cX10_hoist 122 = .ok (.sipush 1000, 3) := by decide +kernel
theorem dX10_hoist_125 : decode cX10_hoist 125 = .ok (.idiv, 1) := by decide +kernel
theorem dX10_hoist_126 : decode cX10_hoist 126 = .ok (.iadd, 1) := by decide +kernel
theorem dX10_hoist_127 : decode cX10_hoist 127 = .ok (.imul, 1) := by decide +kernel
theorem dX10_hoist_128 : decode cX10_hoist 128 = .ok (.isub, 1) := by decide +kernel
theorem dX10_hoist_129 : decode cX10_hoist 129 = .ok (.iastore, 1) := by decide +kernel
theorem dX10_hoist_130 : decode cX10_hoist 130 = .ok (.iinc 6 1, 3) := by decide +kernel
theorem dX10_hoist_133 : decode cX10_hoist 133 = .ok (.goto (-39), 3) := by decide +kernel
theorem dX10_hoist_136 : decode cX10_hoist 136 = .ok (.iload 5, 2) := by decide +kernel
theorem dX10_hoist_138 : decode cX10_hoist 138 = .ok (.ireturn, 1) := by decide +kernel
theorem dX10_noRope_0 : decode cX10_noRope 0 = .ok (.iload_n 1, 1) := by decide +kernel
theorem dX10_noRope_1 : decode cX10_noRope 1 = .ok (.i2l, 1) := by decide +kernel
theorem dX10_noRope_2 : decode cX10_noRope 2 = .ok (.lconst 0, 1) := by decide +kernel
theorem dX10_noRope_3 : decode cX10_noRope 3 = .ok (.aload_n 0, 1) := by decide +kernel
theorem dX10_noRope_4 : decode cX10_noRope 4 = .ok (.getfield 191, 3) := by decide +kernel
theorem dX10_noRope_7 : decode cX10_noRope 7 = .ok (.iconst 1, 1) := by decide +kernel
theorem dX10_noRope_8 : decode cX10_noRope 8 = .ok (.isub, 1) := by decide +kernel
theorem dX10_noRope_9 : decode cX10_noRope 9 = .ok (.i2l, 1) := by decide +kernel
theorem dX10_noRope_10 : decode cX10_noRope 10 = .ok (.invokestatic 126, 3) := by decide +kernel
theorem dX10_noRope_13 : decode cX10_noRope 13 = .ok (.ifCond .ne 7, 3) := by decide +kernel
theorem dX10_noRope_16 : decode cX10_noRope 16 = .ok (.iconst 1, 1) := by decide +kernel
theorem dX10_noRope_17 : decode cX10_noRope 17 = .ok (.goto 4, 3) := by decide +kernel
theorem dX10_noRope_20 : decode cX10_noRope 20 = .ok (.iconst 0, 1) := by decide +kernel
theorem dX10_noRope_21 : decode cX10_noRope 21 = .ok (.ireturn, 1) := by decide +kernel
theorem dX10_layRope_0 : decode cX10_layRope 0 = .ok (.aload_n 0, 1) := by decide +kernel
theorem dX10_layRope_1 : decode cX10_layRope 1 = .ok (.getfield 35, 3) := by decide +kernel
theorem dX10_layRope_4 : decode cX10_layRope 4 = .ok (.iload_n 1, 1) := by decide +kernel
theorem dX10_layRope_5 : decode cX10_layRope 5 = .ok (.iload_n 2, 1) := by decide +kernel
theorem dX10_layRope_6 : decode cX10_layRope 6 = .ok (.iastore, 1) := by decide +kernel
theorem dX10_layRope_7 : decode cX10_layRope 7 = .ok (.aload_n 0, 1) := by decide +kernel
theorem dX10_layRope_8 : decode cX10_layRope 8 = .ok (.getfield 38, 3) := by decide +kernel
theorem dX10_layRope_11 : decode cX10_layRope 11 = .ok (.iload_n 1, 1) := by decide +kernel
theorem dX10_layRope_12 : decode cX10_layRope 12 = .ok (.iconst 0, 1) := by decide +kernel
theorem dX10_layRope_13 : decode cX10_layRope 13 = .ok (.iastore, 1) := by decide +kernel
theorem dX10_layRope_14 : decode cX10_layRope 14 = .ok (.aload_n 0, 1) := by decide +kernel
theorem dX10_layRope_15 : decode cX10_layRope 15 = .ok (.getfield 41, 3) := by decide +kernel
theorem dX10_layRope_18 : decode cX10_layRope 18 = .ok (.iload_n 1, 1) := by decide +kernel
theorem dX10_layRope_19 : decode cX10_layRope 19 = .ok (.iconst 0, 1) := by decide +kernel
theorem dX10_layRope_20 : decode cX10_layRope 20 = .ok (.bastore, 1) := by decide +kernel
theorem dX10_layRope_21 : decode cX10_layRope 21 = .ok (.aload_n 0, 1) := by decide +kernel
theorem dX10_layRope_22 : decode cX10_layRope 22 = .ok (.getfield 45, 3) := by decide +kernel
theorem dX10_layRope_25 : decode cX10_layRope 25 = .ok (.iload_n 1, 1) := by decide +kernel
theorem dX10_layRope_26 : decode cX10_layRope 26 = .ok (.iconst 0, 1) := by decide +kernel
theorem dX10_layRope_27 : decode cX10_layRope 27 = .ok (.bastore, 1) := by decide +kernel
theorem dX10_layRope_28 : decode cX10_layRope 28 = .ok (.return_, 1) := by decide +kernel
theorem dX10_isStrength_0 : decode cX10_isStrength 0 = .ok (.iload_n 0, 1) := by decide +kernel
theorem dX10_isStrength_1 : decode cX10_isStrength 1 = .ok (.i2l, 1) := by decide +kernel
theorem dX10_isStrength_2 : decode cX10_isStrength 2 = .ok (.ldc2_w 122, 3) := by decide +kernel
theorem dX10_isStrength_5 : decode cX10_isStrength 5 = .ok (.ldc2_w 169, 3) := by decide +kernel
theorem dX10_isStrength_8 : decode cX10_isStrength 8 = .ok (.invokestatic 126, 3) := by decide +kernel
theorem dX10_isStrength_11 : decode cX10_isStrength 11 = .ok (.ireturn, 1) := by decide +kernel
theorem dX10_rope_0 : decode cX10_rope 0 = .ok (.iload_n 1, 1) := by decide +kernel
theorem dX10_rope_1 : decode cX10_rope 1 = .ok (.invokestatic 194, 3) := by decide +kernel
theorem dX10_rope_4 : decode cX10_rope 4 = .ok (.ifCond .ne 6, 3) := by decide +kernel
theorem dX10_rope_7 : decode cX10_rope 7 = .ok (.bipush (-2), 2) := by decide +kernel
theorem dX10_rope_9 : decode cX10_rope 9 = .ok (.ireturn, 1) := by decide +kernel
theorem dX10_rope_10 : decode cX10_rope 10 = .ok (.aload_n 0, 1) := by decide +kernel
theorem dX10_rope_11 : decode cX10_rope 11 = .ok (.getfield 191, 3) := by decide +kernel
theorem dX10_rope_14 : decode cX10_rope 14 = .ok (.bipush 6, 2) := by decide +kernel
theorem dX10_rope_16 : decode cX10_rope 16 = .ok (.if_icmp .ne 6, 3) := by decide +kernel
theorem dX10_rope_19 : decode cX10_rope 19 = .ok (.bipush (-4), 2) := by decide +kernel
theorem dX10_rope_21 : decode cX10_rope 21 = .ok (.ireturn, 1) := by decide +kernel
theorem dX10_rope_22 : decode cX10_rope 22 = .ok (.aload_n 0, 1) := by decide +kernel
theorem dX10_rope_23 : decode cX10_rope 23 = .ok (.aload_n 0, 1) := by decide +kernel
theorem dX10_rope_24 : decode cX10_rope 24 = .ok (.getfield 191, 3) := by decide +kernel
theorem dX10_rope_27 : decode cX10_rope 27 = .ok (.iload_n 1, 1) := by decide +kernel
theorem dX10_rope_28 : decode cX10_rope 28 = .ok (.invokevirtual 197, 3) := by decide +kernel
theorem dX10_rope_31 : decode cX10_rope 31 = .ok (.aload_n 0, 1) := by decide +kernel
theorem dX10_rope_32 : decode cX10_rope 32 = .ok (.dup, 1) := by decide +kernel
theorem dX10_rope_33 : decode cX10_rope 33 = .ok (.getfield 191, 3) := by decide +kernel
theorem dX10_rope_36 : decode cX10_rope 36 = .ok (.iconst 1, 1) := by decide +kernel
theorem dX10_rope_37 : decode cX10_rope 37 = .ok (.iadd, 1) := by decide +kernel
theorem dX10_rope_38 : decode cX10_rope 38 = .ok (.putfield 191, 3) := by decide +kernel
theorem dX10_rope_41 : decode cX10_rope 41 = .ok (.aload_n 0, 1) := by decide +kernel
theorem dX10_rope_42 : decode cX10_rope 42 = .ok (.getfield 191, 3) := by decide +kernel
theorem dX10_rope_45 : decode cX10_rope 45 = .ok (.iconst 1, 1) := by decide +kernel
theorem dX10_rope_46 : decode cX10_rope 46 = .ok (.isub, 1) := by decide +kernel
theorem dX10_rope_47 : decode cX10_rope 47 = .ok (.ireturn, 1) := by decide +kernel
theorem dX10_holdsOf_0 : decode cX10_holdsOf 0 = .ok (.aload_n 0, 1) := by decide +kernel
theorem dX10_holdsOf_1 : decode cX10_holdsOf 1 = .ok (.getfield 38, 3) := by decide +kernel
theorem dX10_holdsOf_4 : decode cX10_holdsOf 4 = .ok (.iload_n 1, 1) := by decide +kernel
theorem dX10_holdsOf_5 : decode cX10_holdsOf 5 = .ok (.iaload, 1) := by decide +kernel
theorem dX10_holdsOf_6 : decode cX10_holdsOf 6 = .ok (.sipush 1000, 3) := by decide +kernel
theorem dX10_holdsOf_9 : decode cX10_holdsOf 9 = .ok (.if_icmp .le 7, 3) := by decide +kernel
theorem dX10_holdsOf_12 : decode cX10_holdsOf 12 = .ok (.iconst 0, 1) := by decide +kernel
theorem dX10_holdsOf_13 : decode cX10_holdsOf 13 = .ok (.goto 13, 3) := by decide +kernel
theorem dX10_holdsOf_16 : decode cX10_holdsOf 16 = .ok (.sipush 1000, 3) := by decide +kernel
theorem dX10_holdsOf_19 : decode cX10_holdsOf 19 = .ok (.aload_n 0, 1) := by decide +kernel
theorem dX10_holdsOf_20 : decode cX10_holdsOf 20 = .ok (.getfield 38, 3) := by decide +kernel
theorem dX10_holdsOf_23 : decode cX10_holdsOf 23 = .ok (.iload_n 1, 1) := by decide +kernel
theorem dX10_holdsOf_24 : decode cX10_holdsOf 24 = .ok (.iaload, 1) := by decide +kernel
theorem dX10_holdsOf_25 : decode cX10_holdsOf 25 = .ok (.isub, 1) := by decide +kernel
theorem dX10_holdsOf_26 : decode cX10_holdsOf 26 = .ok (.istore_n 2, 1) := by decide +kernel
theorem dX10_holdsOf_27 : decode cX10_holdsOf 27 = .ok (.aload_n 0, 1) := by decide +kernel
theorem dX10_holdsOf_28 : decode cX10_holdsOf 28 = .ok (.getfield 35, 3) := by decide +kernel
theorem dX10_holdsOf_31 : decode cX10_holdsOf 31 = .ok (.iload_n 1, 1) := by decide +kernel
theorem dX10_holdsOf_32 : decode cX10_holdsOf 32 = .ok (.iaload, 1) := by decide +kernel
theorem dX10_holdsOf_33 : decode cX10_holdsOf 33 = .ok (.i2l, 1) := by decide +kernel
theorem dX10_holdsOf_34 : decode cX10_holdsOf 34 = .ok (.iload_n 2, 1) := by decide +kernel
theorem dX10_holdsOf_35 : decode cX10_holdsOf 35 = .ok (.i2l, 1) := by decide +kernel
theorem dX10_holdsOf_36 : decode cX10_holdsOf 36 = .ok (.lmul, 1) := by decide +kernel
theorem dX10_holdsOf_37 : decode cX10_holdsOf 37 = .ok (.ldc2_w 164, 3) := by decide +kernel
theorem dX10_holdsOf_40 : decode cX10_holdsOf 40 = .ok (.ldiv, 1) := by decide +kernel
theorem dX10_holdsOf_41 : decode cX10_holdsOf 41 = .ok (.l2i, 1) := by decide +kernel
theorem dX10_holdsOf_42 : decode cX10_holdsOf 42 = .ok (.istore_n 3, 1) := by decide +kernel
theorem dX10_holdsOf_43 : decode cX10_holdsOf 43 = .ok (.aload_n 0, 1) := by decide +kernel
theorem dX10_holdsOf_44 : decode cX10_holdsOf 44 = .ok (.getfield 45, 3) := by decide +kernel
theorem dX10_holdsOf_47 : decode cX10_holdsOf 47 = .ok (.iload_n 1, 1) := by decide +kernel
theorem dX10_holdsOf_48 : decode cX10_holdsOf 48 = .ok (.baload, 1) := by decide +kernel
theorem dX10_holdsOf_49 : decode cX10_holdsOf 49 = .ok (.ifCond .eq 7, 3) := by decide +kernel
theorem dX10_holdsOf_52 : decode cX10_holdsOf 52 = .ok (.iconst 0, 1) := by decide +kernel
theorem dX10_holdsOf_53 : decode cX10_holdsOf 53 = .ok (.goto 21, 3) := by decide +kernel
theorem dX10_holdsOf_56 : decode cX10_holdsOf 56 = .ok (.aload_n 0, 1) := by decide +kernel
theorem dX10_holdsOf_57 : decode cX10_holdsOf 57 = .ok (.getfield 41, 3) := by decide +kernel
theorem dX10_holdsOf_60 : decode cX10_holdsOf 60 = .ok (.iload_n 1, 1) := by decide +kernel
theorem dX10_holdsOf_61 : decode cX10_holdsOf 61 = .ok (.baload, 1) := by decide +kernel
theorem dX10_holdsOf_62 : decode cX10_holdsOf 62 = .ok (.ifCond .eq 11, 3) := by decide +kernel
theorem dX10_holdsOf_65 : decode cX10_holdsOf 65 = .ok (.iload_n 3, 1) := by decide +kernel
theorem dX10_holdsOf_66 : decode cX10_holdsOf 66 = .ok (.iconst 3, 1) := by decide +kernel
theorem dX10_holdsOf_67 : decode cX10_holdsOf 67 = .ok (.imul, 1) := by decide +kernel
theorem dX10_holdsOf_68 : decode cX10_holdsOf 68 = .ok (.iconst 4, 1) := by decide +kernel
theorem dX10_holdsOf_69 : decode cX10_holdsOf 69 = .ok (.idiv, 1) := by decide +kernel
theorem dX10_holdsOf_70 : decode cX10_holdsOf 70 = .ok (.goto 4, 3) := by decide +kernel
theorem dX10_holdsOf_73 : decode cX10_holdsOf 73 = .ok (.iload_n 3, 1) := by decide +kernel
theorem dX10_holdsOf_74 : decode cX10_holdsOf 74 = .ok (.ireturn, 1) := by decide +kernel
theorem dX10_pullOf_0 : decode cX10_pullOf 0 = .ok (.iload_n 2, 1) := by decide +kernel
theorem dX10_pullOf_1 : decode cX10_pullOf 1 = .ok (.aload_n 0, 1) := by decide +kernel
theorem dX10_pullOf_2 : decode cX10_pullOf 2 = .ok (.iload_n 1, 1) := by decide +kernel
theorem dX10_pullOf_3 : decode cX10_pullOf 3 = .ok (.invokevirtual 201, 3) := by decide +kernel
theorem dX10_pullOf_6 : decode cX10_pullOf 6 = .ok (.if_icmp .le 12, 3) := by decide +kernel
theorem dX10_pullOf_9 : decode cX10_pullOf 9 = .ok (.aload_n 0, 1) := by decide +kernel
theorem dX10_pullOf_10 : decode cX10_pullOf 10 = .ok (.getfield 45, 3) := by decide +kernel
theorem dX10_pullOf_13 : decode cX10_pullOf 13 = .ok (.iload_n 1, 1) := by decide +kernel
theorem dX10_pullOf_14 : decode cX10_pullOf 14 = .ok (.iconst 1, 1) := by decide +kernel
theorem dX10_pullOf_15 : decode cX10_pullOf 15 = .ok (.bastore, 1) := by decide +kernel
theorem dX10_pullOf_16 : decode cX10_pullOf 16 = .ok (.iconst 0, 1) := by decide +kernel
theorem dX10_pullOf_17 : decode cX10_pullOf 17 = .ok (.ireturn, 1) := by decide +kernel
theorem dX10_pullOf_18 : decode cX10_pullOf 18 = .ok (.iload_n 2, 1) := by decide +kernel
theorem dX10_pullOf_19 : decode cX10_pullOf 19 = .ok (.i2l, 1) := by decide +kernel
theorem dX10_pullOf_20 : decode cX10_pullOf 20 = .ok (.ldc2_w 122, 3) := by decide +kernel
theorem dX10_pullOf_23 : decode cX10_pullOf 23 = .ok (.lmul, 1) := by decide +kernel
theorem dX10_pullOf_24 : decode cX10_pullOf 24 = .ok (.aload_n 0, 1) := by decide +kernel
theorem dX10_pullOf_25 : decode cX10_pullOf 25 = .ok (.getfield 35, 3) := by decide +kernel
theorem dX10_pullOf_28 : decode cX10_pullOf 28 = .ok (.iload_n 1, 1) := by decide +kernel
theorem dX10_pullOf_29 : decode cX10_pullOf 29 = .ok (.iaload, 1) := by decide +kernel
theorem dX10_pullOf_30 : decode cX10_pullOf 30 = .ok (.i2l, 1) := by decide +kernel
theorem dX10_pullOf_31 : decode cX10_pullOf 31 = .ok (.ldiv, 1) := by decide +kernel
theorem dX10_pullOf_32 : decode cX10_pullOf 32 = .ok (.lstore_n 3, 1) := by decide +kernel
theorem dX10_pullOf_33 : decode cX10_pullOf 33 = .ok (.aload_n 0, 1) := by decide +kernel
theorem dX10_pullOf_34 : decode cX10_pullOf 34 = .ok (.getfield 38, 3) := by decide +kernel
theorem dX10_pullOf_37 : decode cX10_pullOf 37 = .ok (.iload_n 1, 1) := by decide +kernel
theorem dX10_pullOf_38 : decode cX10_pullOf 38 = .ok (.dup2, 1) := by decide +kernel
theorem dX10_pullOf_39 : decode cX10_pullOf 39 = .ok (.iaload, 1) := by decide +kernel
theorem dX10_pullOf_40 : decode cX10_pullOf 40 = .ok (.iconst 1, 1) := by decide +kernel
theorem dX10_pullOf_41 : decode cX10_pullOf 41 = .ok (.lload_n 3, 1) := by decide +kernel
theorem dX10_pullOf_42 : decode cX10_pullOf 42 = .ok (.lload_n 3, 1) := by decide +kernel
theorem dX10_pullOf_43 : decode cX10_pullOf 43 = .ok (.lmul, 1) := by decide +kernel
theorem dX10_pullOf_44 : decode cX10_pullOf 44 = .ok (.ldc2_w 164, 3) := by decide +kernel
theorem dX10_pullOf_47 : decode cX10_pullOf 47 = .ok (.ldiv, 1) := by decide +kernel
theorem dX10_pullOf_48 : decode cX10_pullOf 48 = .ok (.l2i, 1) := by decide +kernel
theorem dX10_pullOf_49 : decode cX10_pullOf 49 = .ok (.iadd, 1) := by decide +kernel
theorem dX10_pullOf_50 : decode cX10_pullOf 50 = .ok (.iadd, 1) := by decide +kernel
theorem dX10_pullOf_51 : decode cX10_pullOf 51 = .ok (.iastore, 1) := by decide +kernel
theorem dX10_pullOf_52 : decode cX10_pullOf 52 = .ok (.iconst 1, 1) := by decide +kernel
theorem dX10_pullOf_53 : decode cX10_pullOf 53 = .ok (.ireturn, 1) := by decide +kernel
theorem dX10_wet_0 : decode cX10_wet 0 = .ok (.aload_n 0, 1) := by decide +kernel
theorem dX10_wet_1 : decode cX10_wet 1 = .ok (.iload_n 1, 1) := by decide +kernel
theorem dX10_wet_2 : decode cX10_wet 2 = .ok (.invokevirtual 184, 3) := by decide +kernel
theorem dX10_wet_5 : decode cX10_wet 5 = .ok (.ifCond .eq 6, 3) := by decide +kernel
theorem dX10_wet_8 : decode cX10_wet 8 = .ok (.bipush (-2), 2) := by decide +kernel
theorem dX10_wet_10 : decode cX10_wet 10 = .ok (.ireturn, 1) := by decide +kernel
theorem dX10_wet_11 : decode cX10_wet 11 = .ok (.aload_n 0, 1) := by decide +kernel
theorem dX10_wet_12 : decode cX10_wet 12 = .ok (.getfield 41, 3) := by decide +kernel
theorem dX10_wet_15 : decode cX10_wet 15 = .ok (.iload_n 1, 1) := by decide +kernel
theorem dX10_wet_16 : decode cX10_wet 16 = .ok (.baload, 1) := by decide +kernel
theorem dX10_wet_17 : decode cX10_wet 17 = .ok (.iload_n 2, 1) := by decide +kernel
theorem dX10_wet_18 : decode cX10_wet 18 = .ok (.if_icmp .ne 6, 3) := by decide +kernel
theorem dX10_wet_21 : decode cX10_wet 21 = .ok (.bipush (-3), 2) := by decide +kernel
theorem dX10_wet_23 : decode cX10_wet 23 = .ok (.ireturn, 1) := by decide +kernel
theorem dX10_wet_24 : decode cX10_wet 24 = .ok (.aload_n 0, 1) := by decide +kernel
theorem dX10_wet_25 : decode cX10_wet 25 = .ok (.getfield 41, 3) := by decide +kernel
theorem dX10_wet_28 : decode cX10_wet 28 = .ok (.iload_n 1, 1) := by decide +kernel
theorem dX10_wet_29 : decode cX10_wet 29 = .ok (.iload_n 2, 1) := by decide +kernel
theorem dX10_wet_30 : decode cX10_wet 30 = .ok (.bastore, 1) := by decide +kernel
theorem dX10_wet_31 : decode cX10_wet 31 = .ok (.iconst 1, 1) := by decide +kernel
theorem dX10_wet_32 : decode cX10_wet 32 = .ok (.ireturn, 1) := by decide +kernel
theorem dX10_aboutOf_0 : decode cX10_aboutOf 0 = .ok (.iload_n 2, 1) := by decide +kernel
theorem dX10_aboutOf_1 : decode cX10_aboutOf 1 = .ok (.tableswitch 65 0 3 #[31, 38, 45, 55], 31) := by decide +kernel
theorem dX10_aboutOf_32 : decode cX10_aboutOf 32 = .ok (.aload_n 0, 1) := by decide +kernel
theorem dX10_aboutOf_33 : decode cX10_aboutOf 33 = .ok (.getfield 35, 3) := by decide +kernel
theorem dX10_aboutOf_36 : decode cX10_aboutOf 36 = .ok (.iload_n 1, 1) := by decide +kernel
theorem dX10_aboutOf_37 : decode cX10_aboutOf 37 = .ok (.iaload, 1) := by decide +kernel
theorem dX10_aboutOf_38 : decode cX10_aboutOf 38 = .ok (.ireturn, 1) := by decide +kernel
theorem dX10_aboutOf_39 : decode cX10_aboutOf 39 = .ok (.aload_n 0, 1) := by decide +kernel
theorem dX10_aboutOf_40 : decode cX10_aboutOf 40 = .ok (.getfield 38, 3) := by decide +kernel
theorem dX10_aboutOf_43 : decode cX10_aboutOf 43 = .ok (.iload_n 1, 1) := by decide +kernel
theorem dX10_aboutOf_44 : decode cX10_aboutOf 44 = .ok (.iaload, 1) := by decide +kernel
theorem dX10_aboutOf_45 : decode cX10_aboutOf 45 = .ok (.ireturn, 1) := by decide +kernel
theorem dX10_aboutOf_46 : decode cX10_aboutOf 46 = .ok (.aload_n 0, 1) := by decide +kernel
theorem dX10_aboutOf_47 : decode cX10_aboutOf 47 = .ok (.getfield 41, 3) := by decide +kernel
theorem dX10_aboutOf_50 : decode cX10_aboutOf 50 = .ok (.iload_n 1, 1) := by decide +kernel
theorem dX10_aboutOf_51 : decode cX10_aboutOf 51 = .ok (.baload, 1) := by decide +kernel
theorem dX10_aboutOf_52 : decode cX10_aboutOf 52 = .ok (.invokestatic 204, 3) := by decide +kernel
theorem dX10_aboutOf_55 : decode cX10_aboutOf 55 = .ok (.ireturn, 1) := by decide +kernel
theorem dX10_aboutOf_56 : decode cX10_aboutOf 56 = .ok (.aload_n 0, 1) := by decide +kernel
theorem dX10_aboutOf_57 : decode cX10_aboutOf 57 = .ok (.getfield 45, 3) := by decide +kernel
theorem dX10_aboutOf_60 : decode cX10_aboutOf 60 = .ok (.iload_n 1, 1) := by decide +kernel
theorem dX10_aboutOf_61 : decode cX10_aboutOf 61 = .ok (.baload, 1) := by decide +kernel
theorem dX10_aboutOf_62 : decode cX10_aboutOf 62 = .ok (.invokestatic 204, 3) := by decide +kernel
theorem dX10_aboutOf_65 : decode cX10_aboutOf 65 = .ok (.ireturn, 1) := by decide +kernel
theorem dX10_aboutOf_66 : decode cX10_aboutOf 66 = .ok (.aload_n 0, 1) := by decide +kernel
theorem dX10_aboutOf_67 : decode cX10_aboutOf 67 = .ok (.iload_n 1, 1) := by decide +kernel
theorem dX10_aboutOf_68 : decode cX10_aboutOf 68 = .ok (.invokevirtual 201, 3) := by decide +kernel
theorem dX10_aboutOf_71 : decode cX10_aboutOf 71 = .ok (.ireturn, 1) := by decide +kernel
theorem dX10_about_0 : decode cX10_about 0 = .ok (.aload_n 0, 1) := by decide +kernel
theorem dX10_about_1 : decode cX10_about 1 = .ok (.iload_n 1, 1) := by decide +kernel
theorem dX10_about_2 : decode cX10_about 2 = .ok (.invokevirtual 184, 3) := by decide +kernel
theorem dX10_about_5 : decode cX10_about 5 = .ok (.ifCond .ne 15, 3) := by decide +kernel
theorem dX10_about_8 : decode cX10_about 8 = .ok (.iload_n 2, 1) := by decide +kernel
theorem dX10_about_9 : decode cX10_about 9 = .ok (.i2l, 1) := by decide +kernel
theorem dX10_about_10 : decode cX10_about 10 = .ok (.lconst 0, 1) := by decide +kernel
theorem dX10_about_11 : decode cX10_about 11 = .ok (.ldc2_w 208, 3) := by decide +kernel
theorem dX10_about_14 : decode cX10_about 14 = .ok (.invokestatic 126, 3) := by decide +kernel
theorem dX10_about_17 : decode cX10_about 17 = .ok (.ifCond .ne 8, 3) := by decide +kernel
theorem dX10_about_20 : decode cX10_about 20 = .ok (.bipush (-2), 2) := by decide +kernel
theorem dX10_about_22 : decode cX10_about 22 = .ok (.goto 9, 3) := by decide +kernel
theorem dX10_about_25 : decode cX10_about 25 = .ok (.aload_n 0, 1) := by decide +kernel
theorem dX10_about_26 : decode cX10_about 26 = .ok (.iload_n 1, 1) := by decide +kernel
theorem dX10_about_27 : decode cX10_about 27 = .ok (.iload_n 2, 1) := by decide +kernel
theorem dX10_about_28 : decode cX10_about 28 = .ok (.invokevirtual 210, 3) := by decide +kernel
theorem dX10_about_31 : decode cX10_about 31 = .ok (.ireturn, 1) := by decide +kernel
theorem dX10_pull_0 : decode cX10_pull 0 = .ok (.aload_n 0, 1) := by decide +kernel
theorem dX10_pull_1 : decode cX10_pull 1 = .ok (.iload_n 1, 1) := by decide +kernel
theorem dX10_pull_2 : decode cX10_pull 2 = .ok (.invokevirtual 184, 3) := by decide +kernel
theorem dX10_pull_5 : decode cX10_pull 5 = .ok (.ifCond .ne 10, 3) := by decide +kernel
theorem dX10_pull_8 : decode cX10_pull 8 = .ok (.iload_n 2, 1) := by decide +kernel
theorem dX10_pull_9 : decode cX10_pull 9 = .ok (.invokestatic 174, 3) := by decide +kernel
theorem dX10_pull_12 : decode cX10_pull 12 = .ok (.ifCond .ne 6, 3) := by decide +kernel
theorem dX10_pull_15 : decode cX10_pull 15 = .ok (.bipush (-2), 2) := by decide +kernel
theorem dX10_pull_17 : decode cX10_pull 17 = .ok (.ireturn, 1) := by decide +kernel
theorem dX10_pull_18 : decode cX10_pull 18 = .ok (.aload_n 0, 1) := by decide +kernel
theorem dX10_pull_19 : decode cX10_pull 19 = .ok (.getfield 45, 3) := by decide +kernel
theorem dX10_pull_22 : decode cX10_pull 22 = .ok (.iload_n 1, 1) := by decide +kernel
theorem dX10_pull_23 : decode cX10_pull 23 = .ok (.baload, 1) := by decide +kernel
theorem dX10_pull_24 : decode cX10_pull 24 = .ok (.ifCond .eq 8, 3) := by decide +kernel
theorem dX10_pull_27 : decode cX10_pull 27 = .ok (.bipush (-3), 2) := by decide +kernel
theorem dX10_pull_29 : decode cX10_pull 29 = .ok (.goto 12, 3) := by decide +kernel
theorem dX10_pull_32 : decode cX10_pull 32 = .ok (.aload_n 0, 1) := by decide +kernel
theorem dX10_pull_33 : decode cX10_pull 33 = .ok (.iload_n 1, 1) := by decide +kernel
theorem dX10_pull_34 : decode cX10_pull 34 = .ok (.iload_n 2, 1) := by decide +kernel
theorem dX10_pull_35 : decode cX10_pull 35 = .ok (.invokevirtual 187, 3) := by decide +kernel
theorem dX10_pull_38 : decode cX10_pull 38 = .ok (.invokestatic 204, 3) := by decide +kernel
theorem dX10_pull_41 : decode cX10_pull 41 = .ok (.ireturn, 1) := by decide +kernel
theorem dX10_load_0 : decode cX10_load 0 = .ok (.iload_n 1, 1) := by decide +kernel
theorem dX10_load_1 : decode cX10_load 1 = .ok (.invokestatic 174, 3) := by decide +kernel
theorem dX10_load_4 : decode cX10_load 4 = .ok (.ifCond .ne 6, 3) := by decide +kernel
theorem dX10_load_7 : decode cX10_load 7 = .ok (.bipush (-2), 2) := by decide +kernel
theorem dX10_load_9 : decode cX10_load 9 = .ok (.ireturn, 1) := by decide +kernel
theorem dX10_load_10 : decode cX10_load 10 = .ok (.aload_n 0, 1) := by decide +kernel
theorem dX10_load_11 : decode cX10_load 11 = .ok (.getfield 214, 3) := by decide +kernel
theorem dX10_load_14 : decode cX10_load 14 = .ok (.bipush 12, 2) := by decide +kernel
theorem dX10_load_16 : decode cX10_load 16 = .ok (.if_icmp .ne 6, 3) := by decide +kernel
theorem dX10_load_19 : decode cX10_load 19 = .ok (.bipush (-4), 2) := by decide +kernel
theorem dX10_load_21 : decode cX10_load 21 = .ok (.ireturn, 1) := by decide +kernel
theorem dX10_load_22 : decode cX10_load 22 = .ok (.aload_n 0, 1) := by decide +kernel
theorem dX10_load_23 : decode cX10_load 23 = .ok (.getfield 48, 3) := by decide +kernel
theorem dX10_load_26 : decode cX10_load 26 = .ok (.aload_n 0, 1) := by decide +kernel
theorem dX10_load_27 : decode cX10_load 27 = .ok (.getfield 214, 3) := by decide +kernel
theorem dX10_load_30 : decode cX10_load 30 = .ok (.iload_n 1, 1) := by decide +kernel
theorem dX10_load_31 : decode cX10_load 31 = .ok (.iastore, 1) := by decide +kernel
theorem dX10_load_32 : decode cX10_load 32 = .ok (.aload_n 0, 1) := by decide +kernel
theorem dX10_load_33 : decode cX10_load 33 = .ok (.dup, 1) := by decide +kernel
theorem dX10_load_34 : decode cX10_load 34 = .ok (.getfield 214, 3) := by decide +kernel
theorem dX10_load_37 : decode cX10_load 37 = .ok (.iconst 1, 1) := by decide +kernel
theorem dX10_load_38 : decode cX10_load 38 = .ok (.iadd, 1) := by decide +kernel
theorem dX10_load_39 : decode cX10_load 39 = .ok (.putfield 214, 3) := by decide +kernel
theorem dX10_load_42 : decode cX10_load 42 = .ok (.aload_n 0, 1) := by decide +kernel
theorem dX10_load_43 : decode cX10_load 43 = .ok (.getfield 214, 3) := by decide +kernel
theorem dX10_load_46 : decode cX10_load 46 = .ok (.ireturn, 1) := by decide +kernel
theorem dX10_clear_0 : decode cX10_clear 0 = .ok (.aload_n 0, 1) := by decide +kernel
theorem dX10_clear_1 : decode cX10_clear 1 = .ok (.getfield 214, 3) := by decide +kernel
theorem dX10_clear_4 : decode cX10_clear 4 = .ok (.istore_n 1, 1) := by decide +kernel
theorem dX10_clear_5 : decode cX10_clear 5 = .ok (.aload_n 0, 1) := by decide +kernel
theorem dX10_clear_6 : decode cX10_clear 6 = .ok (.iconst 0, 1) := by decide +kernel
theorem dX10_clear_7 : decode cX10_clear 7 = .ok (.putfield 214, 3) := by decide +kernel
theorem dX10_clear_10 : decode cX10_clear 10 = .ok (.iload_n 1, 1) := by decide +kernel
theorem dX10_clear_11 : decode cX10_clear 11 = .ok (.ireturn, 1) := by decide +kernel
theorem dX10_partsAt_0 : decode cX10_partsAt 0 = .ok (.aload_n 0, 1) := by decide +kernel
theorem dX10_partsAt_1 : decode cX10_partsAt 1 = .ok (.bipush 6, 2) := by decide +kernel
theorem dX10_partsAt_3 : decode cX10_partsAt 3 = .ok (.iload_n 1, 1) := by decide +kernel
theorem dX10_partsAt_4 : decode cX10_partsAt 4 = .ok (.invokevirtual 197, 3) := by decide +kernel
theorem dX10_partsAt_7 : decode cX10_partsAt 7 = .ok (.iconst 0, 1) := by decide +kernel
theorem dX10_partsAt_8 : decode cX10_partsAt 8 = .ok (.istore_n 3, 1) := by decide +kernel
theorem dX10_partsAt_9 : decode cX10_partsAt 9 = .ok (.iload_n 3, 1) := by decide +kernel
theorem dX10_partsAt_10 : decode cX10_partsAt 10 = .ok (.aload_n 0, 1) := by decide +kernel
theorem dX10_partsAt_11 : decode cX10_partsAt 11 = .ok (.getfield 214, 3) := by decide +kernel
theorem dX10_partsAt_14 : decode cX10_partsAt 14 = .ok (.if_icmp .ge 34, 3) := by decide +kernel
theorem dX10_partsAt_17 : decode cX10_partsAt 17 = .ok (.aload_n 0, 1) := by decide +kernel
theorem dX10_partsAt_18 : decode cX10_partsAt 18 = .ok (.bipush 6, 2) := by decide +kernel
theorem dX10_partsAt_20 : decode cX10_partsAt 20 = .ok (.aload_n 0, 1) := by decide +kernel
theorem dX10_partsAt_21 : decode cX10_partsAt 21 = .ok (.getfield 48, 3) := by decide +kernel
theorem dX10_partsAt_24 : decode cX10_partsAt 24 = .ok (.iload_n 3, 1) := by decide +kernel
theorem dX10_partsAt_25 : decode cX10_partsAt 25 = .ok (.iaload, 1) := by decide +kernel
theorem dX10_partsAt_26 : decode cX10_partsAt 26 = .ok (.iconst 1, 1) := by decide +kernel
theorem dX10_partsAt_27 : decode cX10_partsAt 27 = .ok (.iload_n 2, 1) := by decide +kernel
theorem dX10_partsAt_28 : decode cX10_partsAt 28 = .ok (.iload_n 3, 1) := by decide +kernel
theorem dX10_partsAt_29 : decode cX10_partsAt 29 = .ok (.ishr, 1) := by decide +kernel
theorem dX10_partsAt_30 : decode cX10_partsAt 30 = .ok (.iconst 1, 1) := by decide +kernel
theorem dX10_partsAt_31 : decode cX10_partsAt 31 = .ok (.iand, 1) := by decide +kernel
theorem dX10_partsAt_32 : decode cX10_partsAt 32 = .ok (.iadd, 1) := by decide +kernel
theorem dX10_partsAt_33 : decode cX10_partsAt 33 = .ok (.imul, 1) := by decide +kernel
theorem dX10_partsAt_34 : decode cX10_partsAt 34 = .ok (.invokevirtual 187, 3) := by decide +kernel
theorem dX10_partsAt_37 : decode cX10_partsAt 37 = .ok (.ifCond .ne 5, 3) := by decide +kernel
theorem dX10_partsAt_40 : decode cX10_partsAt 40 = .ok (.iload_n 3, 1) := by decide +kernel
theorem dX10_partsAt_41 : decode cX10_partsAt 41 = .ok (.ireturn, 1) := by decide +kernel
theorem dX10_partsAt_42 : decode cX10_partsAt 42 = .ok (.iinc 3 1, 3) := by decide +kernel
theorem dX10_partsAt_45 : decode cX10_partsAt 45 = .ok (.goto (-36), 3) := by decide +kernel
theorem dX10_partsAt_48 : decode cX10_partsAt 48 = .ok (.iconst (-1), 1) := by decide +kernel
theorem dX10_partsAt_49 : decode cX10_partsAt 49 = .ok (.ireturn, 1) := by decide +kernel
theorem dX10_bears_0 : decode cX10_bears 0 = .ok (.iload_n 1, 1) := by decide +kernel
theorem dX10_bears_1 : decode cX10_bears 1 = .ok (.invokestatic 194, 3) := by decide +kernel
theorem dX10_bears_4 : decode cX10_bears 4 = .ok (.ifCond .eq 12, 3) := by decide +kernel
theorem dX10_bears_7 : decode cX10_bears 7 = .ok (.aload_n 0, 1) := by decide +kernel
theorem dX10_bears_8 : decode cX10_bears 8 = .ok (.iload_n 1, 1) := by decide +kernel
theorem dX10_bears_9 : decode cX10_bears 9 = .ok (.iconst 0, 1) := by decide +kernel
theorem dX10_bears_10 : decode cX10_bears 10 = .ok (.invokevirtual 217, 3) := by decide +kernel
theorem dX10_bears_13 : decode cX10_bears 13 = .ok (.goto 5, 3) := by decide +kernel
theorem dX10_bears_16 : decode cX10_bears 16 = .ok (.bipush (-2), 2) := by decide +kernel
theorem dX10_bears_18 : decode cX10_bears 18 = .ok (.ireturn, 1) := by decide +kernel
theorem dX10_blamed_0 : decode cX10_blamed 0 = .ok (.iload_n 1, 1) := by decide +kernel
theorem dX10_blamed_1 : decode cX10_blamed 1 = .ok (.invokestatic 194, 3) := by decide +kernel
theorem dX10_blamed_4 : decode cX10_blamed 4 = .ok (.ifCond .eq 19, 3) := by decide +kernel
theorem dX10_blamed_7 : decode cX10_blamed 7 = .ok (.iload_n 2, 1) := by decide +kernel
theorem dX10_blamed_8 : decode cX10_blamed 8 = .ok (.i2l, 1) := by decide +kernel
theorem dX10_blamed_9 : decode cX10_blamed 9 = .ok (.lconst 0, 1) := by decide +kernel
theorem dX10_blamed_10 : decode cX10_blamed 10 = .ok (.aload_n 0, 1) := by decide +kernel
theorem dX10_blamed_11 : decode cX10_blamed 11 = .ok (.getfield 214, 3) := by decide +kernel
theorem dX10_blamed_14 : decode cX10_blamed 14 = .ok (.iconst 1, 1) := by decide +kernel
theorem dX10_blamed_15 : decode cX10_blamed 15 = .ok (.isub, 1) := by decide +kernel
theorem dX10_blamed_16 : decode cX10_blamed 16 = .ok (.i2l, 1) := by decide +kernel
theorem dX10_blamed_17 : decode cX10_blamed 17 = .ok (.invokestatic 126, 3) := by decide +kernel
theorem dX10_blamed_20 : decode cX10_blamed 20 = .ok (.ifCond .ne 6, 3) := by decide +kernel
theorem dX10_blamed_23 : decode cX10_blamed 23 = .ok (.bipush (-2), 2) := by decide +kernel
theorem dX10_blamed_25 : decode cX10_blamed 25 = .ok (.ireturn, 1) := by decide +kernel
theorem dX10_blamed_26 : decode cX10_blamed 26 = .ok (.aload_n 0, 1) := by decide +kernel
theorem dX10_blamed_27 : decode cX10_blamed 27 = .ok (.iload_n 1, 1) := by decide +kernel
theorem dX10_blamed_28 : decode cX10_blamed 28 = .ok (.iconst 0, 1) := by decide +kernel
theorem dX10_blamed_29 : decode cX10_blamed 29 = .ok (.invokevirtual 217, 3) := by decide +kernel
theorem dX10_blamed_32 : decode cX10_blamed 32 = .ok (.istore_n 3, 1) := by decide +kernel
theorem dX10_blamed_33 : decode cX10_blamed 33 = .ok (.iload_n 3, 1) := by decide +kernel
theorem dX10_blamed_34 : decode cX10_blamed 34 = .ok (.ifCond .lt 11, 3) := by decide +kernel
theorem dX10_blamed_37 : decode cX10_blamed 37 = .ok (.iload_n 3, 1) := by decide +kernel
theorem dX10_blamed_38 : decode cX10_blamed 38 = .ok (.iload_n 2, 1) := by decide +kernel
theorem dX10_blamed_39 : decode cX10_blamed 39 = .ok (.if_icmp .gt 6, 3) := by decide +kernel
theorem dX10_blamed_42 : decode cX10_blamed 42 = .ok (.bipush (-3), 2) := by decide +kernel
theorem dX10_blamed_44 : decode cX10_blamed 44 = .ok (.ireturn, 1) := by decide +kernel
theorem dX10_blamed_45 : decode cX10_blamed 45 = .ok (.iconst (-1), 1) := by decide +kernel
theorem dX10_blamed_46 : decode cX10_blamed 46 = .ok (.istore 4, 2) := by decide +kernel
theorem dX10_blamed_48 : decode cX10_blamed 48 = .ok (.iconst 1, 1) := by decide +kernel
theorem dX10_blamed_49 : decode cX10_blamed 49 = .ok (.istore 5, 2) := by decide +kernel
theorem dX10_blamed_51 : decode cX10_blamed 51 = .ok (.iload 5, 2) := by decide +kernel
theorem dX10_blamed_53 : decode cX10_blamed 53 = .ok (.iconst 1, 1) := by decide +kernel
theorem dX10_blamed_54 : decode cX10_blamed 54 = .ok (.iload_n 2, 1) := by decide +kernel
theorem dX10_blamed_55 : decode cX10_blamed 55 = .ok (.iconst 1, 1) := by decide +kernel
theorem dX10_blamed_56 : decode cX10_blamed 56 = .ok (.iadd, 1) := by decide +kernel
theorem dX10_blamed_57 : decode cX10_blamed 57 = .ok (.ishl, 1) := by decide +kernel
theorem dX10_blamed_58 : decode cX10_blamed 58 = .ok (.if_icmp .ge 42, 3) := by decide +kernel
theorem dX10_blamed_61 : decode cX10_blamed 61 = .ok (.iload 4, 2) := by decide +kernel
theorem dX10_blamed_63 : decode cX10_blamed 63 = .ok (.ifCond .lt 16, 3) := by decide +kernel
theorem dX10_blamed_66 : decode cX10_blamed 66 = .ok (.iload 5, 2) := by decide +kernel
theorem dX10_blamed_68 : decode cX10_blamed 68 = .ok (.invokestatic 181, 3) := by decide +kernel
theorem dX10_blamed_71 : decode cX10_blamed 71 = .ok (.iload 4, 2) := by decide +kernel
theorem dX10_blamed_73 : decode cX10_blamed 73 = .ok (.invokestatic 181, 3) := by decide +kernel
theorem dX10_blamed_76 : decode cX10_blamed 76 = .ok (.if_icmp .ge 18, 3) := by decide +kernel
theorem dX10_blamed_79 : decode cX10_blamed 79 = .ok (.aload_n 0, 1) := by decide +kernel
theorem dX10_blamed_80 : decode cX10_blamed 80 = .ok (.iload_n 1, 1) := by decide +kernel
theorem dX10_blamed_81 : decode cX10_blamed 81 = .ok (.iload 5, 2) := by decide +kernel
theorem dX10_blamed_83 : decode cX10_blamed 83 = .ok (.invokevirtual 217, 3) := by decide +kernel
theorem dX10_blamed_86 : decode cX10_blamed 86 = .ok (.iload_n 2, 1) := by decide +kernel
theorem dX10_blamed_87 : decode cX10_blamed 87 = .ok (.if_icmp .ne 7, 3) := by decide +kernel
theorem dX10_blamed_90 : decode cX10_blamed 90 = .ok (.iload 5, 2) := by decide +kernel
theorem dX10_blamed_92 : decode cX10_blamed 92 = .ok (.istore 4, 2) := by decide +kernel
theorem dX10_blamed_94 : decode cX10_blamed 94 = .ok (.iinc 5 1, 3) := by decide +kernel
theorem dX10_blamed_97 : decode cX10_blamed 97 = .ok (.goto (-46), 3) := by decide +kernel
theorem dX10_blamed_100 : decode cX10_blamed 100 = .ok (.iload 4, 2) := by decide +kernel
theorem dX10_blamed_102 : decode cX10_blamed 102 = .ok (.ireturn, 1) := by decide +kernel
theorem dX10_stone_0 : decode cX10_stone 0 = .ok (.iload_n 1, 1) := by decide +kernel
theorem dX10_stone_1 : decode cX10_stone 1 = .ok (.i2l, 1) := by decide +kernel
theorem dX10_stone_2 : decode cX10_stone 2 = .ok (.lconst 0, 1) := by decide +kernel
theorem dX10_stone_3 : decode cX10_stone 3 = .ok (.ldc2_w 220, 3) := by decide +kernel
theorem dX10_stone_6 : decode cX10_stone 6 = .ok (.invokestatic 126, 3) := by decide +kernel
theorem dX10_stone_9 : decode cX10_stone 9 = .ok (.ifCond .eq 46, 3) := by decide +kernel
theorem dX10_stone_12 : decode cX10_stone 12 = .ok (.iload_n 2, 1) := by decide +kernel
theorem dX10_stone_13 : decode cX10_stone 13 = .ok (.i2l, 1) := by decide +kernel
theorem dX10_stone_14 : decode cX10_stone 14 = .ok (.lconst 0, 1) := by decide +kernel
theorem dX10_stone_15 : decode cX10_stone 15 = .ok (.ldc2_w 222, 3) := by decide +kernel
theorem dX10_stone_18 : decode cX10_stone 18 = .ok (.invokestatic 126, 3) := by decide +kernel
theorem dX10_stone_21 : decode cX10_stone 21 = .ok (.ifCond .eq 34, 3) := by decide +kernel
theorem dX10_stone_24 : decode cX10_stone 24 = .ok (.iload_n 3, 1) := by decide +kernel
theorem dX10_stone_25 : decode cX10_stone 25 = .ok (.i2l, 1) := by decide +kernel
theorem dX10_stone_26 : decode cX10_stone 26 = .ok (.lconst 1, 1) := by decide +kernel
theorem dX10_stone_27 : decode cX10_stone 27 = .ok (.ldc2_w 222, 3) := by decide +kernel
theorem dX10_stone_30 : decode cX10_stone 30 = .ok (.invokestatic 126, 3) := by decide +kernel
theorem dX10_stone_33 : decode cX10_stone 33 = .ok (.ifCond .eq 22, 3) := by decide +kernel
theorem dX10_stone_36 : decode cX10_stone 36 = .ok (.iload 4, 2) := by decide +kernel
theorem dX10_stone_38 : decode cX10_stone 38 = .ok (.i2l, 1) := by decide +kernel
theorem dX10_stone_39 : decode cX10_stone 39 = .ok (.lconst 0, 1) := by decide +kernel
theorem dX10_stone_40 : decode cX10_stone 40 = .ok (.iconst 1, 1) := by decide +kernel
theorem dX10_stone_41 : decode cX10_stone 41 = .ok (.aload_n 0, 1) := by decide +kernel
theorem dX10_stone_42 : decode cX10_stone 42 = .ok (.getfield 224, 3) := by decide +kernel
theorem dX10_stone_45 : decode cX10_stone 45 = .ok (.ishl, 1) := by decide +kernel
theorem dX10_stone_46 : decode cX10_stone 46 = .ok (.iconst 1, 1) := by decide +kernel
theorem dX10_stone_47 : decode cX10_stone 47 = .ok (.isub, 1) := by decide +kernel
theorem dX10_stone_48 : decode cX10_stone 48 = .ok (.i2l, 1) := by decide +kernel
theorem dX10_stone_49 : decode cX10_stone 49 = .ok (.invokestatic 126, 3) := by decide +kernel
theorem dX10_stone_52 : decode cX10_stone 52 = .ok (.ifCond .ne 6, 3) := by decide +kernel
theorem dX10_stone_55 : decode cX10_stone 55 = .ok (.bipush (-2), 2) := by decide +kernel
theorem dX10_stone_57 : decode cX10_stone 57 = .ok (.ireturn, 1) := by decide +kernel
theorem dX10_stone_58 : decode cX10_stone 58 = .ok (.aload_n 0, 1) := by decide +kernel
theorem dX10_stone_59 : decode cX10_stone 59 = .ok (.getfield 224, 3) := by decide +kernel
theorem dX10_stone_62 : decode cX10_stone 62 = .ok (.bipush 14, 2) := by decide +kernel
theorem dX10_stone_64 : decode cX10_stone 64 = .ok (.if_icmp .ne 6, 3) := by decide +kernel
theorem dX10_stone_67 : decode cX10_stone 67 = .ok (.bipush (-4), 2) := by decide +kernel
theorem dX10_stone_69 : decode cX10_stone 69 = .ok (.ireturn, 1) := by decide +kernel
theorem dX10_stone_70 : decode cX10_stone 70 = .ok (.aload_n 0, 1) := by decide +kernel
theorem dX10_stone_71 : decode cX10_stone 71 = .ok (.getfield 51, 3) := by decide +kernel
theorem dX10_stone_74 : decode cX10_stone 74 = .ok (.aload_n 0, 1) := by decide +kernel
theorem dX10_stone_75 : decode cX10_stone 75 = .ok (.getfield 224, 3) := by decide +kernel
theorem dX10_stone_78 : decode cX10_stone 78 = .ok (.iload_n 1, 1) := by decide +kernel
theorem dX10_stone_79 : decode cX10_stone 79 = .ok (.iastore, 1) := by decide +kernel
theorem dX10_stone_80 : decode cX10_stone 80 = .ok (.aload_n 0, 1) := by decide +kernel
theorem dX10_stone_81 : decode cX10_stone 81 = .ok (.getfield 54, 3) := by decide +kernel
theorem dX10_stone_84 : decode cX10_stone 84 = .ok (.aload_n 0, 1) := by decide +kernel
theorem dX10_stone_85 : decode cX10_stone 85 = .ok (.getfield 224, 3) := by decide +kernel
theorem dX10_stone_88 : decode cX10_stone 88 = .ok (.iload_n 2, 1) := by decide +kernel
theorem dX10_stone_89 : decode cX10_stone 89 = .ok (.iastore, 1) := by decide +kernel
theorem dX10_stone_90 : decode cX10_stone 90 = .ok (.aload_n 0, 1) := by decide +kernel
theorem dX10_stone_91 : decode cX10_stone 91 = .ok (.getfield 57, 3) := by decide +kernel
theorem dX10_stone_94 : decode cX10_stone 94 = .ok (.aload_n 0, 1) := by decide +kernel
theorem dX10_stone_95 : decode cX10_stone 95 = .ok (.getfield 224, 3) := by decide +kernel
theorem dX10_stone_98 : decode cX10_stone 98 = .ok (.iload_n 3, 1) := by decide +kernel
theorem dX10_stone_99 : decode cX10_stone 99 = .ok (.iastore, 1) := by decide +kernel
theorem dX10_stone_100 : decode cX10_stone 100 = .ok (.aload_n 0, 1) := by decide +kernel
theorem dX10_stone_101 : decode cX10_stone 101 = .ok (.getfield 60, 3) := by decide +kernel
theorem dX10_stone_104 : decode cX10_stone 104 = .ok (.aload_n 0, 1) := by decide +kernel
theorem dX10_stone_105 : decode cX10_stone 105 = .ok (.getfield 224, 3) := by decide +kernel
theorem dX10_stone_108 : decode cX10_stone 108 = .ok (.iload 4, 2) := by decide +kernel
theorem dX10_stone_110 : decode cX10_stone 110 = .ok (.iastore, 1) := by decide +kernel
theorem dX10_stone_111 : decode cX10_stone 111 = .ok (.aload_n 0, 1) := by decide +kernel
theorem dX10_stone_112 : decode cX10_stone 112 = .ok (.getfield 63, 3) := by decide +kernel
theorem dX10_stone_115 : decode cX10_stone 115 = .ok (.aload_n 0, 1) := by decide +kernel
theorem dX10_stone_116 : decode cX10_stone 116 = .ok (.getfield 224, 3) := by decide +kernel
theorem dX10_stone_119 : decode cX10_stone 119 = .ok (.iconst (-1), 1) := by decide +kernel
theorem dX10_stone_120 : decode cX10_stone 120 = .ok (.iastore, 1) := by decide +kernel
theorem dX10_stone_121 : decode cX10_stone 121 = .ok (.aload_n 0, 1) := by decide +kernel
theorem dX10_stone_122 : decode cX10_stone 122 = .ok (.dup, 1) := by decide +kernel
theorem dX10_stone_123 : decode cX10_stone 123 = .ok (.getfield 224, 3) := by decide +kernel
theorem dX10_stone_126 : decode cX10_stone 126 = .ok (.iconst 1, 1) := by decide +kernel
theorem dX10_stone_127 : decode cX10_stone 127 = .ok (.iadd, 1) := by decide +kernel
theorem dX10_stone_128 : decode cX10_stone 128 = .ok (.putfield 224, 3) := by decide +kernel
theorem dX10_stone_131 : decode cX10_stone 131 = .ok (.aload_n 0, 1) := by decide +kernel
theorem dX10_stone_132 : decode cX10_stone 132 = .ok (.iconst 0, 1) := by decide +kernel
theorem dX10_stone_133 : decode cX10_stone 133 = .ok (.putfield 227, 3) := by decide +kernel
theorem dX10_stone_136 : decode cX10_stone 136 = .ok (.aload_n 0, 1) := by decide +kernel
theorem dX10_stone_137 : decode cX10_stone 137 = .ok (.getfield 224, 3) := by decide +kernel
theorem dX10_stone_140 : decode cX10_stone 140 = .ok (.iconst 1, 1) := by decide +kernel
theorem dX10_stone_141 : decode cX10_stone 141 = .ok (.isub, 1) := by decide +kernel
theorem dX10_stone_142 : decode cX10_stone 142 = .ok (.ireturn, 1) := by decide +kernel
theorem dX10_noStone_0 : decode cX10_noStone 0 = .ok (.iload_n 1, 1) := by decide +kernel
theorem dX10_noStone_1 : decode cX10_noStone 1 = .ok (.i2l, 1) := by decide +kernel
theorem dX10_noStone_2 : decode cX10_noStone 2 = .ok (.lconst 0, 1) := by decide +kernel
theorem dX10_noStone_3 : decode cX10_noStone 3 = .ok (.aload_n 0, 1) := by decide +kernel
theorem dX10_noStone_4 : decode cX10_noStone 4 = .ok (.getfield 224, 3) := by decide +kernel
theorem dX10_noStone_7 : decode cX10_noStone 7 = .ok (.iconst 1, 1) := by decide +kernel
theorem dX10_noStone_8 : decode cX10_noStone 8 = .ok (.isub, 1) := by decide +kernel
theorem dX10_noStone_9 : decode cX10_noStone 9 = .ok (.i2l, 1) := by decide +kernel
theorem dX10_noStone_10 : decode cX10_noStone 10 = .ok (.invokestatic 126, 3) := by decide +kernel
theorem dX10_noStone_13 : decode cX10_noStone 13 = .ok (.ifCond .ne 7, 3) := by decide +kernel
theorem dX10_noStone_16 : decode cX10_noStone 16 = .ok (.iconst 1, 1) := by decide +kernel
theorem dX10_noStone_17 : decode cX10_noStone 17 = .ok (.goto 4, 3) := by decide +kernel
theorem dX10_noStone_20 : decode cX10_noStone 20 = .ok (.iconst 0, 1) := by decide +kernel
theorem dX10_noStone_21 : decode cX10_noStone 21 = .ok (.ireturn, 1) := by decide +kernel
theorem dX10_arched_0 : decode cX10_arched 0 = .ok (.aload_n 0, 1) := by decide +kernel
theorem dX10_arched_1 : decode cX10_arched 1 = .ok (.iload_n 1, 1) := by decide +kernel
theorem dX10_arched_2 : decode cX10_arched 2 = .ok (.invokevirtual 231, 3) := by decide +kernel
theorem dX10_arched_5 : decode cX10_arched 5 = .ok (.ifCond .ne 16, 3) := by decide +kernel
theorem dX10_arched_8 : decode cX10_arched 8 = .ok (.aload_n 0, 1) := by decide +kernel
theorem dX10_arched_9 : decode cX10_arched 9 = .ok (.iload_n 2, 1) := by decide +kernel
theorem dX10_arched_10 : decode cX10_arched 10 = .ok (.invokevirtual 231, 3) := by decide +kernel
theorem dX10_arched_13 : decode cX10_arched 13 = .ok (.ifCond .ne 8, 3) := by decide +kernel
theorem dX10_arched_16 : decode cX10_arched 16 = .ok (.iload_n 1, 1) := by decide +kernel
theorem dX10_arched_17 : decode cX10_arched 17 = .ok (.iload_n 2, 1) := by decide +kernel
theorem dX10_arched_18 : decode cX10_arched 18 = .ok (.if_icmp .ne 6, 3) := by decide +kernel
theorem dX10_arched_21 : decode cX10_arched 21 = .ok (.bipush (-2), 2) := by decide +kernel
theorem dX10_arched_23 : decode cX10_arched 23 = .ok (.ireturn, 1) := by decide +kernel
theorem dX10_arched_24 : decode cX10_arched 24 = .ok (.aload_n 0, 1) := by decide +kernel
theorem dX10_arched_25 : decode cX10_arched 25 = .ok (.getfield 63, 3) := by decide +kernel
theorem dX10_arched_28 : decode cX10_arched 28 = .ok (.iload_n 1, 1) := by decide +kernel
theorem dX10_arched_29 : decode cX10_arched 29 = .ok (.iaload, 1) := by decide +kernel
theorem dX10_arched_30 : decode cX10_arched 30 = .ok (.ifCond .lt 6, 3) := by decide +kernel
theorem dX10_arched_33 : decode cX10_arched 33 = .ok (.bipush (-3), 2) := by decide +kernel
theorem dX10_arched_35 : decode cX10_arched 35 = .ok (.ireturn, 1) := by decide +kernel
theorem dX10_arched_36 : decode cX10_arched 36 = .ok (.aload_n 0, 1) := by decide +kernel
theorem dX10_arched_37 : decode cX10_arched 37 = .ok (.getfield 63, 3) := by decide +kernel
theorem dX10_arched_40 : decode cX10_arched 40 = .ok (.iload_n 1, 1) := by decide +kernel
theorem dX10_arched_41 : decode cX10_arched 41 = .ok (.iload_n 2, 1) := by decide +kernel
theorem dX10_arched_42 : decode cX10_arched 42 = .ok (.iastore, 1) := by decide +kernel
theorem dX10_arched_43 : decode cX10_arched 43 = .ok (.aload_n 0, 1) := by decide +kernel
theorem dX10_arched_44 : decode cX10_arched 44 = .ok (.iconst 0, 1) := by decide +kernel
theorem dX10_arched_45 : decode cX10_arched 45 = .ok (.putfield 227, 3) := by decide +kernel
theorem dX10_arched_48 : decode cX10_arched 48 = .ok (.iconst 1, 1) := by decide +kernel
theorem dX10_arched_49 : decode cX10_arched 49 = .ok (.ireturn, 1) := by decide +kernel
theorem dX10_centrings_0 : decode cX10_centrings 0 = .ok (.iload_n 1, 1) := by decide +kernel
theorem dX10_centrings_1 : decode cX10_centrings 1 = .ok (.i2l, 1) := by decide +kernel
theorem dX10_centrings_2 : decode cX10_centrings 2 = .ok (.lconst 0, 1) := by decide +kernel
theorem dX10_centrings_3 : decode cX10_centrings 3 = .ok (.ldc2_w 234, 3) := by decide +kernel
theorem dX10_centrings_6 : decode cX10_centrings 6 = .ok (.invokestatic 126, 3) := by decide +kernel
theorem dX10_centrings_9 : decode cX10_centrings 9 = .ok (.ifCond .ne 6, 3) := by decide +kernel
theorem dX10_centrings_12 : decode cX10_centrings 12 = .ok (.bipush (-2), 2) := by decide +kernel
theorem dX10_centrings_14 : decode cX10_centrings 14 = .ok (.ireturn, 1) := by decide +kernel
theorem dX10_centrings_15 : decode cX10_centrings 15 = .ok (.aload_n 0, 1) := by decide +kernel
theorem dX10_centrings_16 : decode cX10_centrings 16 = .ok (.getfield 66, 3) := by decide +kernel
theorem dX10_centrings_19 : decode cX10_centrings 19 = .ok (.istore_n 2, 1) := by decide +kernel
theorem dX10_centrings_20 : decode cX10_centrings 20 = .ok (.aload_n 0, 1) := by decide +kernel
theorem dX10_centrings_21 : decode cX10_centrings 21 = .ok (.iload_n 1, 1) := by decide +kernel
theorem dX10_centrings_22 : decode cX10_centrings 22 = .ok (.putfield 66, 3) := by decide +kernel
theorem dX10_centrings_25 : decode cX10_centrings 25 = .ok (.aload_n 0, 1) := by decide +kernel
theorem dX10_centrings_26 : decode cX10_centrings 26 = .ok (.iconst 0, 1) := by decide +kernel
theorem dX10_centrings_27 : decode cX10_centrings 27 = .ok (.putfield 227, 3) := by decide +kernel
theorem dX10_centrings_30 : decode cX10_centrings 30 = .ok (.iload_n 2, 1) := by decide +kernel
theorem dX10_centrings_31 : decode cX10_centrings 31 = .ok (.ireturn, 1) := by decide +kernel
theorem dX10_noStand_0 : decode cX10_noStand 0 = .ok (.iload_n 1, 1) := by decide +kernel
theorem dX10_noStand_1 : decode cX10_noStand 1 = .ok (.i2l, 1) := by decide +kernel
theorem dX10_noStand_2 : decode cX10_noStand 2 = .ok (.lconst 0, 1) := by decide +kernel
theorem dX10_noStand_3 : decode cX10_noStand 3 = .ok (.aload_n 0, 1) := by decide +kernel
theorem dX10_noStand_4 : decode cX10_noStand 4 = .ok (.getfield 236, 3) := by decide +kernel
theorem dX10_noStand_7 : decode cX10_noStand 7 = .ok (.iconst 1, 1) := by decide +kernel
theorem dX10_noStand_8 : decode cX10_noStand 8 = .ok (.isub, 1) := by decide +kernel
theorem dX10_noStand_9 : decode cX10_noStand 9 = .ok (.i2l, 1) := by decide +kernel
theorem dX10_noStand_10 : decode cX10_noStand 10 = .ok (.invokestatic 126, 3) := by decide +kernel
theorem dX10_noStand_13 : decode cX10_noStand 13 = .ok (.ifCond .ne 7, 3) := by decide +kernel
theorem dX10_noStand_16 : decode cX10_noStand 16 = .ok (.iconst 1, 1) := by decide +kernel
theorem dX10_noStand_17 : decode cX10_noStand 17 = .ok (.goto 4, 3) := by decide +kernel
theorem dX10_noStand_20 : decode cX10_noStand 20 = .ok (.iconst 0, 1) := by decide +kernel
theorem dX10_noStand_21 : decode cX10_noStand 21 = .ok (.ireturn, 1) := by decide +kernel
theorem dX10_stand_0 : decode cX10_stand 0 = .ok (.iload_n 1, 1) := by decide +kernel
theorem dX10_stand_1 : decode cX10_stand 1 = .ok (.i2l, 1) := by decide +kernel
theorem dX10_stand_2 : decode cX10_stand 2 = .ok (.lconst 0, 1) := by decide +kernel
theorem dX10_stand_3 : decode cX10_stand 3 = .ok (.ldc2_w 220, 3) := by decide +kernel
theorem dX10_stand_6 : decode cX10_stand 6 = .ok (.invokestatic 126, 3) := by decide +kernel
theorem dX10_stand_9 : decode cX10_stand 9 = .ok (.ifCond .eq 27, 3) := by decide +kernel
theorem dX10_stand_12 : decode cX10_stand 12 = .ok (.iload_n 2, 1) := by decide +kernel
theorem dX10_stand_13 : decode cX10_stand 13 = .ok (.i2l, 1) := by decide +kernel
theorem dX10_stand_14 : decode cX10_stand 14 = .ok (.lconst 0, 1) := by decide +kernel
theorem dX10_stand_15 : decode cX10_stand 15 = .ok (.ldc2_w 222, 3) := by decide +kernel
theorem dX10_stand_18 : decode cX10_stand 18 = .ok (.invokestatic 126, 3) := by decide +kernel
theorem dX10_stand_21 : decode cX10_stand 21 = .ok (.ifCond .eq 15, 3) := by decide +kernel
theorem dX10_stand_24 : decode cX10_stand 24 = .ok (.iload_n 3, 1) := by decide +kernel
theorem dX10_stand_25 : decode cX10_stand 25 = .ok (.i2l, 1) := by decide +kernel
theorem dX10_stand_26 : decode cX10_stand 26 = .ok (.lconst 0, 1) := by decide +kernel
theorem dX10_stand_27 : decode cX10_stand 27 = .ok (.ldc2_w 239, 3) := by decide +kernel
theorem dX10_stand_30 : decode cX10_stand 30 = .ok (.invokestatic 126, 3) := by decide +kernel
theorem dX10_stand_33 : decode cX10_stand 33 = .ok (.ifCond .ne 6, 3) := by decide +kernel
theorem dX10_stand_36 : decode cX10_stand 36 = .ok (.bipush (-2), 2) := by decide +kernel
theorem dX10_stand_38 : decode cX10_stand 38 = .ok (.ireturn, 1) := by decide +kernel
theorem dX10_stand_39 : decode cX10_stand 39 = .ok (.aload_n 0, 1) := by decide +kernel
theorem dX10_stand_40 : decode cX10_stand 40 = .ok (.getfield 236, 3) := by decide +kernel
theorem dX10_stand_43 : decode cX10_stand 43 = .ok (.iconst 5, 1) := by decide +kernel
theorem dX10_stand_44 : decode cX10_stand 44 = .ok (.if_icmp .ne 6, 3) := by decide +kernel
theorem dX10_stand_47 : decode cX10_stand 47 = .ok (.bipush (-4), 2) := by decide +kernel
theorem dX10_stand_49 : decode cX10_stand 49 = .ok (.ireturn, 1) := by decide +kernel
theorem dX10_stand_50 : decode cX10_stand 50 = .ok (.aload_n 0, 1) := by decide +kernel
theorem dX10_stand_51 : decode cX10_stand 51 = .ok (.getfield 69, 3) := by decide +kernel
theorem dX10_stand_54 : decode cX10_stand 54 = .ok (.aload_n 0, 1) := by decide +kernel
theorem dX10_stand_55 : decode cX10_stand 55 = .ok (.getfield 236, 3) := by decide +kernel
theorem dX10_stand_58 : decode cX10_stand 58 = .ok (.iload_n 1, 1) := by decide +kernel
theorem dX10_stand_59 : decode cX10_stand 59 = .ok (.iastore, 1) := by decide +kernel
theorem dX10_stand_60 : decode cX10_stand 60 = .ok (.aload_n 0, 1) := by decide +kernel
theorem dX10_stand_61 : decode cX10_stand 61 = .ok (.getfield 72, 3) := by decide +kernel
theorem dX10_stand_64 : decode cX10_stand 64 = .ok (.aload_n 0, 1) := by decide +kernel
theorem dX10_stand_65 : decode cX10_stand 65 = .ok (.getfield 236, 3) := by decide +kernel
theorem dX10_stand_68 : decode cX10_stand 68 = .ok (.iload_n 2, 1) := by decide +kernel
theorem dX10_stand_69 : decode cX10_stand 69 = .ok (.iastore, 1) := by decide +kernel
theorem dX10_stand_70 : decode cX10_stand 70 = .ok (.aload_n 0, 1) := by decide +kernel
theorem dX10_stand_71 : decode cX10_stand 71 = .ok (.getfield 75, 3) := by decide +kernel
theorem dX10_stand_74 : decode cX10_stand 74 = .ok (.aload_n 0, 1) := by decide +kernel
theorem dX10_stand_75 : decode cX10_stand 75 = .ok (.getfield 236, 3) := by decide +kernel
theorem dX10_stand_78 : decode cX10_stand 78 = .ok (.iload_n 3, 1) := by decide +kernel
theorem dX10_stand_79 : decode cX10_stand 79 = .ok (.iastore, 1) := by decide +kernel
theorem dX10_stand_80 : decode cX10_stand 80 = .ok (.aload_n 0, 1) := by decide +kernel
theorem dX10_stand_81 : decode cX10_stand 81 = .ok (.dup, 1) := by decide +kernel
theorem dX10_stand_82 : decode cX10_stand 82 = .ok (.getfield 236, 3) := by decide +kernel
theorem dX10_stand_85 : decode cX10_stand 85 = .ok (.iconst 1, 1) := by decide +kernel
theorem dX10_stand_86 : decode cX10_stand 86 = .ok (.iadd, 1) := by decide +kernel
theorem dX10_stand_87 : decode cX10_stand 87 = .ok (.putfield 236, 3) := by decide +kernel
theorem dX10_stand_90 : decode cX10_stand 90 = .ok (.aload_n 0, 1) := by decide +kernel
theorem dX10_stand_91 : decode cX10_stand 91 = .ok (.iconst 0, 1) := by decide +kernel
theorem dX10_stand_92 : decode cX10_stand 92 = .ok (.putfield 227, 3) := by decide +kernel
theorem dX10_stand_95 : decode cX10_stand 95 = .ok (.aload_n 0, 1) := by decide +kernel
theorem dX10_stand_96 : decode cX10_stand 96 = .ok (.getfield 236, 3) := by decide +kernel
theorem dX10_stand_99 : decode cX10_stand 99 = .ok (.iconst 1, 1) := by decide +kernel
theorem dX10_stand_100 : decode cX10_stand 100 = .ok (.isub, 1) := by decide +kernel
theorem dX10_stand_101 : decode cX10_stand 101 = .ok (.ireturn, 1) := by decide +kernel
theorem dX10_price_0 : decode cX10_price 0 = .ok (.aload_n 0, 1) := by decide +kernel
theorem dX10_price_1 : decode cX10_price 1 = .ok (.iload_n 1, 1) := by decide +kernel
theorem dX10_price_2 : decode cX10_price 2 = .ok (.invokevirtual 241, 3) := by decide +kernel
theorem dX10_price_5 : decode cX10_price 5 = .ok (.ifCond .ne 28, 3) := by decide +kernel
theorem dX10_price_8 : decode cX10_price 8 = .ok (.aload_n 0, 1) := by decide +kernel
theorem dX10_price_9 : decode cX10_price 9 = .ok (.iload_n 2, 1) := by decide +kernel
theorem dX10_price_10 : decode cX10_price 10 = .ok (.invokevirtual 241, 3) := by decide +kernel
theorem dX10_price_13 : decode cX10_price 13 = .ok (.ifCond .ne 20, 3) := by decide +kernel
theorem dX10_price_16 : decode cX10_price 16 = .ok (.iload_n 1, 1) := by decide +kernel
theorem dX10_price_17 : decode cX10_price 17 = .ok (.iload_n 2, 1) := by decide +kernel
theorem dX10_price_18 : decode cX10_price 18 = .ok (.if_icmp .eq 15, 3) := by decide +kernel
theorem dX10_price_21 : decode cX10_price 21 = .ok (.iload_n 3, 1) := by decide +kernel
theorem dX10_price_22 : decode cX10_price 22 = .ok (.i2l, 1) := by decide +kernel
theorem dX10_price_23 : decode cX10_price 23 = .ok (.lconst 1, 1) := by decide +kernel
theorem dX10_price_24 : decode cX10_price 24 = .ok (.ldc2_w 122, 3) := by decide +kernel
theorem dX10_price_27 : decode cX10_price 27 = .ok (.invokestatic 126, 3) := by decide +kernel
theorem dX10_price_30 : decode cX10_price 30 = .ok (.ifCond .ne 6, 3) := by decide +kernel
theorem dX10_price_33 : decode cX10_price 33 = .ok (.bipush (-2), 2) := by decide +kernel
theorem dX10_price_35 : decode cX10_price 35 = .ok (.ireturn, 1) := by decide +kernel
theorem dX10_price_36 : decode cX10_price 36 = .ok (.aload_n 0, 1) := by decide +kernel
theorem dX10_price_37 : decode cX10_price 37 = .ok (.getfield 78, 3) := by decide +kernel
theorem dX10_price_40 : decode cX10_price 40 = .ok (.iconst 5, 1) := by decide +kernel
theorem dX10_price_41 : decode cX10_price 41 = .ok (.iload_n 1, 1) := by decide +kernel
theorem dX10_price_42 : decode cX10_price 42 = .ok (.imul, 1) := by decide +kernel
theorem dX10_price_43 : decode cX10_price 43 = .ok (.iload_n 2, 1) := by decide +kernel
theorem dX10_price_44 : decode cX10_price 44 = .ok (.iadd, 1) := by decide +kernel
theorem dX10_price_45 : decode cX10_price 45 = .ok (.iaload, 1) := by decide +kernel
theorem dX10_price_46 : decode cX10_price 46 = .ok (.istore 4, 2) := by decide +kernel
theorem dX10_price_48 : decode cX10_price 48 = .ok (.aload_n 0, 1) := by decide +kernel
theorem dX10_price_49 : decode cX10_price 49 = .ok (.getfield 78, 3) := by decide +kernel
theorem dX10_price_52 : decode cX10_price 52 = .ok (.iconst 5, 1) := by decide +kernel
theorem dX10_price_53 : decode cX10_price 53 = .ok (.iload_n 1, 1) := by decide +kernel
theorem dX10_price_54 : decode cX10_price 54 = .ok (.imul, 1) := by decide +kernel
theorem dX10_price_55 : decode cX10_price 55 = .ok (.iload_n 2, 1) := by decide +kernel
theorem dX10_price_56 : decode cX10_price 56 = .ok (.iadd, 1) := by decide +kernel
theorem dX10_price_57 : decode cX10_price 57 = .ok (.iload_n 3, 1) := by decide +kernel
theorem dX10_price_58 : decode cX10_price 58 = .ok (.iastore, 1) := by decide +kernel
theorem dX10_price_59 : decode cX10_price 59 = .ok (.aload_n 0, 1) := by decide +kernel
theorem dX10_price_60 : decode cX10_price 60 = .ok (.getfield 78, 3) := by decide +kernel
theorem dX10_price_63 : decode cX10_price 63 = .ok (.iconst 5, 1) := by decide +kernel
theorem dX10_price_64 : decode cX10_price 64 = .ok (.iload_n 2, 1) := by decide +kernel
theorem dX10_price_65 : decode cX10_price 65 = .ok (.imul, 1) := by decide +kernel
theorem dX10_price_66 : decode cX10_price 66 = .ok (.iload_n 1, 1) := by decide +kernel
theorem dX10_price_67 : decode cX10_price 67 = .ok (.iadd, 1) := by decide +kernel
theorem dX10_price_68 : decode cX10_price 68 = .ok (.iload_n 3, 1) := by decide +kernel
theorem dX10_price_69 : decode cX10_price 69 = .ok (.iastore, 1) := by decide +kernel
theorem dX10_price_70 : decode cX10_price 70 = .ok (.aload_n 0, 1) := by decide +kernel
theorem dX10_price_71 : decode cX10_price 71 = .ok (.iconst 0, 1) := by decide +kernel
theorem dX10_price_72 : decode cX10_price 72 = .ok (.putfield 227, 3) := by decide +kernel
theorem dX10_price_75 : decode cX10_price 75 = .ok (.iload 4, 2) := by decide +kernel
theorem dX10_price_77 : decode cX10_price 77 = .ok (.ireturn, 1) := by decide +kernel
theorem dX10_reach_0 : decode cX10_reach 0 = .ok (.iload_n 1, 1) := by decide +kernel
theorem dX10_reach_1 : decode cX10_reach 1 = .ok (.i2l, 1) := by decide +kernel
theorem dX10_reach_2 : decode cX10_reach 2 = .ok (.lconst 1, 1) := by decide +kernel
theorem dX10_reach_3 : decode cX10_reach 3 = .ok (.ldc2_w 220, 3) := by decide +kernel
theorem dX10_reach_6 : decode cX10_reach 6 = .ok (.invokestatic 126, 3) := by decide +kernel
theorem dX10_reach_9 : decode cX10_reach 9 = .ok (.ifCond .eq 15, 3) := by decide +kernel
theorem dX10_reach_12 : decode cX10_reach 12 = .ok (.iload_n 2, 1) := by decide +kernel
theorem dX10_reach_13 : decode cX10_reach 13 = .ok (.i2l, 1) := by decide +kernel
theorem dX10_reach_14 : decode cX10_reach 14 = .ok (.lconst 1, 1) := by decide +kernel
theorem dX10_reach_15 : decode cX10_reach 15 = .ok (.ldc2_w 222, 3) := by decide +kernel
theorem dX10_reach_18 : decode cX10_reach 18 = .ok (.invokestatic 126, 3) := by decide +kernel
theorem dX10_reach_21 : decode cX10_reach 21 = .ok (.ifCond .ne 6, 3) := by decide +kernel
theorem dX10_reach_24 : decode cX10_reach 24 = .ok (.bipush (-2), 2) := by decide +kernel
theorem dX10_reach_26 : decode cX10_reach 26 = .ok (.ireturn, 1) := by decide +kernel
theorem dX10_reach_27 : decode cX10_reach 27 = .ok (.aload_n 0, 1) := by decide +kernel
theorem dX10_reach_28 : decode cX10_reach 28 = .ok (.iload_n 1, 1) := by decide +kernel
theorem dX10_reach_29 : decode cX10_reach 29 = .ok (.putfield 81, 3) := by decide +kernel
theorem dX10_reach_32 : decode cX10_reach 32 = .ok (.aload_n 0, 1) := by decide +kernel
theorem dX10_reach_33 : decode cX10_reach 33 = .ok (.iload_n 2, 1) := by decide +kernel
theorem dX10_reach_34 : decode cX10_reach 34 = .ok (.putfield 84, 3) := by decide +kernel
theorem dX10_reach_37 : decode cX10_reach 37 = .ok (.aload_n 0, 1) := by decide +kernel
theorem dX10_reach_38 : decode cX10_reach 38 = .ok (.iconst 0, 1) := by decide +kernel
theorem dX10_reach_39 : decode cX10_reach 39 = .ok (.putfield 227, 3) := by decide +kernel
theorem dX10_reach_42 : decode cX10_reach 42 = .ok (.iconst 1, 1) := by decide +kernel
theorem dX10_reach_43 : decode cX10_reach 43 = .ok (.ireturn, 1) := by decide +kernel
theorem dX10_reachesOf_0 : decode cX10_reachesOf 0 = .ok (.aload_n 0, 1) := by decide +kernel
theorem dX10_reachesOf_1 : decode cX10_reachesOf 1 = .ok (.getfield 51, 3) := by decide +kernel
theorem dX10_reachesOf_4 : decode cX10_reachesOf 4 = .ok (.iload_n 2, 1) := by decide +kernel
theorem dX10_reachesOf_5 : decode cX10_reachesOf 5 = .ok (.iaload, 1) := by decide +kernel
theorem dX10_reachesOf_6 : decode cX10_reachesOf 6 = .ok (.i2l, 1) := by decide +kernel
theorem dX10_reachesOf_7 : decode cX10_reachesOf 7 = .ok (.aload_n 0, 1) := by decide +kernel
theorem dX10_reachesOf_8 : decode cX10_reachesOf 8 = .ok (.getfield 69, 3) := by decide +kernel
theorem dX10_reachesOf_11 : decode cX10_reachesOf 11 = .ok (.iload_n 1, 1) := by decide +kernel
theorem dX10_reachesOf_12 : decode cX10_reachesOf 12 = .ok (.iaload, 1) := by decide +kernel
theorem dX10_reachesOf_13 : decode cX10_reachesOf 13 = .ok (.aload_n 0, 1) := by decide +kernel
theorem dX10_reachesOf_14 : decode cX10_reachesOf 14 = .ok (.getfield 81, 3) := by decide +kernel
theorem dX10_reachesOf_17 : decode cX10_reachesOf 17 = .ok (.isub, 1) := by decide +kernel
theorem dX10_reachesOf_18 : decode cX10_reachesOf 18 = .ok (.i2l, 1) := by decide +kernel
theorem dX10_reachesOf_19 : decode cX10_reachesOf 19 = .ok (.aload_n 0, 1) := by decide +kernel
theorem dX10_reachesOf_20 : decode cX10_reachesOf 20 = .ok (.getfield 69, 3) := by decide +kernel
theorem dX10_reachesOf_23 : decode cX10_reachesOf 23 = .ok (.iload_n 1, 1) := by decide +kernel
theorem dX10_reachesOf_24 : decode cX10_reachesOf 24 = .ok (.iaload, 1) := by decide +kernel
theorem dX10_reachesOf_25 : decode cX10_reachesOf 25 = .ok (.aload_n 0, 1) := by decide +kernel
theorem dX10_reachesOf_26 : decode cX10_reachesOf 26 = .ok (.getfield 81, 3) := by decide +kernel
theorem dX10_reachesOf_29 : decode cX10_reachesOf 29 = .ok (.iadd, 1) := by decide +kernel
theorem dX10_reachesOf_30 : decode cX10_reachesOf 30 = .ok (.i2l, 1) := by decide +kernel
theorem dX10_reachesOf_31 : decode cX10_reachesOf 31 = .ok (.invokestatic 126, 3) := by decide +kernel
theorem dX10_reachesOf_34 : decode cX10_reachesOf 34 = .ok (.ifCond .eq 27, 3) := by decide +kernel
theorem dX10_reachesOf_37 : decode cX10_reachesOf 37 = .ok (.aload_n 0, 1) := by decide +kernel
theorem dX10_reachesOf_38 : decode cX10_reachesOf 38 = .ok (.getfield 54, 3) := by decide +kernel
theorem dX10_reachesOf_41 : decode cX10_reachesOf 41 = .ok (.iload_n 2, 1) := by decide +kernel
theorem dX10_reachesOf_42 : decode cX10_reachesOf 42 = .ok (.iaload, 1) := by decide +kernel
theorem dX10_reachesOf_43 : decode cX10_reachesOf 43 = .ok (.aload_n 0, 1) := by decide +kernel
theorem dX10_reachesOf_44 : decode cX10_reachesOf 44 = .ok (.getfield 72, 3) := by decide +kernel
theorem dX10_reachesOf_47 : decode cX10_reachesOf 47 = .ok (.iload_n 1, 1) := by decide +kernel
theorem dX10_reachesOf_48 : decode cX10_reachesOf 48 = .ok (.iaload, 1) := by decide +kernel
theorem dX10_reachesOf_49 : decode cX10_reachesOf 49 = .ok (.aload_n 0, 1) := by decide +kernel
theorem dX10_reachesOf_50 : decode cX10_reachesOf 50 = .ok (.getfield 84, 3) := by decide +kernel
theorem dX10_reachesOf_53 : decode cX10_reachesOf 53 = .ok (.iadd, 1) := by decide +kernel
theorem dX10_reachesOf_54 : decode cX10_reachesOf 54 = .ok (.if_icmp .gt 7, 3) := by decide +kernel
theorem dX10_reachesOf_57 : decode cX10_reachesOf 57 = .ok (.iconst 1, 1) := by decide +kernel
theorem dX10_reachesOf_58 : decode cX10_reachesOf 58 = .ok (.goto 4, 3) := by decide +kernel
theorem dX10_reachesOf_61 : decode cX10_reachesOf 61 = .ok (.iconst 0, 1) := by decide +kernel
theorem dX10_reachesOf_62 : decode cX10_reachesOf 62 = .ok (.ireturn, 1) := by decide +kernel
theorem dX10_reaches_0 : decode cX10_reaches 0 = .ok (.aload_n 0, 1) := by decide +kernel
theorem dX10_reaches_1 : decode cX10_reaches 1 = .ok (.iload_n 1, 1) := by decide +kernel
theorem dX10_reaches_2 : decode cX10_reaches 2 = .ok (.invokevirtual 241, 3) := by decide +kernel
theorem dX10_reaches_5 : decode cX10_reaches 5 = .ok (.ifCond .ne 11, 3) := by decide +kernel
theorem dX10_reaches_8 : decode cX10_reaches 8 = .ok (.aload_n 0, 1) := by decide +kernel
theorem dX10_reaches_9 : decode cX10_reaches 9 = .ok (.iload_n 2, 1) := by decide +kernel
theorem dX10_reaches_10 : decode cX10_reaches 10 = .ok (.invokevirtual 231, 3) := by decide +kernel
theorem dX10_reaches_13 : decode cX10_reaches 13 = .ok (.ifCond .eq 8, 3) := by decide +kernel
theorem dX10_reaches_16 : decode cX10_reaches 16 = .ok (.bipush (-2), 2) := by decide +kernel
theorem dX10_reaches_18 : decode cX10_reaches 18 = .ok (.goto 12, 3) := by decide +kernel
theorem dX10_reaches_21 : decode cX10_reaches 21 = .ok (.aload_n 0, 1) := by decide +kernel
theorem dX10_reaches_22 : decode cX10_reaches 22 = .ok (.iload_n 1, 1) := by decide +kernel
theorem dX10_reaches_23 : decode cX10_reaches 23 = .ok (.iload_n 2, 1) := by decide +kernel
theorem dX10_reaches_24 : decode cX10_reaches 24 = .ok (.invokevirtual 244, 3) := by decide +kernel
theorem dX10_reaches_27 : decode cX10_reaches 27 = .ok (.invokestatic 204, 3) := by decide +kernel
theorem dX10_reaches_30 : decode cX10_reaches 30 = .ok (.ireturn, 1) := by decide +kernel
theorem dX10_mayOf_0 : decode cX10_mayOf 0 = .ok (.iload_n 1, 1) := by decide +kernel
theorem dX10_mayOf_1 : decode cX10_mayOf 1 = .ok (.iload_n 2, 1) := by decide +kernel
theorem dX10_mayOf_2 : decode cX10_mayOf 2 = .ok (.ishr, 1) := by decide +kernel
theorem dX10_mayOf_3 : decode cX10_mayOf 3 = .ok (.iconst 1, 1) := by decide +kernel
theorem dX10_mayOf_4 : decode cX10_mayOf 4 = .ok (.iand, 1) := by decide +kernel
theorem dX10_mayOf_5 : decode cX10_mayOf 5 = .ok (.iconst 1, 1) := by decide +kernel
theorem dX10_mayOf_6 : decode cX10_mayOf 6 = .ok (.if_icmp .eq 16, 3) := by decide +kernel
theorem dX10_mayOf_9 : decode cX10_mayOf 9 = .ok (.aload_n 0, 1) := by decide +kernel
theorem dX10_mayOf_10 : decode cX10_mayOf 10 = .ok (.getfield 60, 3) := by decide +kernel
theorem dX10_mayOf_13 : decode cX10_mayOf 13 = .ok (.iload_n 2, 1) := by decide +kernel
theorem dX10_mayOf_14 : decode cX10_mayOf 14 = .ok (.iaload, 1) := by decide +kernel
theorem dX10_mayOf_15 : decode cX10_mayOf 15 = .ok (.iload_n 1, 1) := by decide +kernel
theorem dX10_mayOf_16 : decode cX10_mayOf 16 = .ok (.iconst (-1), 1) := by decide +kernel
theorem dX10_mayOf_17 : decode cX10_mayOf 17 = .ok (.ixor, 1) := by decide +kernel
theorem dX10_mayOf_18 : decode cX10_mayOf 18 = .ok (.iand, 1) := by decide +kernel
theorem dX10_mayOf_19 : decode cX10_mayOf 19 = .ok (.ifCond .eq 5, 3) := by decide +kernel
theorem dX10_mayOf_22 : decode cX10_mayOf 22 = .ok (.iconst 0, 1) := by decide +kernel
theorem dX10_mayOf_23 : decode cX10_mayOf 23 = .ok (.ireturn, 1) := by decide +kernel
theorem dX10_mayOf_24 : decode cX10_mayOf 24 = .ok (.iload_n 1, 1) := by decide +kernel
theorem dX10_mayOf_25 : decode cX10_mayOf 25 = .ok (.iconst 1, 1) := by decide +kernel
theorem dX10_mayOf_26 : decode cX10_mayOf 26 = .ok (.iload_n 2, 1) := by decide +kernel
theorem dX10_mayOf_27 : decode cX10_mayOf 27 = .ok (.ishl, 1) := by decide +kernel
theorem dX10_mayOf_28 : decode cX10_mayOf 28 = .ok (.ior, 1) := by decide +kernel
theorem dX10_mayOf_29 : decode cX10_mayOf 29 = .ok (.istore_n 3, 1) := by decide +kernel
theorem dX10_mayOf_30 : decode cX10_mayOf 30 = .ok (.iconst 0, 1) := by decide +kernel
theorem dX10_mayOf_31 : decode cX10_mayOf 31 = .ok (.istore 4, 2) := by decide +kernel
theorem dX10_mayOf_33 : decode cX10_mayOf 33 = .ok (.iconst 0, 1) := by decide +kernel
theorem dX10_mayOf_34 : decode cX10_mayOf 34 = .ok (.istore 5, 2) := by decide +kernel
theorem dX10_mayOf_36 : decode cX10_mayOf 36 = .ok (.iload 5, 2) := by decide +kernel
theorem dX10_mayOf_38 : decode cX10_mayOf 38 = .ok (.aload_n 0, 1) := by decide +kernel
theorem dX10_mayOf_39 : decode cX10_mayOf 39 = .ok (.getfield 224, 3) := by decide +kernel
theorem dX10_mayOf_42 : decode cX10_mayOf 42 = .ok (.if_icmp .ge 57, 3) := by decide +kernel
theorem dX10_mayOf_45 : decode cX10_mayOf 45 = .ok (.aload_n 0, 1) := by decide +kernel
theorem dX10_mayOf_46 : decode cX10_mayOf 46 = .ok (.getfield 63, 3) := by decide +kernel
theorem dX10_mayOf_49 : decode cX10_mayOf 49 = .ok (.iload 5, 2) := by decide +kernel
theorem dX10_mayOf_51 : decode cX10_mayOf 51 = .ok (.iaload, 1) := by decide +kernel
theorem dX10_mayOf_52 : decode cX10_mayOf 52 = .ok (.ifCond .lt 41, 3) := by decide +kernel
theorem dX10_mayOf_55 : decode cX10_mayOf 55 = .ok (.iload_n 3, 1) := by decide +kernel
theorem dX10_mayOf_56 : decode cX10_mayOf 56 = .ok (.iload 5, 2) := by decide +kernel
theorem dX10_mayOf_58 : decode cX10_mayOf 58 = .ok (.ishr, 1) := by decide +kernel
theorem dX10_mayOf_59 : decode cX10_mayOf 59 = .ok (.iconst 1, 1) := by decide +kernel
theorem dX10_mayOf_60 : decode cX10_mayOf 60 = .ok (.iand, 1) := by decide +kernel
theorem dX10_mayOf_61 : decode cX10_mayOf 61 = .ok (.iconst 1, 1) := by decide +kernel
theorem dX10_mayOf_62 : decode cX10_mayOf 62 = .ok (.if_icmp .ne 31, 3) := by decide +kernel
theorem dX10_mayOf_65 : decode cX10_mayOf 65 = .ok (.iload_n 3, 1) := by decide +kernel
theorem dX10_mayOf_66 : decode cX10_mayOf 66 = .ok (.aload_n 0, 1) := by decide +kernel
theorem dX10_mayOf_67 : decode cX10_mayOf 67 = .ok (.getfield 63, 3) := by decide +kernel
theorem dX10_mayOf_70 : decode cX10_mayOf 70 = .ok (.iload 5, 2) := by decide +kernel
theorem dX10_mayOf_72 : decode cX10_mayOf 72 = .ok (.iaload, 1) := by decide +kernel
theorem dX10_mayOf_73 : decode cX10_mayOf 73 = .ok (.ishr, 1) := by decide +kernel
theorem dX10_mayOf_74 : decode cX10_mayOf 74 = .ok (.iconst 1, 1) := by decide +kernel
theorem dX10_mayOf_75 : decode cX10_mayOf 75 = .ok (.iand, 1) := by decide +kernel
theorem dX10_mayOf_76 : decode cX10_mayOf 76 = .ok (.ifCond .ne 17, 3) := by decide +kernel
theorem dX10_mayOf_79 : decode cX10_mayOf 79 = .ok (.iload 4, 2) := by decide +kernel
theorem dX10_mayOf_81 : decode cX10_mayOf 81 = .ok (.iconst 1, 1) := by decide +kernel
theorem dX10_mayOf_82 : decode cX10_mayOf 82 = .ok (.aload_n 0, 1) := by decide +kernel
theorem dX10_mayOf_83 : decode cX10_mayOf 83 = .ok (.getfield 63, 3) := by decide +kernel
theorem dX10_mayOf_86 : decode cX10_mayOf 86 = .ok (.iload 5, 2) := by decide +kernel
theorem dX10_mayOf_88 : decode cX10_mayOf 88 = .ok (.iaload, 1) := by decide +kernel
theorem dX10_mayOf_89 : decode cX10_mayOf 89 = .ok (.ishl, 1) := by decide +kernel
theorem dX10_mayOf_90 : decode cX10_mayOf 90 = .ok (.ior, 1) := by decide +kernel
theorem dX10_mayOf_91 : decode cX10_mayOf 91 = .ok (.istore 4, 2) := by decide +kernel
theorem dX10_mayOf_93 : decode cX10_mayOf 93 = .ok (.iinc 5 1, 3) := by decide +kernel
theorem dX10_mayOf_96 : decode cX10_mayOf 96 = .ok (.goto (-60), 3) := by decide +kernel
theorem dX10_mayOf_99 : decode cX10_mayOf 99 = .ok (.iload 4, 2) := by decide +kernel
theorem dX10_mayOf_101 : decode cX10_mayOf 101 = .ok (.invokestatic 181, 3) := by decide +kernel
theorem dX10_mayOf_104 : decode cX10_mayOf 104 = .ok (.aload_n 0, 1) := by decide +kernel
theorem dX10_mayOf_105 : decode cX10_mayOf 105 = .ok (.getfield 66, 3) := by decide +kernel
theorem dX10_mayOf_108 : decode cX10_mayOf 108 = .ok (.if_icmp .gt 7, 3) := by decide +kernel
theorem dX10_mayOf_111 : decode cX10_mayOf 111 = .ok (.iconst 1, 1) := by decide +kernel
theorem dX10_mayOf_112 : decode cX10_mayOf 112 = .ok (.goto 4, 3) := by decide +kernel
theorem dX10_mayOf_115 : decode cX10_mayOf 115 = .ok (.iconst 0, 1) := by decide +kernel
theorem dX10_mayOf_116 : decode cX10_mayOf 116 = .ok (.ireturn, 1) := by decide +kernel
