theorem dX9_winds_0 : decode cX9_winds 0 = .ok (.iload_n 1, 1) := by decide +kernel
theorem dX9_winds_1 : decode cX9_winds 1 = .ok (.iconst 0, 1) := by decide +kernel
theorem dX9_winds_2 : decode cX9_winds 2 = .ok (.bipush 10, 2) := by decide +kernel
theorem dX9_winds_4 : decode cX9_winds 4 = .ok (.invokestatic 76, 3) := by decide +kernel
theorem dX9_winds_7 : decode cX9_winds 7 = .ok (.ifCond .eq 13, 3) := by decide +kernel
theorem dX9_winds_10 : decode cX9_winds 10 = .ok (.iload_n 2, 1) := by decide +kernel
theorem dX9_winds_11 : decode cX9_winds 11 = .ok (.iconst 1, 1) := by decide +kernel
theorem dX9_winds_12 : decode cX9_winds 12 = .ok (.bipush 20, 2) := by decide +kernel
theorem dX9_winds_14 : decode cX9_winds 14 = .ok (.invokestatic 76, 3) := by decide +kernel
theorem dX9_winds_17 : decode cX9_winds 17 = .ok (.ifCond .ne 6, 3) := by decide +kernel
theorem dX9_winds_20 : decode cX9_winds 20 = .ok (.bipush (-2), 2) := by decide +kernel
theorem dX9_winds_22 : decode cX9_winds 22 = .ok (.ireturn, 1) := by decide +kernel
theorem dX9_winds_23 : decode cX9_winds 23 = .ok (.aload_n 0, 1) := by decide +kernel
theorem dX9_winds_24 : decode cX9_winds 24 = .ok (.getfield 10, 3) := by decide +kernel
theorem dX9_winds_27 : decode cX9_winds 27 = .ok (.iload_n 1, 1) := by decide +kernel
theorem dX9_winds_28 : decode cX9_winds 28 = .ok (.putfield 93, 3) := by decide +kernel
theorem dX9_winds_31 : decode cX9_winds 31 = .ok (.aload_n 0, 1) := by decide +kernel
theorem dX9_winds_32 : decode cX9_winds 32 = .ok (.getfield 10, 3) := by decide +kernel
theorem dX9_winds_35 : decode cX9_winds 35 = .ok (.iload_n 2, 1) := by decide +kernel
theorem dX9_winds_36 : decode cX9_winds 36 = .ok (.putfield 96, 3) := by decide +kernel
theorem dX9_winds_39 : decode cX9_winds 39 = .ok (.iconst 1, 1) := by decide +kernel
theorem dX9_winds_40 : decode cX9_winds 40 = .ok (.ireturn, 1) := by decide +kernel
theorem dX9_lift_0 : decode cX9_lift 0 = .ok (.iload_n 1, 1) := by decide +kernel
theorem dX9_lift_1 : decode cX9_lift 1 = .ok (.iconst 0, 1) := by decide +kernel
theorem dX9_lift_2 : decode cX9_lift 2 = .ok (.sipush 20000, 3) := by decide +kernel
theorem dX9_lift_5 : decode cX9_lift 5 = .ok (.invokestatic 76, 3) := by decide +kernel
theorem dX9_lift_8 : decode cX9_lift 8 = .ok (.ifCond .eq 14, 3) := by decide +kernel
theorem dX9_lift_11 : decode cX9_lift 11 = .ok (.aload_n 0, 1) := by decide +kernel
theorem dX9_lift_12 : decode cX9_lift 12 = .ok (.getfield 10, 3) := by decide +kernel
theorem dX9_lift_15 : decode cX9_lift 15 = .ok (.iload_n 1, 1) := by decide +kernel
theorem dX9_lift_16 : decode cX9_lift 16 = .ok (.invokevirtual 99, 3) := by decide +kernel
theorem dX9_lift_19 : decode cX9_lift 19 = .ok (.goto 5, 3) := by decide +kernel
theorem dX9_lift_22 : decode cX9_lift 22 = .ok (.bipush (-2), 2) := by decide +kernel
theorem dX9_lift_24 : decode cX9_lift 24 = .ok (.ireturn, 1) := by decide +kernel
theorem dX9_steps_0 : decode cX9_steps 0 = .ok (.iload_n 1, 1) := by decide +kernel
theorem dX9_steps_1 : decode cX9_steps 1 = .ok (.iconst 0, 1) := by decide +kernel
theorem dX9_steps_2 : decode cX9_steps 2 = .ok (.sipush 20000, 3) := by decide +kernel
theorem dX9_steps_5 : decode cX9_steps 5 = .ok (.invokestatic 76, 3) := by decide +kernel
theorem dX9_steps_8 : decode cX9_steps 8 = .ok (.ifCond .eq 14, 3) := by decide +kernel
theorem dX9_steps_11 : decode cX9_steps 11 = .ok (.aload_n 0, 1) := by decide +kernel
theorem dX9_steps_12 : decode cX9_steps 12 = .ok (.getfield 10, 3) := by decide +kernel
theorem dX9_steps_15 : decode cX9_steps 15 = .ok (.iload_n 1, 1) := by decide +kernel
theorem dX9_steps_16 : decode cX9_steps 16 = .ok (.invokevirtual 103, 3) := by decide +kernel
theorem dX9_steps_19 : decode cX9_steps 19 = .ok (.goto 5, 3) := by decide +kernel
theorem dX9_steps_22 : decode cX9_steps 22 = .ok (.bipush (-2), 2) := by decide +kernel
theorem dX9_steps_24 : decode cX9_steps 24 = .ok (.ireturn, 1) := by decide +kernel
theorem dX9_layer_0 : decode cX9_layer 0 = .ok (.iload_n 1, 1) := by decide +kernel
theorem dX9_layer_1 : decode cX9_layer 1 = .ok (.iconst 0, 1) := by decide +kernel
theorem dX9_layer_2 : decode cX9_layer 2 = .ok (.sipush 20000, 3) := by decide +kernel
theorem dX9_layer_5 : decode cX9_layer 5 = .ok (.invokestatic 76, 3) := by decide +kernel
theorem dX9_layer_8 : decode cX9_layer 8 = .ok (.ifCond .eq 12, 3) := by decide +kernel
theorem dX9_layer_11 : decode cX9_layer 11 = .ok (.iload_n 2, 1) := by decide +kernel
theorem dX9_layer_12 : decode cX9_layer 12 = .ok (.iconst 0, 1) := by decide +kernel
theorem dX9_layer_13 : decode cX9_layer 13 = .ok (.iconst 1, 1) := by decide +kernel
theorem dX9_layer_14 : decode cX9_layer 14 = .ok (.invokestatic 76, 3) := by decide +kernel
theorem dX9_layer_17 : decode cX9_layer 17 = .ok (.ifCond .ne 6, 3) := by decide +kernel
theorem dX9_layer_20 : decode cX9_layer 20 = .ok (.bipush (-2), 2) := by decide +kernel
theorem dX9_layer_22 : decode cX9_layer 22 = .ok (.ireturn, 1) := by decide +kernel
theorem dX9_layer_23 : decode cX9_layer 23 = .ok (.aload_n 0, 1) := by decide +kernel
theorem dX9_layer_24 : decode cX9_layer 24 = .ok (.getfield 10, 3) := by decide +kernel
theorem dX9_layer_27 : decode cX9_layer 27 = .ok (.iload_n 1, 1) := by decide +kernel
theorem dX9_layer_28 : decode cX9_layer 28 = .ok (.invokevirtual 106, 3) := by decide +kernel
theorem dX9_layer_31 : decode cX9_layer 31 = .ok (.istore_n 3, 1) := by decide +kernel
theorem dX9_layer_32 : decode cX9_layer 32 = .ok (.iload_n 2, 1) := by decide +kernel
theorem dX9_layer_33 : decode cX9_layer 33 = .ok (.ifCond .ne 7, 3) := by decide +kernel
theorem dX9_layer_36 : decode cX9_layer 36 = .ok (.iload_n 3, 1) := by decide +kernel
theorem dX9_layer_37 : decode cX9_layer 37 = .ok (.goto 11, 3) := by decide +kernel
theorem dX9_layer_40 : decode cX9_layer 40 = .ok (.aload_n 0, 1) := by decide +kernel
theorem dX9_layer_41 : decode cX9_layer 41 = .ok (.getfield 10, 3) := by decide +kernel
theorem dX9_layer_44 : decode cX9_layer 44 = .ok (.iload_n 3, 1) := by decide +kernel
theorem dX9_layer_45 : decode cX9_layer 45 = .ok (.invokevirtual 109, 3) := by decide +kernel
theorem dX9_layer_48 : decode cX9_layer 48 = .ok (.ireturn, 1) := by decide +kernel
theorem dX9_man_0 : decode cX9_man 0 = .ok (.iload_n 1, 1) := by decide +kernel
theorem dX9_man_1 : decode cX9_man 1 = .ok (.bipush 40, 2) := by decide +kernel
theorem dX9_man_3 : decode cX9_man 3 = .ok (.sipush 150, 3) := by decide +kernel
theorem dX9_man_6 : decode cX9_man 6 = .ok (.invokestatic 76, 3) := by decide +kernel
theorem dX9_man_9 : decode cX9_man 9 = .ok (.ifCond .eq 14, 3) := by decide +kernel
theorem dX9_man_12 : decode cX9_man 12 = .ok (.aload_n 0, 1) := by decide +kernel
theorem dX9_man_13 : decode cX9_man 13 = .ok (.getfield 19, 3) := by decide +kernel
theorem dX9_man_16 : decode cX9_man 16 = .ok (.iload_n 1, 1) := by decide +kernel
theorem dX9_man_17 : decode cX9_man 17 = .ok (.invokevirtual 112, 3) := by decide +kernel
theorem dX9_man_20 : decode cX9_man 20 = .ok (.goto 5, 3) := by decide +kernel
theorem dX9_man_23 : decode cX9_man 23 = .ok (.bipush (-2), 2) := by decide +kernel
theorem dX9_man_25 : decode cX9_man 25 = .ok (.ireturn, 1) := by decide +kernel
theorem dX9_breath_0 : decode cX9_breath 0 = .ok (.iload_n 1, 1) := by decide +kernel
theorem dX9_breath_1 : decode cX9_breath 1 = .ok (.iconst 0, 1) := by decide +kernel
theorem dX9_breath_2 : decode cX9_breath 2 = .ok (.aload_n 0, 1) := by decide +kernel
theorem dX9_breath_3 : decode cX9_breath 3 = .ok (.getfield 19, 3) := by decide +kernel
theorem dX9_breath_6 : decode cX9_breath 6 = .ok (.getfield 115, 3) := by decide +kernel
theorem dX9_breath_9 : decode cX9_breath 9 = .ok (.iconst 1, 1) := by decide +kernel
theorem dX9_breath_10 : decode cX9_breath 10 = .ok (.isub, 1) := by decide +kernel
theorem dX9_breath_11 : decode cX9_breath 11 = .ok (.invokestatic 76, 3) := by decide +kernel
theorem dX9_breath_14 : decode cX9_breath 14 = .ok (.ifCond .eq 15, 3) := by decide +kernel
theorem dX9_breath_17 : decode cX9_breath 17 = .ok (.aload_n 0, 1) := by decide +kernel
theorem dX9_breath_18 : decode cX9_breath 18 = .ok (.getfield 19, 3) := by decide +kernel
theorem dX9_breath_21 : decode cX9_breath 21 = .ok (.getfield 118, 3) := by decide +kernel
theorem dX9_breath_24 : decode cX9_breath 24 = .ok (.iload_n 1, 1) := by decide +kernel
theorem dX9_breath_25 : decode cX9_breath 25 = .ok (.iaload, 1) := by decide +kernel
theorem dX9_breath_26 : decode cX9_breath 26 = .ok (.goto 5, 3) := by decide +kernel
theorem dX9_breath_29 : decode cX9_breath 29 = .ok (.bipush (-2), 2) := by decide +kernel
theorem dX9_breath_31 : decode cX9_breath 31 = .ok (.ireturn, 1) := by decide +kernel
theorem dX9_rest_0 : decode cX9_rest 0 = .ok (.iload_n 1, 1) := by decide +kernel
theorem dX9_rest_1 : decode cX9_rest 1 = .ok (.iconst 1, 1) := by decide +kernel
theorem dX9_rest_2 : decode cX9_rest 2 = .ok (.sipush 1000, 3) := by decide +kernel
theorem dX9_rest_5 : decode cX9_rest 5 = .ok (.invokestatic 76, 3) := by decide +kernel
theorem dX9_rest_8 : decode cX9_rest 8 = .ok (.ifCond .ne 6, 3) := by decide +kernel
theorem dX9_rest_11 : decode cX9_rest 11 = .ok (.bipush (-2), 2) := by decide +kernel
theorem dX9_rest_13 : decode cX9_rest 13 = .ok (.ireturn, 1) := by decide +kernel
theorem dX9_rest_14 : decode cX9_rest 14 = .ok (.aload_n 0, 1) := by decide +kernel
theorem dX9_rest_15 : decode cX9_rest 15 = .ok (.getfield 19, 3) := by decide +kernel
theorem dX9_rest_18 : decode cX9_rest 18 = .ok (.iconst 2, 1) := by decide +kernel
theorem dX9_rest_19 : decode cX9_rest 19 = .ok (.iload_n 1, 1) := by decide +kernel
theorem dX9_rest_20 : decode cX9_rest 20 = .ok (.imul, 1) := by decide +kernel
theorem dX9_rest_21 : decode cX9_rest 21 = .ok (.invokevirtual 122, 3) := by decide +kernel
theorem dX9_rest_24 : decode cX9_rest 24 = .ok (.iconst 1, 1) := by decide +kernel
theorem dX9_rest_25 : decode cX9_rest 25 = .ok (.ireturn, 1) := by decide +kernel
theorem dX9_can_0 : decode cX9_can 0 = .ok (.iload_n 1, 1) := by decide +kernel
theorem dX9_can_1 : decode cX9_can 1 = .ok (.iconst 0, 1) := by decide +kernel
theorem dX9_can_2 : decode cX9_can 2 = .ok (.aload_n 0, 1) := by decide +kernel
theorem dX9_can_3 : decode cX9_can 3 = .ok (.getfield 19, 3) := by decide +kernel
theorem dX9_can_6 : decode cX9_can 6 = .ok (.invokevirtual 126, 3) := by decide +kernel
theorem dX9_can_9 : decode cX9_can 9 = .ok (.invokestatic 76, 3) := by decide +kernel
theorem dX9_can_12 : decode cX9_can 12 = .ok (.ifCond .eq 11, 3) := by decide +kernel
theorem dX9_can_15 : decode cX9_can 15 = .ok (.iload_n 2, 1) := by decide +kernel
theorem dX9_can_16 : decode cX9_can 16 = .ok (.iload_n 3, 1) := by decide +kernel
theorem dX9_can_17 : decode cX9_can 17 = .ok (.invokestatic 130, 3) := by decide +kernel
theorem dX9_can_20 : decode cX9_can 20 = .ok (.ifCond .ne 6, 3) := by decide +kernel
theorem dX9_can_23 : decode cX9_can 23 = .ok (.bipush (-2), 2) := by decide +kernel
theorem dX9_can_25 : decode cX9_can 25 = .ok (.ireturn, 1) := by decide +kernel
theorem dX9_can_26 : decode cX9_can 26 = .ok (.aload_n 0, 1) := by decide +kernel
theorem dX9_can_27 : decode cX9_can 27 = .ok (.iload_n 1, 1) := by decide +kernel
theorem dX9_can_28 : decode cX9_can 28 = .ok (.iload_n 2, 1) := by decide +kernel
theorem dX9_can_29 : decode cX9_can 29 = .ok (.aload_n 0, 1) := by decide +kernel
theorem dX9_can_30 : decode cX9_can 30 = .ok (.getfield 10, 3) := by decide +kernel
theorem dX9_can_33 : decode cX9_can 33 = .ok (.iload_n 3, 1) := by decide +kernel
theorem dX9_can_34 : decode cX9_can 34 = .ok (.invokevirtual 103, 3) := by decide +kernel
theorem dX9_can_37 : decode cX9_can 37 = .ok (.invokevirtual 134, 3) := by decide +kernel
theorem dX9_can_40 : decode cX9_can 40 = .ok (.ireturn, 1) := by decide +kernel
theorem dX9_fewest_0 : decode cX9_fewest 0 = .ok (.iload_n 1, 1) := by decide +kernel
theorem dX9_fewest_1 : decode cX9_fewest 1 = .ok (.iload_n 2, 1) := by decide +kernel
theorem dX9_fewest_2 : decode cX9_fewest 2 = .ok (.invokestatic 130, 3) := by decide +kernel
theorem dX9_fewest_5 : decode cX9_fewest 5 = .ok (.ifCond .ne 6, 3) := by decide +kernel
theorem dX9_fewest_8 : decode cX9_fewest 8 = .ok (.bipush (-2), 2) := by decide +kernel
theorem dX9_fewest_10 : decode cX9_fewest 10 = .ok (.ireturn, 1) := by decide +kernel
theorem dX9_fewest_11 : decode cX9_fewest 11 = .ok (.aload_n 0, 1) := by decide +kernel
theorem dX9_fewest_12 : decode cX9_fewest 12 = .ok (.getfield 10, 3) := by decide +kernel
theorem dX9_fewest_15 : decode cX9_fewest 15 = .ok (.iload_n 2, 1) := by decide +kernel
theorem dX9_fewest_16 : decode cX9_fewest 16 = .ok (.invokevirtual 103, 3) := by decide +kernel
theorem dX9_fewest_19 : decode cX9_fewest 19 = .ok (.istore_n 3, 1) := by decide +kernel
theorem dX9_fewest_20 : decode cX9_fewest 20 = .ok (.aload_n 0, 1) := by decide +kernel
theorem dX9_fewest_21 : decode cX9_fewest 21 = .ok (.getfield 19, 3) := by decide +kernel
theorem dX9_fewest_24 : decode cX9_fewest 24 = .ok (.invokevirtual 126, 3) := by decide +kernel
theorem dX9_fewest_27 : decode cX9_fewest 27 = .ok (.istore 4, 2) := by decide +kernel
theorem dX9_fewest_29 : decode cX9_fewest 29 = .ok (.iconst (-1), 1) := by decide +kernel
theorem dX9_fewest_30 : decode cX9_fewest 30 = .ok (.istore 5, 2) := by decide +kernel
theorem dX9_fewest_32 : decode cX9_fewest 32 = .ok (.iconst 1, 1) := by decide +kernel
theorem dX9_fewest_33 : decode cX9_fewest 33 = .ok (.istore 6, 2) := by decide +kernel
theorem dX9_fewest_35 : decode cX9_fewest 35 = .ok (.iload 6, 2) := by decide +kernel
theorem dX9_fewest_37 : decode cX9_fewest 37 = .ok (.iload 4, 2) := by decide +kernel
theorem dX9_fewest_39 : decode cX9_fewest 39 = .ok (.if_icmp .gt 45, 3) := by decide +kernel
theorem dX9_fewest_42 : decode cX9_fewest 42 = .ok (.aload_n 0, 1) := by decide +kernel
theorem dX9_fewest_43 : decode cX9_fewest 43 = .ok (.iload 6, 2) := by decide +kernel
theorem dX9_fewest_45 : decode cX9_fewest 45 = .ok (.iload_n 1, 1) := by decide +kernel
theorem dX9_fewest_46 : decode cX9_fewest 46 = .ok (.iload_n 3, 1) := by decide +kernel
theorem dX9_fewest_47 : decode cX9_fewest 47 = .ok (.invokevirtual 134, 3) := by decide +kernel
theorem dX9_fewest_50 : decode cX9_fewest 50 = .ok (.iconst 1, 1) := by decide +kernel
theorem dX9_fewest_51 : decode cX9_fewest 51 = .ok (.if_icmp .ne 27, 3) := by decide +kernel
theorem dX9_fewest_54 : decode cX9_fewest 54 = .ok (.iload 5, 2) := by decide +kernel
theorem dX9_fewest_56 : decode cX9_fewest 56 = .ok (.iconst (-1), 1) := by decide +kernel
theorem dX9_fewest_57 : decode cX9_fewest 57 = .ok (.if_icmp .eq 17, 3) := by decide +kernel
theorem dX9_fewest_60 : decode cX9_fewest 60 = .ok (.aload_n 0, 1) := by decide +kernel
theorem dX9_fewest_61 : decode cX9_fewest 61 = .ok (.getfield 19, 3) := by decide +kernel
theorem dX9_fewest_64 : decode cX9_fewest 64 = .ok (.iload 6, 2) := by decide +kernel
theorem dX9_fewest_66 : decode cX9_fewest 66 = .ok (.iload 5, 2) := by decide +kernel
theorem dX9_fewest_68 : decode cX9_fewest 68 = .ok (.invokevirtual 138, 3) := by decide +kernel
theorem dX9_fewest_71 : decode cX9_fewest 71 = .ok (.ifCond .eq 7, 3) := by decide +kernel
theorem dX9_fewest_74 : decode cX9_fewest 74 = .ok (.iload 6, 2) := by decide +kernel
theorem dX9_fewest_76 : decode cX9_fewest 76 = .ok (.istore 5, 2) := by decide +kernel
theorem dX9_fewest_78 : decode cX9_fewest 78 = .ok (.iinc 6 1, 3) := by decide +kernel
theorem dX9_fewest_81 : decode cX9_fewest 81 = .ok (.goto (-46), 3) := by decide +kernel
theorem dX9_fewest_84 : decode cX9_fewest 84 = .ok (.iload 5, 2) := by decide +kernel
theorem dX9_fewest_86 : decode cX9_fewest 86 = .ok (.ireturn, 1) := by decide +kernel
theorem dX9_hoist_0 : decode cX9_hoist 0 = .ok (.iload_n 1, 1) := by decide +kernel
theorem dX9_hoist_1 : decode cX9_hoist 1 = .ok (.iconst 0, 1) := by decide +kernel
theorem dX9_hoist_2 : decode cX9_hoist 2 = .ok (.aload_n 0, 1) := by decide +kernel
theorem dX9_hoist_3 : decode cX9_hoist 3 = .ok (.getfield 19, 3) := by decide +kernel
theorem dX9_hoist_6 : decode cX9_hoist 6 = .ok (.invokevirtual 126, 3) := by decide +kernel
theorem dX9_hoist_9 : decode cX9_hoist 9 = .ok (.invokestatic 76, 3) := by decide +kernel
theorem dX9_hoist_12 : decode cX9_hoist 12 = .ok (.ifCond .eq 33, 3) := by decide +kernel
theorem dX9_hoist_15 : decode cX9_hoist 15 = .ok (.iload_n 2, 1) := by decide +kernel
theorem dX9_hoist_16 : decode cX9_hoist 16 = .ok (.iconst (-1), 1) := by decide +kernel
theorem dX9_hoist_17 : decode cX9_hoist 17 = .ok (.aload_n 0, 1) := by decide +kernel
theorem dX9_hoist_18 : decode cX9_hoist 18 = .ok (.getfield 26, 3) := by decide +kernel
theorem dX9_hoist_21 : decode cX9_hoist 21 = .ok (.getfield 141, 3) := by decide +kernel
theorem dX9_hoist_24 : decode cX9_hoist 24 = .ok (.iconst 1, 1) := by decide +kernel
theorem dX9_hoist_25 : decode cX9_hoist 25 = .ok (.isub, 1) := by decide +kernel
theorem dX9_hoist_26 : decode cX9_hoist 26 = .ok (.invokestatic 76, 3) := by decide +kernel
theorem dX9_hoist_29 : decode cX9_hoist 29 = .ok (.ifCond .eq 16, 3) := by decide +kernel
theorem dX9_hoist_32 : decode cX9_hoist 32 = .ok (.iload_n 3, 1) := by decide +kernel
theorem dX9_hoist_33 : decode cX9_hoist 33 = .ok (.iload 4, 2) := by decide +kernel
theorem dX9_hoist_35 : decode cX9_hoist 35 = .ok (.invokestatic 130, 3) := by decide +kernel
theorem dX9_hoist_38 : decode cX9_hoist 38 = .ok (.ifCond .eq 7, 3) := by decide +kernel
theorem dX9_hoist_41 : decode cX9_hoist 41 = .ok (.iconst 1, 1) := by decide +kernel
theorem dX9_hoist_42 : decode cX9_hoist 42 = .ok (.goto 4, 3) := by decide +kernel
theorem dX9_hoist_45 : decode cX9_hoist 45 = .ok (.iconst 0, 1) := by decide +kernel
theorem dX9_hoist_46 : decode cX9_hoist 46 = .ok (.istore 5, 2) := by decide +kernel
theorem dX9_hoist_48 : decode cX9_hoist 48 = .ok (.iload 5, 2) := by decide +kernel
theorem dX9_hoist_50 : decode cX9_hoist 50 = .ok (.ifCond .ne 6, 3) := by decide +kernel
theorem dX9_hoist_53 : decode cX9_hoist 53 = .ok (.bipush (-2), 2) := by decide +kernel
theorem dX9_hoist_55 : decode cX9_hoist 55 = .ok (.ireturn, 1) := by decide +kernel
theorem dX9_hoist_56 : decode cX9_hoist 56 = .ok (.aload_n 0, 1) := by decide +kernel
theorem dX9_hoist_57 : decode cX9_hoist 57 = .ok (.getfield 10, 3) := by decide +kernel
theorem dX9_hoist_60 : decode cX9_hoist 60 = .ok (.iload 4, 2) := by decide +kernel
theorem dX9_hoist_62 : decode cX9_hoist 62 = .ok (.invokevirtual 103, 3) := by decide +kernel
theorem dX9_hoist_65 : decode cX9_hoist 65 = .ok (.istore 6, 2) := by decide +kernel
theorem dX9_hoist_67 : decode cX9_hoist 67 = .ok (.aload_n 0, 1) := by decide +kernel
theorem dX9_hoist_68 : decode cX9_hoist 68 = .ok (.iload_n 1, 1) := by decide +kernel
theorem dX9_hoist_69 : decode cX9_hoist 69 = .ok (.iload_n 3, 1) := by decide +kernel
theorem dX9_hoist_70 : decode cX9_hoist 70 = .ok (.iload 6, 2) := by decide +kernel
theorem dX9_hoist_72 : decode cX9_hoist 72 = .ok (.invokevirtual 134, 3) := by decide +kernel
theorem dX9_hoist_75 : decode cX9_hoist 75 = .ok (.iconst 1, 1) := by decide +kernel
theorem dX9_hoist_76 : decode cX9_hoist 76 = .ok (.if_icmp .eq 6, 3) := by decide +kernel
theorem dX9_hoist_79 : decode cX9_hoist 79 = .ok (.bipush (-3), 2) := by decide +kernel
theorem dX9_hoist_81 : decode cX9_hoist 81 = .ok (.ireturn, 1) := by decide +kernel
theorem dX9_hoist_82 : decode cX9_hoist 82 = .ok (.iload_n 2, 1) := by decide +kernel
theorem dX9_hoist_83 : decode cX9_hoist 83 = .ok (.iconst (-1), 1) := by decide +kernel
theorem dX9_hoist_84 : decode cX9_hoist 84 = .ok (.if_icmp .eq 33, 3) := by decide +kernel
theorem dX9_hoist_87 : decode cX9_hoist 87 = .ok (.aload_n 0, 1) := by decide +kernel
theorem dX9_hoist_88 : decode cX9_hoist 88 = .ok (.getfield 26, 3) := by decide +kernel
theorem dX9_hoist_91 : decode cX9_hoist 91 = .ok (.getfield 142, 3) := by decide +kernel
theorem dX9_hoist_94 : decode cX9_hoist 94 = .ok (.iload_n 2, 1) := by decide +kernel
theorem dX9_hoist_95 : decode cX9_hoist 95 = .ok (.baload, 1) := by decide +kernel
theorem dX9_hoist_96 : decode cX9_hoist 96 = .ok (.ifCond .eq 6, 3) := by decide +kernel
theorem dX9_hoist_99 : decode cX9_hoist 99 = .ok (.bipush (-3), 2) := by decide +kernel
theorem dX9_hoist_101 : decode cX9_hoist 101 = .ok (.ireturn, 1) := by decide +kernel
theorem dX9_hoist_102 : decode cX9_hoist 102 = .ok (.aload_n 0, 1) := by decide +kernel
theorem dX9_hoist_103 : decode cX9_hoist 103 = .ok (.getfield 26, 3) := by decide +kernel
theorem dX9_hoist_106 : decode cX9_hoist 106 = .ok (.iload_n 2, 1) := by decide +kernel
theorem dX9_hoist_107 : decode cX9_hoist 107 = .ok (.iload_n 3, 1) := by decide +kernel
theorem dX9_hoist_108 : decode cX9_hoist 108 = .ok (.invokevirtual 146, 3) := by decide +kernel
theorem dX9_hoist_111 : decode cX9_hoist 111 = .ok (.ifCond .ne 6, 3) := by decide +kernel
theorem dX9_hoist_114 : decode cX9_hoist 114 = .ok (.bipush (-10), 2) := by decide +kernel
theorem dX9_hoist_116 : decode cX9_hoist 116 = .ok (.ireturn, 1) := by decide +kernel
theorem dX9_hoist_117 : decode cX9_hoist 117 = .ok (.aload_n 0, 1) := by decide +kernel
theorem dX9_hoist_118 : decode cX9_hoist 118 = .ok (.getfield 19, 3) := by decide +kernel
theorem dX9_hoist_121 : decode cX9_hoist 121 = .ok (.iload_n 1, 1) := by decide +kernel
theorem dX9_hoist_122 : decode cX9_hoist 122 = .ok (.iload_n 3, 1) := by decide +kernel
theorem dX9_hoist_123 : decode cX9_hoist 123 = .ok (.iload 6, 2) := by decide +kernel
theorem dX9_hoist_125 : decode cX9_hoist 125 = .ok (.invokestatic 149, 3) := by decide +kernel
theorem dX9_hoist_128 : decode cX9_hoist 128 = .ok (.invokevirtual 153, 3) := by decide +kernel
theorem dX9_hoist_131 : decode cX9_hoist 131 = .ok (.iload 6, 2) := by decide +kernel
theorem dX9_hoist_133 : decode cX9_hoist 133 = .ok (.ireturn, 1) := by decide +kernel
theorem dX9_ability_0 : decode cX9_ability 0 = .ok (.aload_n 0, 1) := by decide +kernel
theorem dX9_ability_1 : decode cX9_ability 1 = .ok (.getfield 10, 3) := by decide +kernel
theorem dX9_ability_4 : decode cX9_ability 4 = .ok (.aload_n 0, 1) := by decide +kernel
theorem dX9_ability_5 : decode cX9_ability 5 = .ok (.getfield 19, 3) := by decide +kernel
theorem dX9_ability_8 : decode cX9_ability 8 = .ok (.iload_n 1, 1) := by decide +kernel
theorem dX9_ability_9 : decode cX9_ability 9 = .ok (.invokevirtual 157, 3) := by decide +kernel
theorem dX9_ability_12 : decode cX9_ability 12 = .ok (.iload_n 2, 1) := by decide +kernel
theorem dX9_ability_13 : decode cX9_ability 13 = .ok (.iload_n 3, 1) := by decide +kernel
theorem dX9_ability_14 : decode cX9_ability 14 = .ok (.invokevirtual 160, 3) := by decide +kernel
theorem dX9_ability_17 : decode cX9_ability 17 = .ok (.ifCond .ne 5, 3) := by decide +kernel
theorem dX9_ability_20 : decode cX9_ability 20 = .ok (.iconst 0, 1) := by decide +kernel
theorem dX9_ability_21 : decode cX9_ability 21 = .ok (.ireturn, 1) := by decide +kernel
theorem dX9_ability_22 : decode cX9_ability 22 = .ok (.aload_n 0, 1) := by decide +kernel
theorem dX9_ability_23 : decode cX9_ability 23 = .ok (.getfield 19, 3) := by decide +kernel
theorem dX9_ability_26 : decode cX9_ability 26 = .ok (.iload_n 1, 1) := by decide +kernel
theorem dX9_ability_27 : decode cX9_ability 27 = .ok (.iload_n 2, 1) := by decide +kernel
theorem dX9_ability_28 : decode cX9_ability 28 = .ok (.iload_n 3, 1) := by decide +kernel
theorem dX9_ability_29 : decode cX9_ability 29 = .ok (.invokestatic 149, 3) := by decide +kernel
theorem dX9_ability_32 : decode cX9_ability 32 = .ok (.invokevirtual 163, 3) := by decide +kernel
theorem dX9_ability_35 : decode cX9_ability 35 = .ok (.ifCond .eq 7, 3) := by decide +kernel
theorem dX9_ability_38 : decode cX9_ability 38 = .ok (.iconst 1, 1) := by decide +kernel
theorem dX9_ability_39 : decode cX9_ability 39 = .ok (.goto 4, 3) := by decide +kernel
theorem dX9_ability_42 : decode cX9_ability 42 = .ok (.iconst 2, 1) := by decide +kernel
theorem dX9_ability_43 : decode cX9_ability 43 = .ok (.ireturn, 1) := by decide +kernel
theorem dX9_costOf_0 : decode cX9_costOf 0 = .ok (.iload_n 1, 1) := by decide +kernel
theorem dX9_costOf_1 : decode cX9_costOf 1 = .ok (.iconst 1, 1) := by decide +kernel
theorem dX9_costOf_2 : decode cX9_costOf 2 = .ok (.iload_n 0, 1) := by decide +kernel
theorem dX9_costOf_3 : decode cX9_costOf 3 = .ok (.sipush 1000, 3) := by decide +kernel
theorem dX9_costOf_6 : decode cX9_costOf 6 = .ok (.idiv, 1) := by decide +kernel
theorem dX9_costOf_7 : decode cX9_costOf 7 = .ok (.iadd, 1) := by decide +kernel
theorem dX9_costOf_8 : decode cX9_costOf 8 = .ok (.imul, 1) := by decide +kernel
theorem dX9_costOf_9 : decode cX9_costOf 9 = .ok (.ireturn, 1) := by decide +kernel
theorem dX9_isLoad_0 : decode cX9_isLoad 0 = .ok (.iload_n 0, 1) := by decide +kernel
theorem dX9_isLoad_1 : decode cX9_isLoad 1 = .ok (.iconst 1, 1) := by decide +kernel
theorem dX9_isLoad_2 : decode cX9_isLoad 2 = .ok (.ldc 166, 2) := by decide +kernel
theorem dX9_isLoad_4 : decode cX9_isLoad 4 = .ok (.invokestatic 76, 3) := by decide +kernel
theorem dX9_isLoad_7 : decode cX9_isLoad 7 = .ok (.ireturn, 1) := by decide +kernel
theorem dX9_isLift_0 : decode cX9_isLift 0 = .ok (.iload_n 0, 1) := by decide +kernel
theorem dX9_isLift_1 : decode cX9_isLift 1 = .ok (.invokestatic 167, 3) := by decide +kernel
theorem dX9_isLift_4 : decode cX9_isLift 4 = .ok (.ifCond .eq 18, 3) := by decide +kernel
theorem dX9_isLift_7 : decode cX9_isLift 7 = .ok (.iload_n 1, 1) := by decide +kernel
theorem dX9_isLift_8 : decode cX9_isLift 8 = .ok (.iconst 0, 1) := by decide +kernel
theorem dX9_isLift_9 : decode cX9_isLift 9 = .ok (.sipush 20000, 3) := by decide +kernel
theorem dX9_isLift_12 : decode cX9_isLift 12 = .ok (.invokestatic 76, 3) := by decide +kernel
theorem dX9_isLift_15 : decode cX9_isLift 15 = .ok (.ifCond .eq 7, 3) := by decide +kernel
theorem dX9_isLift_18 : decode cX9_isLift 18 = .ok (.iconst 1, 1) := by decide +kernel
theorem dX9_isLift_19 : decode cX9_isLift 19 = .ok (.goto 4, 3) := by decide +kernel
theorem dX9_isLift_22 : decode cX9_isLift 22 = .ok (.iconst 0, 1) := by decide +kernel
theorem dX9_isLift_23 : decode cX9_isLift 23 = .ok (.ireturn, 1) := by decide +kernel
theorem dX9_rope_0 : decode cX9_rope 0 = .ok (.iload_n 1, 1) := by decide +kernel
theorem dX9_rope_1 : decode cX9_rope 1 = .ok (.invokestatic 171, 3) := by decide +kernel
theorem dX9_rope_4 : decode cX9_rope 4 = .ok (.ifCond .eq 14, 3) := by decide +kernel
theorem dX9_rope_7 : decode cX9_rope 7 = .ok (.aload_n 0, 1) := by decide +kernel
theorem dX9_rope_8 : decode cX9_rope 8 = .ok (.getfield 26, 3) := by decide +kernel
theorem dX9_rope_11 : decode cX9_rope 11 = .ok (.iload_n 1, 1) := by decide +kernel
theorem dX9_rope_12 : decode cX9_rope 12 = .ok (.invokevirtual 174, 3) := by decide +kernel
theorem dX9_rope_15 : decode cX9_rope 15 = .ok (.goto 5, 3) := by decide +kernel
theorem dX9_rope_18 : decode cX9_rope 18 = .ok (.bipush (-2), 2) := by decide +kernel
theorem dX9_rope_20 : decode cX9_rope 20 = .ok (.ireturn, 1) := by decide +kernel
theorem dX9_wet_0 : decode cX9_wet 0 = .ok (.iload_n 1, 1) := by decide +kernel
theorem dX9_wet_1 : decode cX9_wet 1 = .ok (.iconst 0, 1) := by decide +kernel
theorem dX9_wet_2 : decode cX9_wet 2 = .ok (.aload_n 0, 1) := by decide +kernel
theorem dX9_wet_3 : decode cX9_wet 3 = .ok (.getfield 26, 3) := by decide +kernel
theorem dX9_wet_6 : decode cX9_wet 6 = .ok (.getfield 141, 3) := by decide +kernel
theorem dX9_wet_9 : decode cX9_wet 9 = .ok (.iconst 1, 1) := by decide +kernel
theorem dX9_wet_10 : decode cX9_wet 10 = .ok (.isub, 1) := by decide +kernel
theorem dX9_wet_11 : decode cX9_wet 11 = .ok (.invokestatic 76, 3) := by decide +kernel
theorem dX9_wet_14 : decode cX9_wet 14 = .ok (.ifCond .ne 6, 3) := by decide +kernel
theorem dX9_wet_17 : decode cX9_wet 17 = .ok (.bipush (-2), 2) := by decide +kernel
theorem dX9_wet_19 : decode cX9_wet 19 = .ok (.ireturn, 1) := by decide +kernel
theorem dX9_wet_20 : decode cX9_wet 20 = .ok (.aload_n 0, 1) := by decide +kernel
theorem dX9_wet_21 : decode cX9_wet 21 = .ok (.getfield 26, 3) := by decide +kernel
theorem dX9_wet_24 : decode cX9_wet 24 = .ok (.getfield 177, 3) := by decide +kernel
theorem dX9_wet_27 : decode cX9_wet 27 = .ok (.iload_n 1, 1) := by decide +kernel
theorem dX9_wet_28 : decode cX9_wet 28 = .ok (.baload, 1) := by decide +kernel
theorem dX9_wet_29 : decode cX9_wet 29 = .ok (.iload_n 2, 1) := by decide +kernel
theorem dX9_wet_30 : decode cX9_wet 30 = .ok (.if_icmp .ne 6, 3) := by decide +kernel
theorem dX9_wet_33 : decode cX9_wet 33 = .ok (.bipush (-3), 2) := by decide +kernel
theorem dX9_wet_35 : decode cX9_wet 35 = .ok (.ireturn, 1) := by decide +kernel
theorem dX9_wet_36 : decode cX9_wet 36 = .ok (.aload_n 0, 1) := by decide +kernel
theorem dX9_wet_37 : decode cX9_wet 37 = .ok (.getfield 26, 3) := by decide +kernel
theorem dX9_wet_40 : decode cX9_wet 40 = .ok (.getfield 177, 3) := by decide +kernel
theorem dX9_wet_43 : decode cX9_wet 43 = .ok (.iload_n 1, 1) := by decide +kernel
theorem dX9_wet_44 : decode cX9_wet 44 = .ok (.iload_n 2, 1) := by decide +kernel
theorem dX9_wet_45 : decode cX9_wet 45 = .ok (.bastore, 1) := by decide +kernel
theorem dX9_wet_46 : decode cX9_wet 46 = .ok (.iconst 1, 1) := by decide +kernel
theorem dX9_wet_47 : decode cX9_wet 47 = .ok (.ireturn, 1) := by decide +kernel
theorem dX9_about_0 : decode cX9_about 0 = .ok (.iload_n 1, 1) := by decide +kernel
theorem dX9_about_1 : decode cX9_about 1 = .ok (.iconst 0, 1) := by decide +kernel
theorem dX9_about_2 : decode cX9_about 2 = .ok (.aload_n 0, 1) := by decide +kernel
theorem dX9_about_3 : decode cX9_about 3 = .ok (.getfield 26, 3) := by decide +kernel
theorem dX9_about_6 : decode cX9_about 6 = .ok (.getfield 141, 3) := by decide +kernel
theorem dX9_about_9 : decode cX9_about 9 = .ok (.iconst 1, 1) := by decide +kernel
theorem dX9_about_10 : decode cX9_about 10 = .ok (.isub, 1) := by decide +kernel
theorem dX9_about_11 : decode cX9_about 11 = .ok (.invokestatic 76, 3) := by decide +kernel
theorem dX9_about_14 : decode cX9_about 14 = .ok (.ifCond .eq 12, 3) := by decide +kernel
theorem dX9_about_17 : decode cX9_about 17 = .ok (.iload_n 2, 1) := by decide +kernel
theorem dX9_about_18 : decode cX9_about 18 = .ok (.iconst 0, 1) := by decide +kernel
theorem dX9_about_19 : decode cX9_about 19 = .ok (.iconst 4, 1) := by decide +kernel
theorem dX9_about_20 : decode cX9_about 20 = .ok (.invokestatic 76, 3) := by decide +kernel
theorem dX9_about_23 : decode cX9_about 23 = .ok (.ifCond .ne 6, 3) := by decide +kernel
theorem dX9_about_26 : decode cX9_about 26 = .ok (.bipush (-2), 2) := by decide +kernel
theorem dX9_about_28 : decode cX9_about 28 = .ok (.ireturn, 1) := by decide +kernel
theorem dX9_about_29 : decode cX9_about 29 = .ok (.aload_n 0, 1) := by decide +kernel
theorem dX9_about_30 : decode cX9_about 30 = .ok (.getfield 26, 3) := by decide +kernel
theorem dX9_about_33 : decode cX9_about 33 = .ok (.iload_n 1, 1) := by decide +kernel
theorem dX9_about_34 : decode cX9_about 34 = .ok (.iload_n 2, 1) := by decide +kernel
theorem dX9_about_35 : decode cX9_about 35 = .ok (.invokevirtual 180, 3) := by decide +kernel
theorem dX9_about_38 : decode cX9_about 38 = .ok (.ireturn, 1) := by decide +kernel
theorem dX9_pull_0 : decode cX9_pull 0 = .ok (.iload_n 1, 1) := by decide +kernel
theorem dX9_pull_1 : decode cX9_pull 1 = .ok (.iconst 0, 1) := by decide +kernel
theorem dX9_pull_2 : decode cX9_pull 2 = .ok (.aload_n 0, 1) := by decide +kernel
theorem dX9_pull_3 : decode cX9_pull 3 = .ok (.getfield 26, 3) := by decide +kernel
theorem dX9_pull_6 : decode cX9_pull 6 = .ok (.getfield 141, 3) := by decide +kernel
theorem dX9_pull_9 : decode cX9_pull 9 = .ok (.iconst 1, 1) := by decide +kernel
theorem dX9_pull_10 : decode cX9_pull 10 = .ok (.isub, 1) := by decide +kernel
theorem dX9_pull_11 : decode cX9_pull 11 = .ok (.invokestatic 76, 3) := by decide +kernel
theorem dX9_pull_14 : decode cX9_pull 14 = .ok (.ifCond .eq 10, 3) := by decide +kernel
theorem dX9_pull_17 : decode cX9_pull 17 = .ok (.iload_n 2, 1) := by decide +kernel
theorem dX9_pull_18 : decode cX9_pull 18 = .ok (.invokestatic 167, 3) := by decide +kernel
theorem dX9_pull_21 : decode cX9_pull 21 = .ok (.ifCond .ne 6, 3) := by decide +kernel
theorem dX9_pull_24 : decode cX9_pull 24 = .ok (.bipush (-2), 2) := by decide +kernel
theorem dX9_pull_26 : decode cX9_pull 26 = .ok (.ireturn, 1) := by decide +kernel
theorem dX9_pull_27 : decode cX9_pull 27 = .ok (.aload_n 0, 1) := by decide +kernel
theorem dX9_pull_28 : decode cX9_pull 28 = .ok (.getfield 26, 3) := by decide +kernel
theorem dX9_pull_31 : decode cX9_pull 31 = .ok (.getfield 142, 3) := by decide +kernel
theorem dX9_pull_34 : decode cX9_pull 34 = .ok (.iload_n 1, 1) := by decide +kernel
theorem dX9_pull_35 : decode cX9_pull 35 = .ok (.baload, 1) := by decide +kernel
theorem dX9_pull_36 : decode cX9_pull 36 = .ok (.ifCond .eq 6, 3) := by decide +kernel
theorem dX9_pull_39 : decode cX9_pull 39 = .ok (.bipush (-3), 2) := by decide +kernel
theorem dX9_pull_41 : decode cX9_pull 41 = .ok (.ireturn, 1) := by decide +kernel
theorem dX9_pull_42 : decode cX9_pull 42 = .ok (.aload_n 0, 1) := by decide +kernel
theorem dX9_pull_43 : decode cX9_pull 43 = .ok (.getfield 26, 3) := by decide +kernel
theorem dX9_pull_46 : decode cX9_pull 46 = .ok (.iload_n 1, 1) := by decide +kernel
theorem dX9_pull_47 : decode cX9_pull 47 = .ok (.iload_n 2, 1) := by decide +kernel
theorem dX9_pull_48 : decode cX9_pull 48 = .ok (.invokevirtual 146, 3) := by decide +kernel
theorem dX9_pull_51 : decode cX9_pull 51 = .ok (.ifCond .eq 7, 3) := by decide +kernel
theorem dX9_pull_54 : decode cX9_pull 54 = .ok (.iconst 1, 1) := by decide +kernel
theorem dX9_pull_55 : decode cX9_pull 55 = .ok (.goto 4, 3) := by decide +kernel
theorem dX9_pull_58 : decode cX9_pull 58 = .ok (.iconst 0, 1) := by decide +kernel
theorem dX9_pull_59 : decode cX9_pull 59 = .ok (.ireturn, 1) := by decide +kernel
theorem dX9_load_0 : decode cX9_load 0 = .ok (.iload_n 1, 1) := by decide +kernel
theorem dX9_load_1 : decode cX9_load 1 = .ok (.invokestatic 167, 3) := by decide +kernel
theorem dX9_load_4 : decode cX9_load 4 = .ok (.ifCond .eq 14, 3) := by decide +kernel
theorem dX9_load_7 : decode cX9_load 7 = .ok (.aload_n 0, 1) := by decide +kernel
theorem dX9_load_8 : decode cX9_load 8 = .ok (.getfield 33, 3) := by decide +kernel
theorem dX9_load_11 : decode cX9_load 11 = .ok (.iload_n 1, 1) := by decide +kernel
theorem dX9_load_12 : decode cX9_load 12 = .ok (.invokevirtual 183, 3) := by decide +kernel
theorem dX9_load_15 : decode cX9_load 15 = .ok (.goto 5, 3) := by decide +kernel
theorem dX9_load_18 : decode cX9_load 18 = .ok (.bipush (-2), 2) := by decide +kernel
theorem dX9_load_20 : decode cX9_load 20 = .ok (.ireturn, 1) := by decide +kernel
theorem dX9_clear_0 : decode cX9_clear 0 = .ok (.aload_n 0, 1) := by decide +kernel
theorem dX9_clear_1 : decode cX9_clear 1 = .ok (.getfield 33, 3) := by decide +kernel
theorem dX9_clear_4 : decode cX9_clear 4 = .ok (.getfield 186, 3) := by decide +kernel
theorem dX9_clear_7 : decode cX9_clear 7 = .ok (.istore_n 1, 1) := by decide +kernel
theorem dX9_clear_8 : decode cX9_clear 8 = .ok (.aload_n 0, 1) := by decide +kernel
theorem dX9_clear_9 : decode cX9_clear 9 = .ok (.getfield 33, 3) := by decide +kernel
theorem dX9_clear_12 : decode cX9_clear 12 = .ok (.iconst 0, 1) := by decide +kernel
theorem dX9_clear_13 : decode cX9_clear 13 = .ok (.putfield 186, 3) := by decide +kernel
theorem dX9_clear_16 : decode cX9_clear 16 = .ok (.iload_n 1, 1) := by decide +kernel
theorem dX9_clear_17 : decode cX9_clear 17 = .ok (.ireturn, 1) := by decide +kernel
theorem dX9_bears_0 : decode cX9_bears 0 = .ok (.iload_n 1, 1) := by decide +kernel
theorem dX9_bears_1 : decode cX9_bears 1 = .ok (.invokestatic 171, 3) := by decide +kernel
theorem dX9_bears_4 : decode cX9_bears 4 = .ok (.ifCond .eq 14, 3) := by decide +kernel
theorem dX9_bears_7 : decode cX9_bears 7 = .ok (.aload_n 0, 1) := by decide +kernel
theorem dX9_bears_8 : decode cX9_bears 8 = .ok (.getfield 33, 3) := by decide +kernel
theorem dX9_bears_11 : decode cX9_bears 11 = .ok (.iload_n 1, 1) := by decide +kernel
theorem dX9_bears_12 : decode cX9_bears 12 = .ok (.invokevirtual 187, 3) := by decide +kernel
theorem dX9_bears_15 : decode cX9_bears 15 = .ok (.goto 5, 3) := by decide +kernel
theorem dX9_bears_18 : decode cX9_bears 18 = .ok (.bipush (-2), 2) := by decide +kernel
theorem dX9_bears_20 : decode cX9_bears 20 = .ok (.ireturn, 1) := by decide +kernel
theorem dX9_blamed_0 : decode cX9_blamed 0 = .ok (.iload_n 1, 1) := by decide +kernel
theorem dX9_blamed_1 : decode cX9_blamed 1 = .ok (.invokestatic 171, 3) := by decide +kernel
theorem dX9_blamed_4 : decode cX9_blamed 4 = .ok (.ifCond .eq 20, 3) := by decide +kernel
theorem dX9_blamed_7 : decode cX9_blamed 7 = .ok (.iload_n 2, 1) := by decide +kernel
theorem dX9_blamed_8 : decode cX9_blamed 8 = .ok (.iconst 0, 1) := by decide +kernel
theorem dX9_blamed_9 : decode cX9_blamed 9 = .ok (.aload_n 0, 1) := by decide +kernel
theorem dX9_blamed_10 : decode cX9_blamed 10 = .ok (.getfield 33, 3) := by decide +kernel
theorem dX9_blamed_13 : decode cX9_blamed 13 = .ok (.getfield 186, 3) := by decide +kernel
theorem dX9_blamed_16 : decode cX9_blamed 16 = .ok (.iconst 1, 1) := by decide +kernel
theorem dX9_blamed_17 : decode cX9_blamed 17 = .ok (.isub, 1) := by decide +kernel
theorem dX9_blamed_18 : decode cX9_blamed 18 = .ok (.invokestatic 76, 3) := by decide +kernel
theorem dX9_blamed_21 : decode cX9_blamed 21 = .ok (.ifCond .ne 6, 3) := by decide +kernel
theorem dX9_blamed_24 : decode cX9_blamed 24 = .ok (.bipush (-2), 2) := by decide +kernel
theorem dX9_blamed_26 : decode cX9_blamed 26 = .ok (.ireturn, 1) := by decide +kernel
theorem dX9_blamed_27 : decode cX9_blamed 27 = .ok (.aload_n 0, 1) := by decide +kernel
theorem dX9_blamed_28 : decode cX9_blamed 28 = .ok (.getfield 33, 3) := by decide +kernel
theorem dX9_blamed_31 : decode cX9_blamed 31 = .ok (.iload_n 1, 1) := by decide +kernel
theorem dX9_blamed_32 : decode cX9_blamed 32 = .ok (.invokevirtual 187, 3) := by decide +kernel
theorem dX9_blamed_35 : decode cX9_blamed 35 = .ok (.istore_n 3, 1) := by decide +kernel
theorem dX9_blamed_36 : decode cX9_blamed 36 = .ok (.iload_n 3, 1) := by decide +kernel
theorem dX9_blamed_37 : decode cX9_blamed 37 = .ok (.iconst (-1), 1) := by decide +kernel
theorem dX9_blamed_38 : decode cX9_blamed 38 = .ok (.if_icmp .eq 11, 3) := by decide +kernel
theorem dX9_blamed_41 : decode cX9_blamed 41 = .ok (.iload_n 3, 1) := by decide +kernel
theorem dX9_blamed_42 : decode cX9_blamed 42 = .ok (.iload_n 2, 1) := by decide +kernel
theorem dX9_blamed_43 : decode cX9_blamed 43 = .ok (.if_icmp .gt 6, 3) := by decide +kernel
theorem dX9_blamed_46 : decode cX9_blamed 46 = .ok (.bipush (-3), 2) := by decide +kernel
theorem dX9_blamed_48 : decode cX9_blamed 48 = .ok (.ireturn, 1) := by decide +kernel
theorem dX9_blamed_49 : decode cX9_blamed 49 = .ok (.aload_n 0, 1) := by decide +kernel
theorem dX9_blamed_50 : decode cX9_blamed 50 = .ok (.getfield 33, 3) := by decide +kernel
theorem dX9_blamed_53 : decode cX9_blamed 53 = .ok (.iload_n 1, 1) := by decide +kernel
theorem dX9_blamed_54 : decode cX9_blamed 54 = .ok (.iload_n 2, 1) := by decide +kernel
theorem dX9_blamed_55 : decode cX9_blamed 55 = .ok (.invokevirtual 190, 3) := by decide +kernel
theorem dX9_blamed_58 : decode cX9_blamed 58 = .ok (.ireturn, 1) := by decide +kernel
theorem dX9_isStrength_0 : decode cX9_isStrength 0 = .ok (.iload_n 0, 1) := by decide +kernel
theorem dX9_isStrength_1 : decode cX9_isStrength 1 = .ok (.bipush 100, 2) := by decide +kernel
theorem dX9_isStrength_3 : decode cX9_isStrength 3 = .ok (.ldc 166, 2) := by decide +kernel
theorem dX9_isStrength_5 : decode cX9_isStrength 5 = .ok (.invokestatic 76, 3) := by decide +kernel
theorem dX9_isStrength_8 : decode cX9_isStrength 8 = .ok (.ireturn, 1) := by decide +kernel
theorem dX9_stone_0 : decode cX9_stone 0 = .ok (.iload_n 1, 1) := by decide +kernel
theorem dX9_stone_1 : decode cX9_stone 1 = .ok (.iload_n 2, 1) := by decide +kernel
theorem dX9_stone_2 : decode cX9_stone 2 = .ok (.invokestatic 193, 3) := by decide +kernel
theorem dX9_stone_5 : decode cX9_stone 5 = .ok (.ifCond .eq 33, 3) := by decide +kernel
theorem dX9_stone_8 : decode cX9_stone 8 = .ok (.iload_n 3, 1) := by decide +kernel
theorem dX9_stone_9 : decode cX9_stone 9 = .ok (.iconst 1, 1) := by decide +kernel
theorem dX9_stone_10 : decode cX9_stone 10 = .ok (.bipush 12, 2) := by decide +kernel
theorem dX9_stone_12 : decode cX9_stone 12 = .ok (.invokestatic 76, 3) := by decide +kernel
theorem dX9_stone_15 : decode cX9_stone 15 = .ok (.ifCond .eq 23, 3) := by decide +kernel
theorem dX9_stone_18 : decode cX9_stone 18 = .ok (.iload 4, 2) := by decide +kernel
theorem dX9_stone_20 : decode cX9_stone 20 = .ok (.iconst 0, 1) := by decide +kernel
theorem dX9_stone_21 : decode cX9_stone 21 = .ok (.aload_n 0, 1) := by decide +kernel
theorem dX9_stone_22 : decode cX9_stone 22 = .ok (.getfield 40, 3) := by decide +kernel
theorem dX9_stone_25 : decode cX9_stone 25 = .ok (.invokevirtual 196, 3) := by decide +kernel
theorem dX9_stone_28 : decode cX9_stone 28 = .ok (.invokestatic 76, 3) := by decide +kernel
theorem dX9_stone_31 : decode cX9_stone 31 = .ok (.ifCond .eq 7, 3) := by decide +kernel
theorem dX9_stone_34 : decode cX9_stone 34 = .ok (.iconst 1, 1) := by decide +kernel
theorem dX9_stone_35 : decode cX9_stone 35 = .ok (.goto 4, 3) := by decide +kernel
theorem dX9_stone_38 : decode cX9_stone 38 = .ok (.iconst 0, 1) := by decide +kernel
theorem dX9_stone_39 : decode cX9_stone 39 = .ok (.istore 5, 2) := by decide +kernel
theorem dX9_stone_41 : decode cX9_stone 41 = .ok (.iload 5, 2) := by decide +kernel
theorem dX9_stone_43 : decode cX9_stone 43 = .ok (.ifCond .ne 6, 3) := by decide +kernel
theorem dX9_stone_46 : decode cX9_stone 46 = .ok (.bipush (-2), 2) := by decide +kernel
theorem dX9_stone_48 : decode cX9_stone 48 = .ok (.ireturn, 1) := by decide +kernel
theorem dX9_stone_49 : decode cX9_stone 49 = .ok (.aload_n 0, 1) := by decide +kernel
theorem dX9_stone_50 : decode cX9_stone 50 = .ok (.invokevirtual 199, 3) := by decide +kernel
theorem dX9_stone_53 : decode cX9_stone 53 = .ok (.aload_n 0, 1) := by decide +kernel
theorem dX9_stone_54 : decode cX9_stone 54 = .ok (.getfield 40, 3) := by decide +kernel
theorem dX9_stone_57 : decode cX9_stone 57 = .ok (.iload_n 1, 1) := by decide +kernel
theorem dX9_stone_58 : decode cX9_stone 58 = .ok (.iload_n 2, 1) := by decide +kernel
theorem dX9_stone_59 : decode cX9_stone 59 = .ok (.iload_n 3, 1) := by decide +kernel
theorem dX9_stone_60 : decode cX9_stone 60 = .ok (.iload 4, 2) := by decide +kernel
theorem dX9_stone_62 : decode cX9_stone 62 = .ok (.invokevirtual 202, 3) := by decide +kernel
theorem dX9_stone_65 : decode cX9_stone 65 = .ok (.ireturn, 1) := by decide +kernel
theorem dX9_arched_0 : decode cX9_arched 0 = .ok (.aload_n 0, 1) := by decide +kernel
theorem dX9_arched_1 : decode cX9_arched 1 = .ok (.iload_n 1, 1) := by decide +kernel
theorem dX9_arched_2 : decode cX9_arched 2 = .ok (.invokevirtual 205, 3) := by decide +kernel
theorem dX9_arched_5 : decode cX9_arched 5 = .ok (.ifCond .eq 16, 3) := by decide +kernel
theorem dX9_arched_8 : decode cX9_arched 8 = .ok (.aload_n 0, 1) := by decide +kernel
theorem dX9_arched_9 : decode cX9_arched 9 = .ok (.iload_n 2, 1) := by decide +kernel
theorem dX9_arched_10 : decode cX9_arched 10 = .ok (.invokevirtual 205, 3) := by decide +kernel
theorem dX9_arched_13 : decode cX9_arched 13 = .ok (.ifCond .eq 8, 3) := by decide +kernel
theorem dX9_arched_16 : decode cX9_arched 16 = .ok (.iload_n 1, 1) := by decide +kernel
theorem dX9_arched_17 : decode cX9_arched 17 = .ok (.iload_n 2, 1) := by decide +kernel
theorem dX9_arched_18 : decode cX9_arched 18 = .ok (.if_icmp .ne 6, 3) := by decide +kernel
theorem dX9_arched_21 : decode cX9_arched 21 = .ok (.bipush (-2), 2) := by decide +kernel
theorem dX9_arched_23 : decode cX9_arched 23 = .ok (.ireturn, 1) := by decide +kernel
theorem dX9_arched_24 : decode cX9_arched 24 = .ok (.aload_n 0, 1) := by decide +kernel
theorem dX9_arched_25 : decode cX9_arched 25 = .ok (.getfield 40, 3) := by decide +kernel
theorem dX9_arched_28 : decode cX9_arched 28 = .ok (.getfield 208, 3) := by decide +kernel
theorem dX9_arched_31 : decode cX9_arched 31 = .ok (.iload_n 1, 1) := by decide +kernel
theorem dX9_arched_32 : decode cX9_arched 32 = .ok (.iaload, 1) := by decide +kernel
theorem dX9_arched_33 : decode cX9_arched 33 = .ok (.iconst (-1), 1) := by decide +kernel
theorem dX9_arched_34 : decode cX9_arched 34 = .ok (.if_icmp .eq 6, 3) := by decide +kernel
theorem dX9_arched_37 : decode cX9_arched 37 = .ok (.bipush (-3), 2) := by decide +kernel
theorem dX9_arched_39 : decode cX9_arched 39 = .ok (.ireturn, 1) := by decide +kernel
theorem dX9_arched_40 : decode cX9_arched 40 = .ok (.aload_n 0, 1) := by decide +kernel
theorem dX9_arched_41 : decode cX9_arched 41 = .ok (.invokevirtual 199, 3) := by decide +kernel
theorem dX9_arched_44 : decode cX9_arched 44 = .ok (.aload_n 0, 1) := by decide +kernel
theorem dX9_arched_45 : decode cX9_arched 45 = .ok (.getfield 40, 3) := by decide +kernel
theorem dX9_arched_48 : decode cX9_arched 48 = .ok (.iload_n 1, 1) := by decide +kernel
theorem dX9_arched_49 : decode cX9_arched 49 = .ok (.iload_n 2, 1) := by decide +kernel
theorem dX9_arched_50 : decode cX9_arched 50 = .ok (.invokevirtual 211, 3) := by decide +kernel
theorem dX9_arched_53 : decode cX9_arched 53 = .ok (.iconst 1, 1) := by decide +kernel
theorem dX9_arched_54 : decode cX9_arched 54 = .ok (.ireturn, 1) := by decide +kernel
theorem dX9_centrings_0 : decode cX9_centrings 0 = .ok (.iload_n 1, 1) := by decide +kernel
theorem dX9_centrings_1 : decode cX9_centrings 1 = .ok (.iconst 0, 1) := by decide +kernel
theorem dX9_centrings_2 : decode cX9_centrings 2 = .ok (.iconst 5, 1) := by decide +kernel
theorem dX9_centrings_3 : decode cX9_centrings 3 = .ok (.invokestatic 76, 3) := by decide +kernel
theorem dX9_centrings_6 : decode cX9_centrings 6 = .ok (.ifCond .ne 6, 3) := by decide +kernel
theorem dX9_centrings_9 : decode cX9_centrings 9 = .ok (.bipush (-2), 2) := by decide +kernel
theorem dX9_centrings_11 : decode cX9_centrings 11 = .ok (.ireturn, 1) := by decide +kernel
theorem dX9_centrings_12 : decode cX9_centrings 12 = .ok (.aload_n 0, 1) := by decide +kernel
theorem dX9_centrings_13 : decode cX9_centrings 13 = .ok (.invokevirtual 199, 3) := by decide +kernel
theorem dX9_centrings_16 : decode cX9_centrings 16 = .ok (.aload_n 0, 1) := by decide +kernel
theorem dX9_centrings_17 : decode cX9_centrings 17 = .ok (.getfield 40, 3) := by decide +kernel
theorem dX9_centrings_20 : decode cX9_centrings 20 = .ok (.getfield 214, 3) := by decide +kernel
theorem dX9_centrings_23 : decode cX9_centrings 23 = .ok (.istore_n 2, 1) := by decide +kernel
theorem dX9_centrings_24 : decode cX9_centrings 24 = .ok (.aload_n 0, 1) := by decide +kernel
theorem dX9_centrings_25 : decode cX9_centrings 25 = .ok (.getfield 40, 3) := by decide +kernel
theorem dX9_centrings_28 : decode cX9_centrings 28 = .ok (.iload_n 1, 1) := by decide +kernel
theorem dX9_centrings_29 : decode cX9_centrings 29 = .ok (.putfield 214, 3) := by decide +kernel
theorem dX9_centrings_32 : decode cX9_centrings 32 = .ok (.iload_n 2, 1) := by decide +kernel
theorem dX9_centrings_33 : decode cX9_centrings 33 = .ok (.ireturn, 1) := by decide +kernel
theorem dX9_stand_0 : decode cX9_stand 0 = .ok (.iload_n 1, 1) := by decide +kernel
theorem dX9_stand_1 : decode cX9_stand 1 = .ok (.iload_n 2, 1) := by decide +kernel
theorem dX9_stand_2 : decode cX9_stand 2 = .ok (.invokestatic 193, 3) := by decide +kernel
theorem dX9_stand_5 : decode cX9_stand 5 = .ok (.ifCond .eq 14, 3) := by decide +kernel
theorem dX9_stand_8 : decode cX9_stand 8 = .ok (.iload_n 3, 1) := by decide +kernel
theorem dX9_stand_9 : decode cX9_stand 9 = .ok (.iconst 0, 1) := by decide +kernel
theorem dX9_stand_10 : decode cX9_stand 10 = .ok (.sipush 16383, 3) := by decide +kernel
theorem dX9_stand_13 : decode cX9_stand 13 = .ok (.invokestatic 76, 3) := by decide +kernel
theorem dX9_stand_16 : decode cX9_stand 16 = .ok (.ifCond .ne 6, 3) := by decide +kernel
theorem dX9_stand_19 : decode cX9_stand 19 = .ok (.bipush (-2), 2) := by decide +kernel
theorem dX9_stand_21 : decode cX9_stand 21 = .ok (.ireturn, 1) := by decide +kernel
theorem dX9_stand_22 : decode cX9_stand 22 = .ok (.aload_n 0, 1) := by decide +kernel
theorem dX9_stand_23 : decode cX9_stand 23 = .ok (.invokevirtual 199, 3) := by decide +kernel
theorem dX9_stand_26 : decode cX9_stand 26 = .ok (.aload_n 0, 1) := by decide +kernel
theorem dX9_stand_27 : decode cX9_stand 27 = .ok (.getfield 47, 3) := by decide +kernel
theorem dX9_stand_30 : decode cX9_stand 30 = .ok (.iload_n 1, 1) := by decide +kernel
theorem dX9_stand_31 : decode cX9_stand 31 = .ok (.iload_n 2, 1) := by decide +kernel
theorem dX9_stand_32 : decode cX9_stand 32 = .ok (.iload_n 3, 1) := by decide +kernel
theorem dX9_stand_33 : decode cX9_stand 33 = .ok (.invokevirtual 217, 3) := by decide +kernel
theorem dX9_stand_36 : decode cX9_stand 36 = .ok (.ireturn, 1) := by decide +kernel
theorem dX9_price_0 : decode cX9_price 0 = .ok (.aload_n 0, 1) := by decide +kernel
theorem dX9_price_1 : decode cX9_price 1 = .ok (.iload_n 1, 1) := by decide +kernel
theorem dX9_price_2 : decode cX9_price 2 = .ok (.invokevirtual 220, 3) := by decide +kernel
theorem dX9_price_5 : decode cX9_price 5 = .ok (.ifCond .eq 26, 3) := by decide +kernel
theorem dX9_price_8 : decode cX9_price 8 = .ok (.aload_n 0, 1) := by decide +kernel
theorem dX9_price_9 : decode cX9_price 9 = .ok (.iload_n 2, 1) := by decide +kernel
theorem dX9_price_10 : decode cX9_price 10 = .ok (.invokevirtual 220, 3) := by decide +kernel
theorem dX9_price_13 : decode cX9_price 13 = .ok (.ifCond .eq 18, 3) := by decide +kernel
theorem dX9_price_16 : decode cX9_price 16 = .ok (.iload_n 1, 1) := by decide +kernel
theorem dX9_price_17 : decode cX9_price 17 = .ok (.iload_n 2, 1) := by decide +kernel
theorem dX9_price_18 : decode cX9_price 18 = .ok (.if_icmp .eq 13, 3) := by decide +kernel
theorem dX9_price_21 : decode cX9_price 21 = .ok (.iload_n 3, 1) := by decide +kernel
theorem dX9_price_22 : decode cX9_price 22 = .ok (.iconst 1, 1) := by decide +kernel
theorem dX9_price_23 : decode cX9_price 23 = .ok (.bipush 100, 2) := by decide +kernel
theorem dX9_price_25 : decode cX9_price 25 = .ok (.invokestatic 76, 3) := by decide +kernel
theorem dX9_price_28 : decode cX9_price 28 = .ok (.ifCond .ne 6, 3) := by decide +kernel
theorem dX9_price_31 : decode cX9_price 31 = .ok (.bipush (-2), 2) := by decide +kernel
theorem dX9_price_33 : decode cX9_price 33 = .ok (.ireturn, 1) := by decide +kernel
theorem dX9_price_34 : decode cX9_price 34 = .ok (.aload_n 0, 1) := by decide +kernel
theorem dX9_price_35 : decode cX9_price 35 = .ok (.invokevirtual 199, 3) := by decide +kernel
theorem dX9_price_38 : decode cX9_price 38 = .ok (.aload_n 0, 1) := by decide +kernel
theorem dX9_price_39 : decode cX9_price 39 = .ok (.getfield 47, 3) := by decide +kernel
theorem dX9_price_42 : decode cX9_price 42 = .ok (.iload_n 1, 1) := by decide +kernel
theorem dX9_price_43 : decode cX9_price 43 = .ok (.iload_n 2, 1) := by decide +kernel
theorem dX9_price_44 : decode cX9_price 44 = .ok (.iload_n 3, 1) := by decide +kernel
theorem dX9_price_45 : decode cX9_price 45 = .ok (.invokevirtual 223, 3) := by decide +kernel
theorem dX9_price_48 : decode cX9_price 48 = .ok (.ireturn, 1) := by decide +kernel
theorem dX9_reach_0 : decode cX9_reach 0 = .ok (.iload_n 1, 1) := by decide +kernel
theorem dX9_reach_1 : decode cX9_reach 1 = .ok (.iconst 1, 1) := by decide +kernel
theorem dX9_reach_2 : decode cX9_reach 2 = .ok (.bipush 30, 2) := by decide +kernel
theorem dX9_reach_4 : decode cX9_reach 4 = .ok (.invokestatic 76, 3) := by decide +kernel
theorem dX9_reach_7 : decode cX9_reach 7 = .ok (.ifCond .eq 13, 3) := by decide +kernel
theorem dX9_reach_10 : decode cX9_reach 10 = .ok (.iload_n 2, 1) := by decide +kernel
theorem dX9_reach_11 : decode cX9_reach 11 = .ok (.iconst 1, 1) := by decide +kernel
theorem dX9_reach_12 : decode cX9_reach 12 = .ok (.bipush 12, 2) := by decide +kernel
theorem dX9_reach_14 : decode cX9_reach 14 = .ok (.invokestatic 76, 3) := by decide +kernel
theorem dX9_reach_17 : decode cX9_reach 17 = .ok (.ifCond .ne 6, 3) := by decide +kernel
theorem dX9_reach_20 : decode cX9_reach 20 = .ok (.bipush (-2), 2) := by decide +kernel
theorem dX9_reach_22 : decode cX9_reach 22 = .ok (.ireturn, 1) := by decide +kernel
theorem dX9_reach_23 : decode cX9_reach 23 = .ok (.aload_n 0, 1) := by decide +kernel
theorem dX9_reach_24 : decode cX9_reach 24 = .ok (.invokevirtual 199, 3) := by decide +kernel
theorem dX9_reach_27 : decode cX9_reach 27 = .ok (.aload_n 0, 1) := by decide +kernel
theorem dX9_reach_28 : decode cX9_reach 28 = .ok (.getfield 47, 3) := by decide +kernel
theorem dX9_reach_31 : decode cX9_reach 31 = .ok (.iload_n 1, 1) := by decide +kernel
theorem dX9_reach_32 : decode cX9_reach 32 = .ok (.putfield 226, 3) := by decide +kernel
theorem dX9_reach_35 : decode cX9_reach 35 = .ok (.aload_n 0, 1) := by decide +kernel
theorem dX9_reach_36 : decode cX9_reach 36 = .ok (.getfield 47, 3) := by decide +kernel
theorem dX9_reach_39 : decode cX9_reach 39 = .ok (.iload_n 2, 1) := by decide +kernel
theorem dX9_reach_40 : decode cX9_reach 40 = .ok (.putfield 229, 3) := by decide +kernel
theorem dX9_reach_43 : decode cX9_reach 43 = .ok (.iconst 1, 1) := by decide +kernel
theorem dX9_reach_44 : decode cX9_reach 44 = .ok (.ireturn, 1) := by decide +kernel
theorem dX9_reaches_0 : decode cX9_reaches 0 = .ok (.aload_n 0, 1) := by decide +kernel
theorem dX9_reaches_1 : decode cX9_reaches 1 = .ok (.iload_n 1, 1) := by decide +kernel
theorem dX9_reaches_2 : decode cX9_reaches 2 = .ok (.invokevirtual 220, 3) := by decide +kernel
theorem dX9_reaches_5 : decode cX9_reaches 5 = .ok (.ifCond .eq 11, 3) := by decide +kernel
theorem dX9_reaches_8 : decode cX9_reaches 8 = .ok (.aload_n 0, 1) := by decide +kernel
theorem dX9_reaches_9 : decode cX9_reaches 9 = .ok (.iload_n 2, 1) := by decide +kernel
theorem dX9_reaches_10 : decode cX9_reaches 10 = .ok (.invokevirtual 205, 3) := by decide +kernel
theorem dX9_reaches_13 : decode cX9_reaches 13 = .ok (.ifCond .ne 6, 3) := by decide +kernel
theorem dX9_reaches_16 : decode cX9_reaches 16 = .ok (.bipush (-2), 2) := by decide +kernel
theorem dX9_reaches_18 : decode cX9_reaches 18 = .ok (.ireturn, 1) := by decide +kernel
theorem dX9_reaches_19 : decode cX9_reaches 19 = .ok (.aload_n 0, 1) := by decide +kernel
theorem dX9_reaches_20 : decode cX9_reaches 20 = .ok (.getfield 47, 3) := by decide +kernel
theorem dX9_reaches_23 : decode cX9_reaches 23 = .ok (.iload_n 1, 1) := by decide +kernel
theorem dX9_reaches_24 : decode cX9_reaches 24 = .ok (.aload_n 0, 1) := by decide +kernel
theorem dX9_reaches_25 : decode cX9_reaches 25 = .ok (.getfield 40, 3) := by decide +kernel
theorem dX9_reaches_28 : decode cX9_reaches 28 = .ok (.getfield 232, 3) := by decide +kernel
theorem dX9_reaches_31 : decode cX9_reaches 31 = .ok (.iload_n 2, 1) := by decide +kernel
theorem dX9_reaches_32 : decode cX9_reaches 32 = .ok (.iaload, 1) := by decide +kernel
theorem dX9_reaches_33 : decode cX9_reaches 33 = .ok (.aload_n 0, 1) := by decide +kernel
theorem dX9_reaches_34 : decode cX9_reaches 34 = .ok (.getfield 40, 3) := by decide +kernel
theorem dX9_reaches_37 : decode cX9_reaches 37 = .ok (.getfield 235, 3) := by decide +kernel
theorem dX9_reaches_40 : decode cX9_reaches 40 = .ok (.iload_n 2, 1) := by decide +kernel
theorem dX9_reaches_41 : decode cX9_reaches 41 = .ok (.iaload, 1) := by decide +kernel
theorem dX9_reaches_42 : decode cX9_reaches 42 = .ok (.invokevirtual 238, 3) := by decide +kernel
theorem dX9_reaches_45 : decode cX9_reaches 45 = .ok (.ifCond .eq 7, 3) := by decide +kernel
theorem dX9_reaches_48 : decode cX9_reaches 48 = .ok (.iconst 1, 1) := by decide +kernel
theorem dX9_reaches_49 : decode cX9_reaches 49 = .ok (.goto 4, 3) := by decide +kernel
theorem dX9_reaches_52 : decode cX9_reaches 52 = .ok (.iconst 0, 1) := by decide +kernel
theorem dX9_reaches_53 : decode cX9_reaches 53 = .ok (.ireturn, 1) := by decide +kernel
theorem dX9_may_0 : decode cX9_may 0 = .ok (.iload_n 1, 1) := by decide +kernel
theorem dX9_may_1 : decode cX9_may 1 = .ok (.iconst 0, 1) := by decide +kernel
theorem dX9_may_2 : decode cX9_may 2 = .ok (.aload_n 0, 1) := by decide +kernel
theorem dX9_may_3 : decode cX9_may 3 = .ok (.getfield 40, 3) := by decide +kernel
theorem dX9_may_6 : decode cX9_may 6 = .ok (.invokevirtual 196, 3) := by decide +kernel
theorem dX9_may_9 : decode cX9_may 9 = .ok (.invokestatic 76, 3) := by decide +kernel
theorem dX9_may_12 : decode cX9_may 12 = .ok (.ifCond .eq 11, 3) := by decide +kernel
theorem dX9_may_15 : decode cX9_may 15 = .ok (.aload_n 0, 1) := by decide +kernel
theorem dX9_may_16 : decode cX9_may 16 = .ok (.iload_n 2, 1) := by decide +kernel
theorem dX9_may_17 : decode cX9_may 17 = .ok (.invokevirtual 205, 3) := by decide +kernel
theorem dX9_may_20 : decode cX9_may 20 = .ok (.ifCond .ne 6, 3) := by decide +kernel
theorem dX9_may_23 : decode cX9_may 23 = .ok (.bipush (-2), 2) := by decide +kernel
theorem dX9_may_25 : decode cX9_may 25 = .ok (.ireturn, 1) := by decide +kernel
theorem dX9_may_26 : decode cX9_may 26 = .ok (.aload_n 0, 1) := by decide +kernel
theorem dX9_may_27 : decode cX9_may 27 = .ok (.getfield 40, 3) := by decide +kernel
theorem dX9_may_30 : decode cX9_may 30 = .ok (.iload_n 2, 1) := by decide +kernel
theorem dX9_may_31 : decode cX9_may 31 = .ok (.iload_n 1, 1) := by decide +kernel
theorem dX9_may_32 : decode cX9_may 32 = .ok (.invokevirtual 241, 3) := by decide +kernel
theorem dX9_may_35 : decode cX9_may 35 = .ok (.ifCond .eq 22, 3) := by decide +kernel
theorem dX9_may_38 : decode cX9_may 38 = .ok (.aload_n 0, 1) := by decide +kernel
theorem dX9_may_39 : decode cX9_may 39 = .ok (.getfield 40, 3) := by decide +kernel
theorem dX9_may_42 : decode cX9_may 42 = .ok (.iload_n 1, 1) := by decide +kernel
theorem dX9_may_43 : decode cX9_may 43 = .ok (.iconst 1, 1) := by decide +kernel
theorem dX9_may_44 : decode cX9_may 44 = .ok (.iload_n 2, 1) := by decide +kernel
theorem dX9_may_45 : decode cX9_may 45 = .ok (.ishl, 1) := by decide +kernel
theorem dX9_may_46 : decode cX9_may 46 = .ok (.ior, 1) := by decide +kernel
theorem dX9_may_47 : decode cX9_may 47 = .ok (.invokevirtual 244, 3) := by decide +kernel
theorem dX9_may_50 : decode cX9_may 50 = .ok (.ifCond .eq 7, 3) := by decide +kernel
theorem dX9_may_53 : decode cX9_may 53 = .ok (.iconst 1, 1) := by decide +kernel
theorem dX9_may_54 : decode cX9_may 54 = .ok (.goto 4, 3) := by decide +kernel
theorem dX9_may_57 : decode cX9_may 57 = .ok (.iconst 0, 1) := by decide +kernel
theorem dX9_may_58 : decode cX9_may 58 = .ok (.istore_n 3, 1) := by decide +kernel
theorem dX9_may_59 : decode cX9_may 59 = .ok (.iload_n 3, 1) := by decide +kernel
theorem dX9_may_60 : decode cX9_may 60 = .ok (.ifCond .eq 7, 3) := by decide +kernel
theorem dX9_may_63 : decode cX9_may 63 = .ok (.iconst 1, 1) := by decide +kernel
theorem dX9_may_64 : decode cX9_may 64 = .ok (.goto 4, 3) := by decide +kernel
theorem dX9_may_67 : decode cX9_may 67 = .ok (.iconst 0, 1) := by decide +kernel
theorem dX9_may_68 : decode cX9_may 68 = .ok (.ireturn, 1) := by decide +kernel
theorem dX9_orders_0 : decode cX9_orders 0 = .ok (.aload_n 0, 1) := by decide +kernel
theorem dX9_orders_1 : decode cX9_orders 1 = .ok (.getfield 56, 3) := by decide +kernel
theorem dX9_orders_4 : decode cX9_orders 4 = .ok (.invokevirtual 247, 3) := by decide +kernel
theorem dX9_orders_7 : decode cX9_orders 7 = .ok (.lreturn, 1) := by decide +kernel
theorem dX9_plan_0 : decode cX9_plan 0 = .ok (.aload_n 0, 1) := by decide +kernel
theorem dX9_plan_1 : decode cX9_plan 1 = .ok (.getfield 47, 3) := by decide +kernel
theorem dX9_plan_4 : decode cX9_plan 4 = .ok (.getfield 251, 3) := by decide +kernel
theorem dX9_plan_7 : decode cX9_plan 7 = .ok (.ifCond .ne 8, 3) := by decide +kernel
theorem dX9_plan_10 : decode cX9_plan 10 = .ok (.bipush (-3), 2) := by decide +kernel
theorem dX9_plan_12 : decode cX9_plan 12 = .ok (.goto 10, 3) := by decide +kernel
theorem dX9_plan_15 : decode cX9_plan 15 = .ok (.aload_n 0, 1) := by decide +kernel
theorem dX9_plan_16 : decode cX9_plan 16 = .ok (.getfield 56, 3) := by decide +kernel
theorem dX9_plan_19 : decode cX9_plan 19 = .ok (.invokevirtual 252, 3) := by decide +kernel
theorem dX9_plan_22 : decode cX9_plan 22 = .ok (.ireturn, 1) := by decide +kernel
theorem dX9_act_0 : decode cX9_act 0 = .ok (.iload_n 1, 1) := by decide +kernel
theorem dX9_act_1 : decode cX9_act 1 = .ok (.ifCond .ge 6, 3) := by decide +kernel
theorem dX9_act_4 : decode cX9_act 4 = .ok (.bipush (-2), 2) := by decide +kernel
theorem dX9_act_6 : decode cX9_act 6 = .ok (.ireturn, 1) := by decide +kernel
theorem dX9_act_7 : decode cX9_act 7 = .ok (.aload_n 0, 1) := by decide +kernel
theorem dX9_act_8 : decode cX9_act 8 = .ok (.getfield 47, 3) := by decide +kernel
theorem dX9_act_11 : decode cX9_act 11 = .ok (.getfield 251, 3) := by decide +kernel
theorem dX9_act_14 : decode cX9_act 14 = .ok (.ifCond .ne 8, 3) := by decide +kernel
theorem dX9_act_17 : decode cX9_act 17 = .ok (.bipush (-3), 2) := by decide +kernel
theorem dX9_act_19 : decode cX9_act 19 = .ok (.goto 11, 3) := by decide +kernel
theorem dX9_act_22 : decode cX9_act 22 = .ok (.aload_n 0, 1) := by decide +kernel
theorem dX9_act_23 : decode cX9_act 23 = .ok (.getfield 56, 3) := by decide +kernel
theorem dX9_act_26 : decode cX9_act 26 = .ok (.iload_n 1, 1) := by decide +kernel
theorem dX9_act_27 : decode cX9_act 27 = .ok (.invokevirtual 255, 3) := by decide +kernel
theorem dX9_act_30 : decode cX9_act 30 = .ok (.ireturn, 1) := by decide +kernel
theorem dX9_isStone_0 : decode cX9_isStone 0 = .ok (.iload_n 1, 1) := by decide +kernel
theorem dX9_isStone_1 : decode cX9_isStone 1 = .ok (.iconst 0, 1) := by decide +kernel
theorem dX9_isStone_2 : decode cX9_isStone 2 = .ok (.aload_n 0, 1) := by decide +kernel
theorem dX9_isStone_3 : decode cX9_isStone 3 = .ok (.getfield 40, 3) := by decide +kernel
theorem dX9_isStone_6 : decode cX9_isStone 6 = .ok (.getfield 258, 3) := by decide +kernel
theorem dX9_isStone_9 : decode cX9_isStone 9 = .ok (.iconst 1, 1) := by decide +kernel
theorem dX9_isStone_10 : decode cX9_isStone 10 = .ok (.isub, 1) := by decide +kernel
theorem dX9_isStone_11 : decode cX9_isStone 11 = .ok (.invokestatic 76, 3) := by decide +kernel
theorem dX9_isStone_14 : decode cX9_isStone 14 = .ok (.ireturn, 1) := by decide +kernel
theorem dX9_isStand_0 : decode cX9_isStand 0 = .ok (.iload_n 1, 1) := by decide +kernel
theorem dX9_isStand_1 : decode cX9_isStand 1 = .ok (.iconst 0, 1) := by decide +kernel
theorem dX9_isStand_2 : decode cX9_isStand 2 = .ok (.aload_n 0, 1) := by decide +kernel
theorem dX9_isStand_3 : decode cX9_isStand 3 = .ok (.getfield 47, 3) := by decide +kernel
theorem dX9_isStand_6 : decode cX9_isStand 6 = .ok (.getfield 251, 3) := by decide +kernel
theorem dX9_isStand_9 : decode cX9_isStand 9 = .ok (.iconst 1, 1) := by decide +kernel
theorem dX9_isStand_10 : decode cX9_isStand 10 = .ok (.isub, 1) := by decide +kernel
theorem dX9_isStand_11 : decode cX9_isStand 11 = .ok (.invokestatic 76, 3) := by decide +kernel
theorem dX9_isStand_14 : decode cX9_isStand 14 = .ok (.ireturn, 1) := by decide +kernel
theorem dX9_isPlace_0 : decode cX9_isPlace 0 = .ok (.iload_n 0, 1) := by decide +kernel
theorem dX9_isPlace_1 : decode cX9_isPlace 1 = .ok (.iconst 0, 1) := by decide +kernel
theorem dX9_isPlace_2 : decode cX9_isPlace 2 = .ok (.bipush 30, 2) := by decide +kernel
theorem dX9_isPlace_4 : decode cX9_isPlace 4 = .ok (.invokestatic 76, 3) := by decide +kernel
theorem dX9_isPlace_7 : decode cX9_isPlace 7 = .ok (.ifCond .eq 17, 3) := by decide +kernel
theorem dX9_isPlace_10 : decode cX9_isPlace 10 = .ok (.iload_n 1, 1) := by decide +kernel
theorem dX9_isPlace_11 : decode cX9_isPlace 11 = .ok (.iconst 0, 1) := by decide +kernel
theorem dX9_isPlace_12 : decode cX9_isPlace 12 = .ok (.bipush 12, 2) := by decide +kernel
theorem dX9_isPlace_14 : decode cX9_isPlace 14 = .ok (.invokestatic 76, 3) := by decide +kernel
theorem dX9_isPlace_17 : decode cX9_isPlace 17 = .ok (.ifCond .eq 7, 3) := by decide +kernel
theorem dX9_isPlace_20 : decode cX9_isPlace 20 = .ok (.iconst 1, 1) := by decide +kernel
theorem dX9_isPlace_21 : decode cX9_isPlace 21 = .ok (.goto 4, 3) := by decide +kernel
theorem dX9_isPlace_24 : decode cX9_isPlace 24 = .ok (.iconst 0, 1) := by decide +kernel
theorem dX9_isPlace_25 : decode cX9_isPlace 25 = .ok (.ireturn, 1) := by decide +kernel
theorem dX9_forgetPlan_0 : decode cX9_forgetPlan 0 = .ok (.aload_n 0, 1) := by decide +kernel
theorem dX9_forgetPlan_1 : decode cX9_forgetPlan 1 = .ok (.getfield 56, 3) := by decide +kernel
theorem dX9_forgetPlan_4 : decode cX9_forgetPlan 4 = .ok (.invokevirtual 259, 3) := by decide +kernel
theorem dX9_forgetPlan_7 : decode cX9_forgetPlan 7 = .ok (.aload_n 0, 1) := by decide +kernel
theorem dX9_forgetPlan_8 : decode cX9_forgetPlan 8 = .ok (.getfield 65, 3) := by decide +kernel
theorem dX9_forgetPlan_11 : decode cX9_forgetPlan 11 = .ok (.invokevirtual 262, 3) := by decide +kernel
theorem dX9_forgetPlan_14 : decode cX9_forgetPlan 14 = .ok (.return_, 1) := by decide +kernel
theorem dX9_light_0 : decode cX9_light 0 = .ok (.iload_n 1, 1) := by decide +kernel
theorem dX9_light_1 : decode cX9_light 1 = .ok (.ifCond .lt 28, 3) := by decide +kernel
theorem dX9_light_4 : decode cX9_light 4 = .ok (.iload_n 1, 1) := by decide +kernel
theorem dX9_light_5 : decode cX9_light 5 = .ok (.iload_n 2, 1) := by decide +kernel
theorem dX9_light_6 : decode cX9_light 6 = .ok (.if_icmp .gt 23, 3) := by decide +kernel
theorem dX9_light_9 : decode cX9_light 9 = .ok (.iload_n 2, 1) := by decide +kernel
theorem dX9_light_10 : decode cX9_light 10 = .ok (.bipush 80, 2) := by decide +kernel
theorem dX9_light_12 : decode cX9_light 12 = .ok (.if_icmp .ge 17, 3) := by decide +kernel
theorem dX9_light_15 : decode cX9_light 15 = .ok (.iload_n 3, 1) := by decide +kernel
theorem dX9_light_16 : decode cX9_light 16 = .ok (.iconst 0, 1) := by decide +kernel
theorem dX9_light_17 : decode cX9_light 17 = .ok (.bipush 16, 2) := by decide +kernel
theorem dX9_light_19 : decode cX9_light 19 = .ok (.invokestatic 76, 3) := by decide +kernel
theorem dX9_light_22 : decode cX9_light 22 = .ok (.ifCond .eq 7, 3) := by decide +kernel
theorem dX9_light_25 : decode cX9_light 25 = .ok (.iconst 1, 1) := by decide +kernel
theorem dX9_light_26 : decode cX9_light 26 = .ok (.goto 4, 3) := by decide +kernel
theorem dX9_light_29 : decode cX9_light 29 = .ok (.iconst 0, 1) := by decide +kernel
theorem dX9_light_30 : decode cX9_light 30 = .ok (.istore 4, 2) := by decide +kernel
theorem dX9_light_32 : decode cX9_light 32 = .ok (.iload 4, 2) := by decide +kernel
theorem dX9_light_34 : decode cX9_light 34 = .ok (.ifCond .ne 6, 3) := by decide +kernel
theorem dX9_light_37 : decode cX9_light 37 = .ok (.bipush (-2), 2) := by decide +kernel
theorem dX9_light_39 : decode cX9_light 39 = .ok (.ireturn, 1) := by decide +kernel
theorem dX9_light_40 : decode cX9_light 40 = .ok (.aload_n 0, 1) := by decide +kernel
theorem dX9_light_41 : decode cX9_light 41 = .ok (.getfield 65, 3) := by decide +kernel
theorem dX9_light_44 : decode cX9_light 44 = .ok (.invokevirtual 262, 3) := by decide +kernel
theorem dX9_light_47 : decode cX9_light 47 = .ok (.aload_n 0, 1) := by decide +kernel
theorem dX9_light_48 : decode cX9_light 48 = .ok (.getfield 65, 3) := by decide +kernel
theorem dX9_light_51 : decode cX9_light 51 = .ok (.iload_n 1, 1) := by decide +kernel
theorem dX9_light_52 : decode cX9_light 52 = .ok (.iload_n 2, 1) := by decide +kernel
theorem dX9_light_53 : decode cX9_light 53 = .ok (.iload_n 3, 1) := by decide +kernel
theorem dX9_light_54 : decode cX9_light 54 = .ok (.invokevirtual 263, 3) := by decide +kernel
theorem dX9_light_57 : decode cX9_light 57 = .ok (.iconst 1, 1) := by decide +kernel
theorem dX9_light_58 : decode cX9_light 58 = .ok (.ireturn, 1) := by decide +kernel
theorem dX9_frost_0 : decode cX9_frost 0 = .ok (.iload_n 1, 1) := by decide +kernel
theorem dX9_frost_1 : decode cX9_frost 1 = .ok (.iconst 0, 1) := by decide +kernel
theorem dX9_frost_2 : decode cX9_frost 2 = .ok (.bipush 79, 2) := by decide +kernel
theorem dX9_frost_4 : decode cX9_frost 4 = .ok (.invokestatic 76, 3) := by decide +kernel
theorem dX9_frost_7 : decode cX9_frost 7 = .ok (.ifCond .ne 6, 3) := by decide +kernel
theorem dX9_frost_10 : decode cX9_frost 10 = .ok (.bipush (-2), 2) := by decide +kernel
theorem dX9_frost_12 : decode cX9_frost 12 = .ok (.ireturn, 1) := by decide +kernel
theorem dX9_frost_13 : decode cX9_frost 13 = .ok (.aload_n 0, 1) := by decide +kernel
theorem dX9_frost_14 : decode cX9_frost 14 = .ok (.getfield 65, 3) := by decide +kernel
theorem dX9_frost_17 : decode cX9_frost 17 = .ok (.getfield 267, 3) := by decide +kernel
theorem dX9_frost_20 : decode cX9_frost 20 = .ok (.iload_n 1, 1) := by decide +kernel
theorem dX9_frost_21 : decode cX9_frost 21 = .ok (.baload, 1) := by decide +kernel
theorem dX9_frost_22 : decode cX9_frost 22 = .ok (.iload_n 2, 1) := by decide +kernel
theorem dX9_frost_23 : decode cX9_frost 23 = .ok (.if_icmp .ne 6, 3) := by decide +kernel
theorem dX9_frost_26 : decode cX9_frost 26 = .ok (.bipush (-3), 2) := by decide +kernel
theorem dX9_frost_28 : decode cX9_frost 28 = .ok (.ireturn, 1) := by decide +kernel
theorem dX9_frost_29 : decode cX9_frost 29 = .ok (.aload_n 0, 1) := by decide +kernel
theorem dX9_frost_30 : decode cX9_frost 30 = .ok (.getfield 65, 3) := by decide +kernel
theorem dX9_frost_33 : decode cX9_frost 33 = .ok (.invokevirtual 262, 3) := by decide +kernel
theorem dX9_frost_36 : decode cX9_frost 36 = .ok (.aload_n 0, 1) := by decide +kernel
theorem dX9_frost_37 : decode cX9_frost 37 = .ok (.getfield 65, 3) := by decide +kernel
theorem dX9_frost_40 : decode cX9_frost 40 = .ok (.getfield 267, 3) := by decide +kernel
theorem dX9_frost_43 : decode cX9_frost 43 = .ok (.iload_n 1, 1) := by decide +kernel
theorem dX9_frost_44 : decode cX9_frost 44 = .ok (.iload_n 2, 1) := by decide +kernel
theorem dX9_frost_45 : decode cX9_frost 45 = .ok (.bastore, 1) := by decide +kernel
theorem dX9_frost_46 : decode cX9_frost 46 = .ok (.iconst 1, 1) := by decide +kernel
theorem dX9_frost_47 : decode cX9_frost 47 = .ok (.ireturn, 1) := by decide +kernel
theorem dX9_mortar_0 : decode cX9_mortar 0 = .ok (.iload_n 1, 1) := by decide +kernel
theorem dX9_mortar_1 : decode cX9_mortar 1 = .ok (.iconst 0, 1) := by decide +kernel
theorem dX9_mortar_2 : decode cX9_mortar 2 = .ok (.bipush 10, 2) := by decide +kernel
theorem dX9_mortar_4 : decode cX9_mortar 4 = .ok (.invokestatic 76, 3) := by decide +kernel
theorem dX9_mortar_7 : decode cX9_mortar 7 = .ok (.ifCond .ne 6, 3) := by decide +kernel
theorem dX9_mortar_10 : decode cX9_mortar 10 = .ok (.bipush (-2), 2) := by decide +kernel
theorem dX9_mortar_12 : decode cX9_mortar 12 = .ok (.ireturn, 1) := by decide +kernel
theorem dX9_mortar_13 : decode cX9_mortar 13 = .ok (.aload_n 0, 1) := by decide +kernel
theorem dX9_mortar_14 : decode cX9_mortar 14 = .ok (.getfield 65, 3) := by decide +kernel
theorem dX9_mortar_17 : decode cX9_mortar 17 = .ok (.invokevirtual 262, 3) := by decide +kernel
theorem dX9_mortar_20 : decode cX9_mortar 20 = .ok (.aload_n 0, 1) := by decide +kernel
theorem dX9_mortar_21 : decode cX9_mortar 21 = .ok (.getfield 65, 3) := by decide +kernel
theorem dX9_mortar_24 : decode cX9_mortar 24 = .ok (.getfield 270, 3) := by decide +kernel
theorem dX9_mortar_27 : decode cX9_mortar 27 = .ok (.istore_n 2, 1) := by decide +kernel
theorem dX9_mortar_28 : decode cX9_mortar 28 = .ok (.aload_n 0, 1) := by decide +kernel
theorem dX9_mortar_29 : decode cX9_mortar 29 = .ok (.getfield 65, 3) := by decide +kernel
theorem dX9_mortar_32 : decode cX9_mortar 32 = .ok (.iload_n 1, 1) := by decide +kernel
theorem dX9_mortar_33 : decode cX9_mortar 33 = .ok (.putfield 270, 3) := by decide +kernel
theorem dX9_mortar_36 : decode cX9_mortar 36 = .ok (.iload_n 2, 1) := by decide +kernel
theorem dX9_mortar_37 : decode cX9_mortar 37 = .ok (.ireturn, 1) := by decide +kernel
theorem dX9_laid_0 : decode cX9_laid 0 = .ok (.aload_n 0, 1) := by decide +kernel
theorem dX9_laid_1 : decode cX9_laid 1 = .ok (.iload_n 1, 1) := by decide +kernel
theorem dX9_laid_2 : decode cX9_laid 2 = .ok (.invokevirtual 205, 3) := by decide +kernel
theorem dX9_laid_5 : decode cX9_laid 5 = .ok (.ifCond .ne 6, 3) := by decide +kernel
theorem dX9_laid_8 : decode cX9_laid 8 = .ok (.bipush (-2), 2) := by decide +kernel
theorem dX9_laid_10 : decode cX9_laid 10 = .ok (.ireturn, 1) := by decide +kernel
theorem dX9_laid_11 : decode cX9_laid 11 = .ok (.aload_n 0, 1) := by decide +kernel
theorem dX9_laid_12 : decode cX9_laid 12 = .ok (.getfield 56, 3) := by decide +kernel
theorem dX9_laid_15 : decode cX9_laid 15 = .ok (.aload_n 0, 1) := by decide +kernel
theorem dX9_laid_16 : decode cX9_laid 16 = .ok (.getfield 65, 3) := by decide +kernel
theorem dX9_laid_19 : decode cX9_laid 19 = .ok (.getfield 273, 3) := by decide +kernel
theorem dX9_laid_22 : decode cX9_laid 22 = .ok (.invokevirtual 276, 3) := by decide +kernel
theorem dX9_laid_25 : decode cX9_laid 25 = .ok (.aload_n 0, 1) := by decide +kernel
theorem dX9_laid_26 : decode cX9_laid 26 = .ok (.getfield 65, 3) := by decide +kernel
theorem dX9_laid_29 : decode cX9_laid 29 = .ok (.iconst (-1), 1) := by decide +kernel
theorem dX9_laid_30 : decode cX9_laid 30 = .ok (.iconst (-1), 1) := by decide +kernel
theorem dX9_laid_31 : decode cX9_laid 31 = .ok (.invokevirtual 280, 3) := by decide +kernel
theorem dX9_laid_34 : decode cX9_laid 34 = .ok (.pop, 1) := by decide +kernel
theorem dX9_laid_35 : decode cX9_laid 35 = .ok (.aload_n 0, 1) := by decide +kernel
theorem dX9_laid_36 : decode cX9_laid 36 = .ok (.getfield 65, 3) := by decide +kernel
theorem dX9_laid_39 : decode cX9_laid 39 = .ok (.getfield 283, 3) := by decide +kernel
theorem dX9_laid_42 : decode cX9_laid 42 = .ok (.iload_n 1, 1) := by decide +kernel
theorem dX9_laid_43 : decode cX9_laid 43 = .ok (.iaload, 1) := by decide +kernel
theorem dX9_laid_44 : decode cX9_laid 44 = .ok (.ireturn, 1) := by decide +kernel
theorem dX9_end_0 : decode cX9_end 0 = .ok (.aload_n 0, 1) := by decide +kernel
theorem dX9_end_1 : decode cX9_end 1 = .ok (.getfield 40, 3) := by decide +kernel
theorem dX9_end_4 : decode cX9_end 4 = .ok (.getfield 258, 3) := by decide +kernel
theorem dX9_end_7 : decode cX9_end 7 = .ok (.ifCond .ne 5, 3) := by decide +kernel
theorem dX9_end_10 : decode cX9_end 10 = .ok (.iconst (-1), 1) := by decide +kernel
theorem dX9_end_11 : decode cX9_end 11 = .ok (.ireturn, 1) := by decide +kernel
theorem dX9_end_12 : decode cX9_end 12 = .ok (.aload_n 0, 1) := by decide +kernel
theorem dX9_end_13 : decode cX9_end 13 = .ok (.getfield 56, 3) := by decide +kernel
theorem dX9_end_16 : decode cX9_end 16 = .ok (.aload_n 0, 1) := by decide +kernel
theorem dX9_end_17 : decode cX9_end 17 = .ok (.getfield 65, 3) := by decide +kernel
theorem dX9_end_20 : decode cX9_end 20 = .ok (.getfield 273, 3) := by decide +kernel
theorem dX9_end_23 : decode cX9_end 23 = .ok (.invokevirtual 276, 3) := by decide +kernel
theorem dX9_end_26 : decode cX9_end 26 = .ok (.aload_n 0, 1) := by decide +kernel
theorem dX9_end_27 : decode cX9_end 27 = .ok (.getfield 65, 3) := by decide +kernel
theorem dX9_end_30 : decode cX9_end 30 = .ok (.iconst (-1), 1) := by decide +kernel
theorem dX9_end_31 : decode cX9_end 31 = .ok (.iconst (-1), 1) := by decide +kernel
theorem dX9_end_32 : decode cX9_end 32 = .ok (.invokevirtual 280, 3) := by decide +kernel
theorem dX9_end_35 : decode cX9_end 35 = .ok (.istore_n 1, 1) := by decide +kernel
theorem dX9_end_36 : decode cX9_end 36 = .ok (.iload_n 1, 1) := by decide +kernel
theorem dX9_end_37 : decode cX9_end 37 = .ok (.bipush 80, 2) := by decide +kernel
theorem dX9_end_39 : decode cX9_end 39 = .ok (.if_icmp .ne 7, 3) := by decide +kernel
theorem dX9_end_42 : decode cX9_end 42 = .ok (.iconst (-1), 1) := by decide +kernel
theorem dX9_end_43 : decode cX9_end 43 = .ok (.goto 4, 3) := by decide +kernel
theorem dX9_end_46 : decode cX9_end 46 = .ok (.iload_n 1, 1) := by decide +kernel
theorem dX9_end_47 : decode cX9_end 47 = .ok (.ireturn, 1) := by decide +kernel
theorem dX9_worst_0 : decode cX9_worst 0 = .ok (.iload_n 1, 1) := by decide +kernel
theorem dX9_worst_1 : decode cX9_worst 1 = .ok (.iconst 0, 1) := by decide +kernel
theorem dX9_worst_2 : decode cX9_worst 2 = .ok (.iconst 2, 1) := by decide +kernel
theorem dX9_worst_3 : decode cX9_worst 3 = .ok (.invokestatic 76, 3) := by decide +kernel
theorem dX9_worst_6 : decode cX9_worst 6 = .ok (.ifCond .eq 21, 3) := by decide +kernel
theorem dX9_worst_9 : decode cX9_worst 9 = .ok (.iload_n 2, 1) := by decide +kernel
theorem dX9_worst_10 : decode cX9_worst 10 = .ok (.iconst 0, 1) := by decide +kernel
theorem dX9_worst_11 : decode cX9_worst 11 = .ok (.iconst 1, 1) := by decide +kernel
theorem dX9_worst_12 : decode cX9_worst 12 = .ok (.invokestatic 76, 3) := by decide +kernel
theorem dX9_worst_15 : decode cX9_worst 15 = .ok (.ifCond .eq 12, 3) := by decide +kernel
theorem dX9_worst_18 : decode cX9_worst 18 = .ok (.iload_n 2, 1) := by decide +kernel
theorem dX9_worst_19 : decode cX9_worst 19 = .ok (.iconst 1, 1) := by decide +kernel
theorem dX9_worst_20 : decode cX9_worst 20 = .ok (.if_icmp .ne 10, 3) := by decide +kernel
theorem dX9_worst_23 : decode cX9_worst 23 = .ok (.iload_n 3, 1) := by decide +kernel
theorem dX9_worst_24 : decode cX9_worst 24 = .ok (.ifCond .ge 6, 3) := by decide +kernel
theorem dX9_worst_27 : decode cX9_worst 27 = .ok (.bipush (-2), 2) := by decide +kernel
theorem dX9_worst_29 : decode cX9_worst 29 = .ok (.ireturn, 1) := by decide +kernel
theorem dX9_worst_30 : decode cX9_worst 30 = .ok (.aload_n 0, 1) := by decide +kernel
theorem dX9_worst_31 : decode cX9_worst 31 = .ok (.getfield 40, 3) := by decide +kernel
theorem dX9_worst_34 : decode cX9_worst 34 = .ok (.getfield 258, 3) := by decide +kernel
theorem dX9_worst_37 : decode cX9_worst 37 = .ok (.ifCond .ne 5, 3) := by decide +kernel
theorem dX9_worst_40 : decode cX9_worst 40 = .ok (.iconst (-1), 1) := by decide +kernel
theorem dX9_worst_41 : decode cX9_worst 41 = .ok (.ireturn, 1) := by decide +kernel
theorem dX9_worst_42 : decode cX9_worst 42 = .ok (.aload_n 0, 1) := by decide +kernel
theorem dX9_worst_43 : decode cX9_worst 43 = .ok (.getfield 56, 3) := by decide +kernel
theorem dX9_worst_46 : decode cX9_worst 46 = .ok (.aload_n 0, 1) := by decide +kernel
theorem dX9_worst_47 : decode cX9_worst 47 = .ok (.getfield 65, 3) := by decide +kernel
theorem dX9_worst_50 : decode cX9_worst 50 = .ok (.getfield 273, 3) := by decide +kernel
theorem dX9_worst_53 : decode cX9_worst 53 = .ok (.invokevirtual 276, 3) := by decide +kernel
theorem dX9_worst_56 : decode cX9_worst 56 = .ok (.aload_n 0, 1) := by decide +kernel
theorem dX9_worst_57 : decode cX9_worst 57 = .ok (.getfield 65, 3) := by decide +kernel
theorem dX9_worst_60 : decode cX9_worst 60 = .ok (.iload_n 1, 1) := by decide +kernel
theorem dX9_worst_61 : decode cX9_worst 61 = .ok (.invokevirtual 286, 3) := by decide +kernel
theorem dX9_worst_64 : decode cX9_worst 64 = .ok (.iload_n 2, 1) := by decide +kernel
theorem dX9_worst_65 : decode cX9_worst 65 = .ok (.ifCond .ne 13, 3) := by decide +kernel
theorem dX9_worst_68 : decode cX9_worst 68 = .ok (.aload_n 0, 1) := by decide +kernel
theorem dX9_worst_69 : decode cX9_worst 69 = .ok (.getfield 65, 3) := by decide +kernel
theorem dX9_worst_72 : decode cX9_worst 72 = .ok (.getfield 289, 3) := by decide +kernel
theorem dX9_worst_75 : decode cX9_worst 75 = .ok (.goto 11, 3) := by decide +kernel
theorem dX9_worst_78 : decode cX9_worst 78 = .ok (.aload_n 0, 1) := by decide +kernel
theorem dX9_worst_79 : decode cX9_worst 79 = .ok (.getfield 65, 3) := by decide +kernel
theorem dX9_worst_82 : decode cX9_worst 82 = .ok (.iload_n 3, 1) := by decide +kernel
theorem dX9_worst_83 : decode cX9_worst 83 = .ok (.invokevirtual 292, 3) := by decide +kernel
theorem dX9_worst_86 : decode cX9_worst 86 = .ok (.ireturn, 1) := by decide +kernel
theorem dX9_shape_0 : decode cX9_shape 0 = .ok (.aload_n 0, 1) := by decide +kernel
theorem dX9_shape_1 : decode cX9_shape 1 = .ok (.getfield 72, 3) := by decide +kernel
theorem dX9_shape_4 : decode cX9_shape 4 = .ok (.getfield 295, 3) := by decide +kernel
theorem dX9_shape_7 : decode cX9_shape 7 = .ok (.istore_n 1, 1) := by decide +kernel
theorem dX9_shape_8 : decode cX9_shape 8 = .ok (.aload_n 0, 1) := by decide +kernel
theorem dX9_shape_9 : decode cX9_shape 9 = .ok (.getfield 72, 3) := by decide +kernel
theorem dX9_shape_12 : decode cX9_shape 12 = .ok (.iconst 0, 1) := by decide +kernel
theorem dX9_shape_13 : decode cX9_shape 13 = .ok (.putfield 295, 3) := by decide +kernel
theorem dX9_shape_16 : decode cX9_shape 16 = .ok (.iload_n 1, 1) := by decide +kernel
theorem dX9_shape_17 : decode cX9_shape 17 = .ok (.ireturn, 1) := by decide +kernel
theorem dX9_corner_0 : decode cX9_corner 0 = .ok (.iload_n 1, 1) := by decide +kernel
theorem dX9_corner_1 : decode cX9_corner 1 = .ok (.iload_n 2, 1) := by decide +kernel
theorem dX9_corner_2 : decode cX9_corner 2 = .ok (.invokestatic 296, 3) := by decide +kernel
theorem dX9_corner_5 : decode cX9_corner 5 = .ok (.ifCond .eq 15, 3) := by decide +kernel
theorem dX9_corner_8 : decode cX9_corner 8 = .ok (.aload_n 0, 1) := by decide +kernel
theorem dX9_corner_9 : decode cX9_corner 9 = .ok (.getfield 72, 3) := by decide +kernel
theorem dX9_corner_12 : decode cX9_corner 12 = .ok (.iload_n 1, 1) := by decide +kernel
theorem dX9_corner_13 : decode cX9_corner 13 = .ok (.iload_n 2, 1) := by decide +kernel
theorem dX9_corner_14 : decode cX9_corner 14 = .ok (.invokevirtual 299, 3) := by decide +kernel
theorem dX9_corner_17 : decode cX9_corner 17 = .ok (.goto 5, 3) := by decide +kernel
theorem dX9_corner_20 : decode cX9_corner 20 = .ok (.bipush (-2), 2) := by decide +kernel
theorem dX9_corner_22 : decode cX9_corner 22 = .ok (.ireturn, 1) := by decide +kernel
theorem dX9_area_0 : decode cX9_area 0 = .ok (.aload_n 0, 1) := by decide +kernel
theorem dX9_area_1 : decode cX9_area 1 = .ok (.getfield 72, 3) := by decide +kernel
theorem dX9_area_4 : decode cX9_area 4 = .ok (.getfield 295, 3) := by decide +kernel
theorem dX9_area_7 : decode cX9_area 7 = .ok (.iconst 3, 1) := by decide +kernel
theorem dX9_area_8 : decode cX9_area 8 = .ok (.if_icmp .ge 8, 3) := by decide +kernel
theorem dX9_area_11 : decode cX9_area 11 = .ok (.bipush (-3), 2) := by decide +kernel
theorem dX9_area_13 : decode cX9_area 13 = .ok (.goto 14, 3) := by decide +kernel
theorem dX9_area_16 : decode cX9_area 16 = .ok (.aload_n 0, 1) := by decide +kernel
theorem dX9_area_17 : decode cX9_area 17 = .ok (.getfield 72, 3) := by decide +kernel
theorem dX9_area_20 : decode cX9_area 20 = .ok (.invokevirtual 301, 3) := by decide +kernel
theorem dX9_area_23 : decode cX9_area 23 = .ok (.invokestatic 304, 3) := by decide +kernel
theorem dX9_area_26 : decode cX9_area 26 = .ok (.l2i, 1) := by decide +kernel
theorem dX9_area_27 : decode cX9_area 27 = .ok (.ireturn, 1) := by decide +kernel
theorem dX9_middle_0 : decode cX9_middle 0 = .ok (.iload_n 1, 1) := by decide +kernel
theorem dX9_middle_1 : decode cX9_middle 1 = .ok (.iconst 0, 1) := by decide +kernel
theorem dX9_middle_2 : decode cX9_middle 2 = .ok (.iconst 3, 1) := by decide +kernel
theorem dX9_middle_3 : decode cX9_middle 3 = .ok (.invokestatic 76, 3) := by decide +kernel
theorem dX9_middle_6 : decode cX9_middle 6 = .ok (.ifCond .ne 7, 3) := by decide +kernel
theorem dX9_middle_9 : decode cX9_middle 9 = .ok (.ldc2_w 310, 3) := by decide +kernel
theorem dX9_middle_12 : decode cX9_middle 12 = .ok (.lreturn, 1) := by decide +kernel
theorem dX9_middle_13 : decode cX9_middle 13 = .ok (.aload_n 0, 1) := by decide +kernel
theorem dX9_middle_14 : decode cX9_middle 14 = .ok (.getfield 72, 3) := by decide +kernel
theorem dX9_middle_17 : decode cX9_middle 17 = .ok (.invokevirtual 312, 3) := by decide +kernel
theorem dX9_middle_20 : decode cX9_middle 20 = .ok (.ifCond .ne 7, 3) := by decide +kernel
theorem dX9_middle_23 : decode cX9_middle 23 = .ok (.ldc2_w 316, 3) := by decide +kernel
theorem dX9_middle_26 : decode cX9_middle 26 = .ok (.lreturn, 1) := by decide +kernel
theorem dX9_middle_27 : decode cX9_middle 27 = .ok (.iload_n 1, 1) := by decide +kernel
theorem dX9_middle_28 : decode cX9_middle 28 = .ok (.iconst 2, 1) := by decide +kernel
theorem dX9_middle_29 : decode cX9_middle 29 = .ok (.if_icmp .ge 13, 3) := by decide +kernel
theorem dX9_middle_32 : decode cX9_middle 32 = .ok (.aload_n 0, 1) := by decide +kernel
theorem dX9_middle_33 : decode cX9_middle 33 = .ok (.getfield 72, 3) := by decide +kernel
theorem dX9_middle_36 : decode cX9_middle 36 = .ok (.invokevirtual 318, 3) := by decide +kernel
theorem dX9_middle_39 : decode cX9_middle 39 = .ok (.goto 10, 3) := by decide +kernel
theorem dX9_middle_42 : decode cX9_middle 42 = .ok (.aload_n 0, 1) := by decide +kernel
theorem dX9_middle_43 : decode cX9_middle 43 = .ok (.getfield 72, 3) := by decide +kernel
theorem dX9_middle_46 : decode cX9_middle 46 = .ok (.invokevirtual 321, 3) := by decide +kernel
theorem dX9_middle_49 : decode cX9_middle 49 = .ok (.lstore_n 2, 1) := by decide +kernel
theorem dX9_middle_50 : decode cX9_middle 50 = .ok (.lload_n 2, 1) := by decide +kernel
theorem dX9_middle_51 : decode cX9_middle 51 = .ok (.aload_n 0, 1) := by decide +kernel
theorem dX9_middle_52 : decode cX9_middle 52 = .ok (.getfield 72, 3) := by decide +kernel
theorem dX9_middle_55 : decode cX9_middle 55 = .ok (.invokevirtual 324, 3) := by decide +kernel
theorem dX9_middle_58 : decode cX9_middle 58 = .ok (.iload_n 1, 1) := by decide +kernel
theorem dX9_middle_59 : decode cX9_middle 59 = .ok (.iconst 2, 1) := by decide +kernel
theorem dX9_middle_60 : decode cX9_middle 60 = .ok (.irem, 1) := by decide +kernel
theorem dX9_middle_61 : decode cX9_middle 61 = .ok (.invokestatic 327, 3) := by decide +kernel
theorem dX9_middle_64 : decode cX9_middle 64 = .ok (.lreturn, 1) := by decide +kernel
theorem dX9_tilt_0 : decode cX9_tilt 0 = .ok (.iload_n 1, 1) := by decide +kernel
theorem dX9_tilt_1 : decode cX9_tilt 1 = .ok (.iload_n 2, 1) := by decide +kernel
theorem dX9_tilt_2 : decode cX9_tilt 2 = .ok (.invokestatic 296, 3) := by decide +kernel
theorem dX9_tilt_5 : decode cX9_tilt 5 = .ok (.ifCond .eq 22, 3) := by decide +kernel
theorem dX9_tilt_8 : decode cX9_tilt 8 = .ok (.iload_n 3, 1) := by decide +kernel
theorem dX9_tilt_9 : decode cX9_tilt 9 = .ok (.iload 4, 2) := by decide +kernel
theorem dX9_tilt_11 : decode cX9_tilt 11 = .ok (.invokestatic 296, 3) := by decide +kernel
theorem dX9_tilt_14 : decode cX9_tilt 14 = .ok (.ifCond .eq 13, 3) := by decide +kernel
theorem dX9_tilt_17 : decode cX9_tilt 17 = .ok (.iload 5, 2) := by decide +kernel
theorem dX9_tilt_19 : decode cX9_tilt 19 = .ok (.iconst 0, 1) := by decide +kernel
theorem dX9_tilt_20 : decode cX9_tilt 20 = .ok (.iconst 1, 1) := by decide +kernel
theorem dX9_tilt_21 : decode cX9_tilt 21 = .ok (.invokestatic 76, 3) := by decide +kernel
theorem dX9_tilt_24 : decode cX9_tilt 24 = .ok (.ifCond .ne 7, 3) := by decide +kernel
theorem dX9_tilt_27 : decode cX9_tilt 27 = .ok (.ldc2_w 310, 3) := by decide +kernel
theorem dX9_tilt_30 : decode cX9_tilt 30 = .ok (.lreturn, 1) := by decide +kernel
theorem dX9_tilt_31 : decode cX9_tilt 31 = .ok (.aload_n 0, 1) := by decide +kernel
theorem dX9_tilt_32 : decode cX9_tilt 32 = .ok (.getfield 72, 3) := by decide +kernel
theorem dX9_tilt_35 : decode cX9_tilt 35 = .ok (.invokevirtual 312, 3) := by decide +kernel
theorem dX9_tilt_38 : decode cX9_tilt 38 = .ok (.ifCond .ne 7, 3) := by decide +kernel
theorem dX9_tilt_41 : decode cX9_tilt 41 = .ok (.ldc2_w 316, 3) := by decide +kernel
theorem dX9_tilt_44 : decode cX9_tilt 44 = .ok (.lreturn, 1) := by decide +kernel
theorem dX9_tilt_45 : decode cX9_tilt 45 = .ok (.aload_n 0, 1) := by decide +kernel
theorem dX9_tilt_46 : decode cX9_tilt 46 = .ok (.getfield 72, 3) := by decide +kernel
theorem dX9_tilt_49 : decode cX9_tilt 49 = .ok (.iload_n 1, 1) := by decide +kernel
theorem dX9_tilt_50 : decode cX9_tilt 50 = .ok (.iload_n 3, 1) := by decide +kernel
theorem dX9_tilt_51 : decode cX9_tilt 51 = .ok (.invokevirtual 331, 3) := by decide +kernel
theorem dX9_tilt_54 : decode cX9_tilt 54 = .ok (.ldc2_w 335, 3) := by decide +kernel
theorem dX9_tilt_57 : decode cX9_tilt 57 = .ok (.aload_n 0, 1) := by decide +kernel
theorem dX9_tilt_58 : decode cX9_tilt 58 = .ok (.getfield 72, 3) := by decide +kernel
theorem dX9_tilt_61 : decode cX9_tilt 61 = .ok (.invokevirtual 324, 3) := by decide +kernel
theorem dX9_tilt_64 : decode cX9_tilt 64 = .ok (.lmul, 1) := by decide +kernel
theorem dX9_tilt_65 : decode cX9_tilt 65 = .ok (.iload 5, 2) := by decide +kernel
theorem dX9_tilt_67 : decode cX9_tilt 67 = .ok (.invokestatic 327, 3) := by decide +kernel
theorem dX9_tilt_70 : decode cX9_tilt 70 = .ok (.lreturn, 1) := by decide +kernel
theorem dX9_steady_0 : decode cX9_steady 0 = .ok (.iload_n 1, 1) := by decide +kernel
theorem dX9_steady_1 : decode cX9_steady 1 = .ok (.iload_n 2, 1) := by decide +kernel
theorem dX9_steady_2 : decode cX9_steady 2 = .ok (.invokestatic 296, 3) := by decide +kernel
theorem dX9_steady_5 : decode cX9_steady 5 = .ok (.ifCond .eq 12, 3) := by decide +kernel
theorem dX9_steady_8 : decode cX9_steady 8 = .ok (.iload_n 3, 1) := by decide +kernel
theorem dX9_steady_9 : decode cX9_steady 9 = .ok (.iload 4, 2) := by decide +kernel
theorem dX9_steady_11 : decode cX9_steady 11 = .ok (.invokestatic 296, 3) := by decide +kernel
theorem dX9_steady_14 : decode cX9_steady 14 = .ok (.ifCond .ne 6, 3) := by decide +kernel
theorem dX9_steady_17 : decode cX9_steady 17 = .ok (.bipush (-2), 2) := by decide +kernel
theorem dX9_steady_19 : decode cX9_steady 19 = .ok (.ireturn, 1) := by decide +kernel
theorem dX9_steady_20 : decode cX9_steady 20 = .ok (.aload_n 0, 1) := by decide +kernel
theorem dX9_steady_21 : decode cX9_steady 21 = .ok (.getfield 72, 3) := by decide +kernel
theorem dX9_steady_24 : decode cX9_steady 24 = .ok (.invokevirtual 312, 3) := by decide +kernel
theorem dX9_steady_27 : decode cX9_steady 27 = .ok (.ifCond .ne 6, 3) := by decide +kernel
theorem dX9_steady_30 : decode cX9_steady 30 = .ok (.bipush (-3), 2) := by decide +kernel
theorem dX9_steady_32 : decode cX9_steady 32 = .ok (.ireturn, 1) := by decide +kernel
theorem dX9_steady_33 : decode cX9_steady 33 = .ok (.aload_n 0, 1) := by decide +kernel
theorem dX9_steady_34 : decode cX9_steady 34 = .ok (.getfield 72, 3) := by decide +kernel
theorem dX9_steady_37 : decode cX9_steady 37 = .ok (.iload_n 1, 1) := by decide +kernel
theorem dX9_steady_38 : decode cX9_steady 38 = .ok (.iload_n 2, 1) := by decide +kernel
theorem dX9_steady_39 : decode cX9_steady 39 = .ok (.iload_n 3, 1) := by decide +kernel
theorem dX9_steady_40 : decode cX9_steady 40 = .ok (.iload 4, 2) := by decide +kernel
theorem dX9_steady_42 : decode cX9_steady 42 = .ok (.invokevirtual 337, 3) := by decide +kernel
theorem dX9_steady_45 : decode cX9_steady 45 = .ok (.ifCond .eq 7, 3) := by decide +kernel
theorem dX9_steady_48 : decode cX9_steady 48 = .ok (.iconst 1, 1) := by decide +kernel
theorem dX9_steady_49 : decode cX9_steady 49 = .ok (.goto 4, 3) := by decide +kernel
theorem dX9_steady_52 : decode cX9_steady 52 = .ok (.iconst 0, 1) := by decide +kernel
theorem dX9_steady_53 : decode cX9_steady 53 = .ok (.ireturn, 1) := by decide +kernel
theorem dX9_holes_0 : decode cX9_holes 0 = .ok (.aload_n 0, 1) := by decide +kernel
theorem dX9_holes_1 : decode cX9_holes 1 = .ok (.getfield 72, 3) := by decide +kernel
theorem dX9_holes_4 : decode cX9_holes 4 = .ok (.invokevirtual 312, 3) := by decide +kernel
theorem dX9_holes_7 : decode cX9_holes 7 = .ok (.ifCond .eq 13, 3) := by decide +kernel
theorem dX9_holes_10 : decode cX9_holes 10 = .ok (.aload_n 0, 1) := by decide +kernel
theorem dX9_holes_11 : decode cX9_holes 11 = .ok (.getfield 72, 3) := by decide +kernel
theorem dX9_holes_14 : decode cX9_holes 14 = .ok (.invokevirtual 341, 3) := by decide +kernel
theorem dX9_holes_17 : decode cX9_holes 17 = .ok (.goto 5, 3) := by decide +kernel
theorem dX9_holes_20 : decode cX9_holes 20 = .ok (.bipush (-3), 2) := by decide +kernel
theorem dX9_holes_22 : decode cX9_holes 22 = .ok (.ireturn, 1) := by decide +kernel
theorem dX9_count_0 : decode cX9_count 0 = .ok (.iload_n 1, 1) := by decide +kernel
theorem dX9_count_1 : decode cX9_count 1 = .ok (.tableswitch 123 0 8 #[51, 59, 67, 75, 83, 91, 99, 107, 115], 51) := by decide +kernel
theorem dX9_count_52 : decode cX9_count 52 = .ok (.aload_n 0, 1) := by decide +kernel
theorem dX9_count_53 : decode cX9_count 53 = .ok (.getfield 19, 3) := by decide +kernel
theorem dX9_count_56 : decode cX9_count 56 = .ok (.getfield 115, 3) := by decide +kernel
theorem dX9_count_59 : decode cX9_count 59 = .ok (.ireturn, 1) := by decide +kernel
theorem dX9_count_60 : decode cX9_count 60 = .ok (.aload_n 0, 1) := by decide +kernel
theorem dX9_count_61 : decode cX9_count 61 = .ok (.getfield 26, 3) := by decide +kernel
theorem dX9_count_64 : decode cX9_count 64 = .ok (.getfield 141, 3) := by decide +kernel
theorem dX9_count_67 : decode cX9_count 67 = .ok (.ireturn, 1) := by decide +kernel
theorem dX9_count_68 : decode cX9_count 68 = .ok (.aload_n 0, 1) := by decide +kernel
theorem dX9_count_69 : decode cX9_count 69 = .ok (.getfield 33, 3) := by decide +kernel
theorem dX9_count_72 : decode cX9_count 72 = .ok (.getfield 186, 3) := by decide +kernel
theorem dX9_count_75 : decode cX9_count 75 = .ok (.ireturn, 1) := by decide +kernel
theorem dX9_count_76 : decode cX9_count 76 = .ok (.aload_n 0, 1) := by decide +kernel
theorem dX9_count_77 : decode cX9_count 77 = .ok (.getfield 40, 3) := by decide +kernel
theorem dX9_count_80 : decode cX9_count 80 = .ok (.getfield 258, 3) := by decide +kernel
theorem dX9_count_83 : decode cX9_count 83 = .ok (.ireturn, 1) := by decide +kernel
theorem dX9_count_84 : decode cX9_count 84 = .ok (.aload_n 0, 1) := by decide +kernel
theorem dX9_count_85 : decode cX9_count 85 = .ok (.getfield 47, 3) := by decide +kernel
theorem dX9_count_88 : decode cX9_count 88 = .ok (.getfield 251, 3) := by decide +kernel
theorem dX9_count_91 : decode cX9_count 91 = .ok (.ireturn, 1) := by decide +kernel
theorem dX9_count_92 : decode cX9_count 92 = .ok (.aload_n 0, 1) := by decide +kernel
theorem dX9_count_93 : decode cX9_count 93 = .ok (.getfield 72, 3) := by decide +kernel
theorem dX9_count_96 : decode cX9_count 96 = .ok (.getfield 295, 3) := by decide +kernel
theorem dX9_count_99 : decode cX9_count 99 = .ok (.ireturn, 1) := by decide +kernel
theorem dX9_count_100 : decode cX9_count 100 = .ok (.aload_n 0, 1) := by decide +kernel
theorem dX9_count_101 : decode cX9_count 101 = .ok (.getfield 65, 3) := by decide +kernel
theorem dX9_count_104 : decode cX9_count 104 = .ok (.invokevirtual 344, 3) := by decide +kernel
theorem dX9_count_107 : decode cX9_count 107 = .ok (.ireturn, 1) := by decide +kernel
theorem dX9_count_108 : decode cX9_count 108 = .ok (.aload_n 0, 1) := by decide +kernel
theorem dX9_count_109 : decode cX9_count 109 = .ok (.getfield 40, 3) := by decide +kernel
theorem dX9_count_112 : decode cX9_count 112 = .ok (.getfield 214, 3) := by decide +kernel
theorem dX9_count_115 : decode cX9_count 115 = .ok (.ireturn, 1) := by decide +kernel
theorem dX9_count_116 : decode cX9_count 116 = .ok (.aload_n 0, 1) := by decide +kernel
theorem dX9_count_117 : decode cX9_count 117 = .ok (.getfield 65, 3) := by decide +kernel
theorem dX9_count_120 : decode cX9_count 120 = .ok (.getfield 270, 3) := by decide +kernel
theorem dX9_count_123 : decode cX9_count 123 = .ok (.ireturn, 1) := by decide +kernel
theorem dX9_count_124 : decode cX9_count 124 = .ok (.bipush (-2), 2) := by decide +kernel
theorem dX9_count_126 : decode cX9_count 126 = .ok (.ireturn, 1) := by decide +kernel
theorem dX9_digest_0 : decode cX9_digest 0 = .ok (.ldc2_w 347, 3) := by decide +kernel
theorem dX9_digest_3 : decode cX9_digest 3 = .ok (.lstore_n 1, 1) := by decide +kernel
theorem dX9_digest_4 : decode cX9_digest 4 = .ok (.iconst 0, 1) := by decide +kernel
theorem dX9_digest_5 : decode cX9_digest 5 = .ok (.istore_n 3, 1) := by decide +kernel
theorem dX9_digest_6 : decode cX9_digest 6 = .ok (.iload_n 3, 1) := by decide +kernel
theorem dX9_digest_7 : decode cX9_digest 7 = .ok (.bipush 8, 2) := by decide +kernel
theorem dX9_digest_9 : decode cX9_digest 9 = .ok (.if_icmp .gt 22, 3) := by decide +kernel
theorem dX9_digest_12 : decode cX9_digest 12 = .ok (.ldc2_w 349, 3) := by decide +kernel
theorem dX9_digest_15 : decode cX9_digest 15 = .ok (.lload_n 1, 1) := by decide +kernel
theorem dX9_digest_16 : decode cX9_digest 16 = .ok (.lmul, 1) := by decide +kernel
theorem dX9_digest_17 : decode cX9_digest 17 = .ok (.aload_n 0, 1) := by decide +kernel
theorem dX9_digest_18 : decode cX9_digest 18 = .ok (.iload_n 3, 1) := by decide +kernel
theorem dX9_digest_19 : decode cX9_digest 19 = .ok (.invokevirtual 351, 3) := by decide +kernel
theorem dX9_digest_22 : decode cX9_digest 22 = .ok (.i2l, 1) := by decide +kernel
theorem dX9_digest_23 : decode cX9_digest 23 = .ok (.ladd, 1) := by decide +kernel
theorem dX9_digest_24 : decode cX9_digest 24 = .ok (.lstore_n 1, 1) := by decide +kernel
theorem dX9_digest_25 : decode cX9_digest 25 = .ok (.iinc 3 1, 3) := by decide +kernel
theorem dX9_digest_28 : decode cX9_digest 28 = .ok (.goto (-22), 3) := by decide +kernel
theorem dX9_digest_31 : decode cX9_digest 31 = .ok (.aload_n 0, 1) := by decide +kernel
theorem dX9_digest_32 : decode cX9_digest 32 = .ok (.getfield 10, 3) := by decide +kernel
theorem dX9_digest_35 : decode cX9_digest 35 = .ok (.lload_n 1, 1) := by decide +kernel
theorem dX9_digest_36 : decode cX9_digest 36 = .ok (.invokevirtual 354, 3) := by decide +kernel
theorem dX9_digest_39 : decode cX9_digest 39 = .ok (.lstore_n 1, 1) := by decide +kernel
theorem dX9_digest_40 : decode cX9_digest 40 = .ok (.ldc2_w 349, 3) := by decide +kernel
theorem dX9_digest_43 : decode cX9_digest 43 = .ok (.lload_n 1, 1) := by decide +kernel
theorem dX9_digest_44 : decode cX9_digest 44 = .ok (.lmul, 1) := by decide +kernel
theorem dX9_digest_45 : decode cX9_digest 45 = .ok (.aload_n 0, 1) := by decide +kernel
theorem dX9_digest_46 : decode cX9_digest 46 = .ok (.getfield 47, 3) := by decide +kernel
theorem dX9_digest_49 : decode cX9_digest 49 = .ok (.getfield 226, 3) := by decide +kernel
theorem dX9_digest_52 : decode cX9_digest 52 = .ok (.i2l, 1) := by decide +kernel
theorem dX9_digest_53 : decode cX9_digest 53 = .ok (.ladd, 1) := by decide +kernel
theorem dX9_digest_54 : decode cX9_digest 54 = .ok (.lstore_n 1, 1) := by decide +kernel
theorem dX9_digest_55 : decode cX9_digest 55 = .ok (.ldc2_w 349, 3) := by decide +kernel
theorem dX9_digest_58 : decode cX9_digest 58 = .ok (.lload_n 1, 1) := by decide +kernel
theorem dX9_digest_59 : decode cX9_digest 59 = .ok (.lmul, 1) := by decide +kernel
theorem dX9_digest_60 : decode cX9_digest 60 = .ok (.aload_n 0, 1) := by decide +kernel
theorem dX9_digest_61 : decode cX9_digest 61 = .ok (.getfield 47, 3) := by decide +kernel
theorem dX9_digest_64 : decode cX9_digest 64 = .ok (.getfield 229, 3) := by decide +kernel
theorem dX9_digest_67 : decode cX9_digest 67 = .ok (.i2l, 1) := by decide +kernel
theorem dX9_digest_68 : decode cX9_digest 68 = .ok (.ladd, 1) := by decide +kernel
theorem dX9_digest_69 : decode cX9_digest 69 = .ok (.lstore_n 1, 1) := by decide +kernel
theorem dX9_digest_70 : decode cX9_digest 70 = .ok (.aload_n 0, 1) := by decide +kernel
theorem dX9_digest_71 : decode cX9_digest 71 = .ok (.getfield 19, 3) := by decide +kernel
theorem dX9_digest_74 : decode cX9_digest 74 = .ok (.lload_n 1, 1) := by decide +kernel
theorem dX9_digest_75 : decode cX9_digest 75 = .ok (.invokevirtual 357, 3) := by decide +kernel
theorem dX9_digest_78 : decode cX9_digest 78 = .ok (.lstore_n 1, 1) := by decide +kernel
theorem dX9_digest_79 : decode cX9_digest 79 = .ok (.aload_n 0, 1) := by decide +kernel
theorem dX9_digest_80 : decode cX9_digest 80 = .ok (.getfield 26, 3) := by decide +kernel
theorem dX9_digest_83 : decode cX9_digest 83 = .ok (.lload_n 1, 1) := by decide +kernel
theorem dX9_digest_84 : decode cX9_digest 84 = .ok (.invokevirtual 358, 3) := by decide +kernel
theorem dX9_digest_87 : decode cX9_digest 87 = .ok (.lstore_n 1, 1) := by decide +kernel
theorem dX9_digest_88 : decode cX9_digest 88 = .ok (.aload_n 0, 1) := by decide +kernel
theorem dX9_digest_89 : decode cX9_digest 89 = .ok (.getfield 33, 3) := by decide +kernel
theorem dX9_digest_92 : decode cX9_digest 92 = .ok (.lload_n 1, 1) := by decide +kernel
theorem dX9_digest_93 : decode cX9_digest 93 = .ok (.invokevirtual 359, 3) := by decide +kernel
theorem dX9_digest_96 : decode cX9_digest 96 = .ok (.lstore_n 1, 1) := by decide +kernel
theorem dX9_digest_97 : decode cX9_digest 97 = .ok (.aload_n 0, 1) := by decide +kernel
theorem dX9_digest_98 : decode cX9_digest 98 = .ok (.getfield 40, 3) := by decide +kernel
theorem dX9_digest_101 : decode cX9_digest 101 = .ok (.lload_n 1, 1) := by decide +kernel
theorem dX9_digest_102 : decode cX9_digest 102 = .ok (.invokevirtual 360, 3) := by decide +kernel
theorem dX9_digest_105 : decode cX9_digest 105 = .ok (.lstore_n 1, 1) := by decide +kernel
theorem dX9_digest_106 : decode cX9_digest 106 = .ok (.aload_n 0, 1) := by decide +kernel
theorem dX9_digest_107 : decode cX9_digest 107 = .ok (.getfield 47, 3) := by decide +kernel
theorem dX9_digest_110 : decode cX9_digest 110 = .ok (.lload_n 1, 1) := by decide +kernel
theorem dX9_digest_111 : decode cX9_digest 111 = .ok (.invokevirtual 361, 3) := by decide +kernel
theorem dX9_digest_114 : decode cX9_digest 114 = .ok (.lstore_n 1, 1) := by decide +kernel
theorem dX9_digest_115 : decode cX9_digest 115 = .ok (.aload_n 0, 1) := by decide +kernel
theorem dX9_digest_116 : decode cX9_digest 116 = .ok (.getfield 65, 3) := by decide +kernel
theorem dX9_digest_119 : decode cX9_digest 119 = .ok (.lload_n 1, 1) := by decide +kernel
theorem dX9_digest_120 : decode cX9_digest 120 = .ok (.invokevirtual 362, 3) := by decide +kernel
theorem dX9_digest_123 : decode cX9_digest 123 = .ok (.lstore_n 1, 1) := by decide +kernel
theorem dX9_digest_124 : decode cX9_digest 124 = .ok (.aload_n 0, 1) := by decide +kernel
theorem dX9_digest_125 : decode cX9_digest 125 = .ok (.getfield 72, 3) := by decide +kernel
theorem dX9_digest_128 : decode cX9_digest 128 = .ok (.lload_n 1, 1) := by decide +kernel
theorem dX9_digest_129 : decode cX9_digest 129 = .ok (.invokevirtual 363, 3) := by decide +kernel
theorem dX9_digest_132 : decode cX9_digest 132 = .ok (.lreturn, 1) := by decide +kernel
theorem dX9_isCorner_0 : decode cX9_isCorner 0 = .ok (.iload_n 0, 1) := by decide +kernel
theorem dX9_isCorner_1 : decode cX9_isCorner 1 = .ok (.iconst 0, 1) := by decide +kernel
theorem dX9_isCorner_2 : decode cX9_isCorner 2 = .ok (.sipush 1000, 3) := by decide +kernel
theorem dX9_isCorner_5 : decode cX9_isCorner 5 = .ok (.invokestatic 76, 3) := by decide +kernel
theorem dX9_isCorner_8 : decode cX9_isCorner 8 = .ok (.ifCond .eq 18, 3) := by decide +kernel
theorem dX9_isCorner_11 : decode cX9_isCorner 11 = .ok (.iload_n 1, 1) := by decide +kernel
theorem dX9_isCorner_12 : decode cX9_isCorner 12 = .ok (.iconst 0, 1) := by decide +kernel
theorem dX9_isCorner_13 : decode cX9_isCorner 13 = .ok (.sipush 1000, 3) := by decide +kernel
theorem dX9_isCorner_16 : decode cX9_isCorner 16 = .ok (.invokestatic 76, 3) := by decide +kernel
theorem dX9_isCorner_19 : decode cX9_isCorner 19 = .ok (.ifCond .eq 7, 3) := by decide +kernel
theorem dX9_isCorner_22 : decode cX9_isCorner 22 = .ok (.iconst 1, 1) := by decide +kernel
theorem dX9_isCorner_23 : decode cX9_isCorner 23 = .ok (.goto 4, 3) := by decide +kernel
theorem dX9_isCorner_26 : decode cX9_isCorner 26 = .ok (.iconst 0, 1) := by decide +kernel
theorem dX9_isCorner_27 : decode cX9_isCorner 27 = .ok (.ireturn, 1) := by decide +kernel
theorem dX9_within_0 : decode cX9_within 0 = .ok (.iload_n 0, 1) := by decide +kernel
theorem dX9_within_1 : decode cX9_within 1 = .ok (.iload_n 1, 1) := by decide +kernel
theorem dX9_within_2 : decode cX9_within 2 = .ok (.if_icmp .lt 12, 3) := by decide +kernel
theorem dX9_within_5 : decode cX9_within 5 = .ok (.iload_n 0, 1) := by decide +kernel
theorem dX9_within_6 : decode cX9_within 6 = .ok (.iload_n 2, 1) := by decide +kernel
theorem dX9_within_7 : decode cX9_within 7 = .ok (.if_icmp .gt 7, 3) := by decide +kernel
theorem dX9_within_10 : decode cX9_within 10 = .ok (.iconst 1, 1) := by decide +kernel
theorem dX9_within_11 : decode cX9_within 11 = .ok (.goto 4, 3) := by decide +kernel
theorem dX9_within_14 : decode cX9_within 14 = .ok (.iconst 0, 1) := by decide +kernel
theorem dX9_within_15 : decode cX9_within 15 = .ok (.ireturn, 1) := by decide +kernel
theorem dX9_cut_0 : decode cX9_cut 0 = .ok (.lload_n 2, 1) := by decide +kernel
theorem dX9_cut_1 : decode cX9_cut 1 = .ok (.lconst 0, 1) := by decide +kernel
theorem dX9_cut_2 : decode cX9_cut 2 = .ok (.lcmp, 1) := by decide +kernel
theorem dX9_cut_3 : decode cX9_cut 3 = .ok (.ifCond .ne 7, 3) := by decide +kernel
theorem dX9_cut_6 : decode cX9_cut 6 = .ok (.lconst 0, 1) := by decide +kernel
theorem dX9_cut_7 : decode cX9_cut 7 = .ok (.goto 6, 3) := by decide +kernel
theorem dX9_cut_10 : decode cX9_cut 10 = .ok (.lload_n 0, 1) := by decide +kernel
theorem dX9_cut_11 : decode cX9_cut 11 = .ok (.lload_n 2, 1) := by decide +kernel
theorem dX9_cut_12 : decode cX9_cut 12 = .ok (.ldiv, 1) := by decide +kernel
theorem dX9_cut_13 : decode cX9_cut 13 = .ok (.lreturn, 1) := by decide +kernel
theorem dX9_ofLowest_0 : decode cX9_ofLowest 0 = .ok (.lload_n 0, 1) := by decide +kernel
theorem dX9_ofLowest_1 : decode cX9_ofLowest 1 = .ok (.invokestatic 304, 3) := by decide +kernel
theorem dX9_ofLowest_4 : decode cX9_ofLowest 4 = .ok (.lload_n 2, 1) := by decide +kernel
theorem dX9_ofLowest_5 : decode cX9_ofLowest 5 = .ok (.invokestatic 364, 3) := by decide +kernel
theorem dX9_ofLowest_8 : decode cX9_ofLowest 8 = .ok (.lstore 5, 2) := by decide +kernel
theorem dX9_ofLowest_10 : decode cX9_ofLowest 10 = .ok (.iload 4, 2) := by decide +kernel
theorem dX9_ofLowest_12 : decode cX9_ofLowest 12 = .ok (.ifCond .ne 7, 3) := by decide +kernel
theorem dX9_ofLowest_15 : decode cX9_ofLowest 15 = .ok (.lload_n 0, 1) := by decide +kernel
theorem dX9_ofLowest_16 : decode cX9_ofLowest 16 = .ok (.goto 4, 3) := by decide +kernel
theorem dX9_ofLowest_19 : decode cX9_ofLowest 19 = .ok (.lload_n 2, 1) := by decide +kernel
theorem dX9_ofLowest_20 : decode cX9_ofLowest 20 = .ok (.lload 5, 2) := by decide +kernel
theorem dX9_ofLowest_22 : decode cX9_ofLowest 22 = .ok (.invokestatic 368, 3) := by decide +kernel
theorem dX9_ofLowest_25 : decode cX9_ofLowest 25 = .ok (.lreturn, 1) := by decide +kernel
theorem dX9_commonDivisor_0 : decode cX9_commonDivisor 0 = .ok (.lload_n 0, 1) := by decide +kernel
theorem dX9_commonDivisor_1 : decode cX9_commonDivisor 1 = .ok (.lstore 4, 2) := by decide +kernel
theorem dX9_commonDivisor_3 : decode cX9_commonDivisor 3 = .ok (.lload_n 2, 1) := by decide +kernel
theorem dX9_commonDivisor_4 : decode cX9_commonDivisor 4 = .ok (.lstore 6, 2) := by decide +kernel
theorem dX9_commonDivisor_6 : decode cX9_commonDivisor 6 = .ok (.iconst 0, 1) := by decide +kernel
theorem dX9_commonDivisor_7 : decode cX9_commonDivisor 7 = .ok (.istore 8, 2) := by decide +kernel
theorem dX9_commonDivisor_9 : decode cX9_commonDivisor 9 = .ok (.iload 8, 2) := by decide +kernel
theorem dX9_commonDivisor_11 : decode cX9_commonDivisor 11 = .ok (.sipush 200, 3) := by decide +kernel
theorem dX9_commonDivisor_14 : decode cX9_commonDivisor 14 = .ok (.if_icmp .ge 31, 3) := by decide +kernel
theorem dX9_commonDivisor_17 : decode cX9_commonDivisor 17 = .ok (.lload 6, 2) := by decide +kernel
theorem dX9_commonDivisor_19 : decode cX9_commonDivisor 19 = .ok (.lconst 0, 1) := by decide +kernel
theorem dX9_commonDivisor_20 : decode cX9_commonDivisor 20 = .ok (.lcmp, 1) := by decide +kernel
theorem dX9_commonDivisor_21 : decode cX9_commonDivisor 21 = .ok (.ifCond .eq 24, 3) := by decide +kernel
theorem dX9_commonDivisor_24 : decode cX9_commonDivisor 24 = .ok (.lload 4, 2) := by decide +kernel
theorem dX9_commonDivisor_26 : decode cX9_commonDivisor 26 = .ok (.lload 6, 2) := by decide +kernel
theorem dX9_commonDivisor_28 : decode cX9_commonDivisor 28 = .ok (.lrem, 1) := by decide +kernel
theorem dX9_commonDivisor_29 : decode cX9_commonDivisor 29 = .ok (.lstore 9, 2) := by decide +kernel
theorem dX9_commonDivisor_31 : decode cX9_commonDivisor 31 = .ok (.lload 6, 2) := by decide +kernel
theorem dX9_commonDivisor_33 : decode cX9_commonDivisor 33 = .ok (.lstore 4, 2) := by decide +kernel
theorem dX9_commonDivisor_35 : decode cX9_commonDivisor 35 = .ok (.lload 9, 2) := by decide +kernel
theorem dX9_commonDivisor_37 : decode cX9_commonDivisor 37 = .ok (.lstore 6, 2) := by decide +kernel
theorem dX9_commonDivisor_39 : decode cX9_commonDivisor 39 = .ok (.iinc 8 1, 3) := by decide +kernel
theorem dX9_commonDivisor_42 : decode cX9_commonDivisor 42 = .ok (.goto (-33), 3) := by decide +kernel
theorem dX9_commonDivisor_45 : decode cX9_commonDivisor 45 = .ok (.lload 4, 2) := by decide +kernel
theorem dX9_commonDivisor_47 : decode cX9_commonDivisor 47 = .ok (.lreturn, 1) := by decide +kernel
theorem dX10_init_0 : decode cX10_init 0 = .ok (.aload_n 0, 1) := by decide +kernel
theorem dX10_init_1 : decode cX10_init 1 = .ok (.invokespecial 1, 3) := by decide +kernel
theorem dX10_init_4 : decode cX10_init 4 = .ok (.aload_n 0, 1) := by decide +kernel
theorem dX10_init_5 : decode cX10_init 5 = .ok (.sipush 1000, 3) := by decide +kernel
theorem dX10_init_8 : decode cX10_init 8 = .ok (.putfield 7, 3) := by decide +kernel
theorem dX10_init_11 : decode cX10_init 11 = .ok (.aload_n 0, 1) := by decide +kernel
theorem dX10_init_12 : decode cX10_init 12 = .ok (.bipush 40, 2) := by decide +kernel
theorem dX10_init_14 : decode cX10_init 14 = .ok (.putfield 13, 3) := by decide +kernel
theorem dX10_init_17 : decode cX10_init 17 = .ok (.aload_n 0, 1) := by decide +kernel
theorem dX10_init_18 : decode cX10_init 18 = .ok (.bipush 60, 2) := by decide +kernel
theorem dX10_init_20 : decode cX10_init 20 = .ok (.putfield 16, 3) := by decide +kernel
theorem dX10_init_23 : decode cX10_init 23 = .ok (.aload_n 0, 1) := by decide +kernel
theorem dX10_init_24 : decode cX10_init 24 = .ok (.bipush 10, 2) := by decide +kernel
theorem dX10_init_26 : decode cX10_init 26 = .ok (.putfield 19, 3) := by decide +kernel
theorem dX10_init_29 : decode cX10_init 29 = .ok (.aload_n 0, 1) := by decide +kernel
theorem dX10_init_30 : decode cX10_init 30 = .ok (.iconst 2, 1) := by decide +kernel
theorem dX10_init_31 : decode cX10_init 31 = .ok (.putfield 22, 3) := by decide +kernel
theorem dX10_init_34 : decode cX10_init 34 = .ok (.aload_n 0, 1) := by decide +kernel
theorem dX10_init_35 : decode cX10_init 35 = .ok (.iconst 5, 1) := by decide +kernel
theorem dX10_init_36 : decode cX10_init 36 = .ok (.putfield 25, 3) := by decide +kernel
theorem dX10_init_39 : decode cX10_init 39 = .ok (.aload_n 0, 1) := by decide +kernel
theorem dX10_init_40 : decode cX10_init 40 = .ok (.bipush 8, 2) := by decide +kernel
theorem dX10_init_42 : decode cX10_init 42 = .ok (.newarray .int, 2) := by decide +kernel
theorem dX10_init_44 : decode cX10_init 44 = .ok (.putfield 28, 3) := by decide +kernel
theorem dX10_init_47 : decode cX10_init 47 = .ok (.aload_n 0, 1) := by decide +kernel
theorem dX10_init_48 : decode cX10_init 48 = .ok (.bipush 8, 2) := by decide +kernel
theorem dX10_init_50 : decode cX10_init 50 = .ok (.newarray .int, 2) := by decide +kernel
theorem dX10_init_52 : decode cX10_init 52 = .ok (.putfield 32, 3) := by decide +kernel
theorem dX10_init_55 : decode cX10_init 55 = .ok (.aload_n 0, 1) := by decide +kernel
theorem dX10_init_56 : decode cX10_init 56 = .ok (.bipush 7, 2) := by decide +kernel
theorem dX10_init_58 : decode cX10_init 58 = .ok (.newarray .int, 2) := by decide +kernel
theorem dX10_init_60 : decode cX10_init 60 = .ok (.putfield 35, 3) := by decide +kernel
theorem dX10_init_63 : decode cX10_init 63 = .ok (.aload_n 0, 1) := by decide +kernel
theorem dX10_init_64 : decode cX10_init 64 = .ok (.bipush 7, 2) := by decide +kernel
theorem dX10_init_66 : decode cX10_init 66 = .ok (.newarray .int, 2) := by decide +kernel
theorem dX10_init_68 : decode cX10_init 68 = .ok (.putfield 38, 3) := by decide +kernel
theorem dX10_init_71 : decode cX10_init 71 = .ok (.aload_n 0, 1) := by decide +kernel
theorem dX10_init_72 : decode cX10_init 72 = .ok (.bipush 7, 2) := by decide +kernel
theorem dX10_init_74 : decode cX10_init 74 = .ok (.newarray .boolean, 2) := by decide +kernel
theorem dX10_init_76 : decode cX10_init 76 = .ok (.putfield 41, 3) := by decide +kernel
theorem dX10_init_79 : decode cX10_init 79 = .ok (.aload_n 0, 1) := by decide +kernel
theorem dX10_init_80 : decode cX10_init 80 = .ok (.bipush 7, 2) := by decide +kernel
theorem dX10_init_82 : decode cX10_init 82 = .ok (.newarray .boolean, 2) := by decide +kernel
theorem dX10_init_84 : decode cX10_init 84 = .ok (.putfield 45, 3) := by decide +kernel
theorem dX10_init_87 : decode cX10_init 87 = .ok (.aload_n 0, 1) := by decide +kernel
theorem dX10_init_88 : decode cX10_init 88 = .ok (.bipush 12, 2) := by decide +kernel
theorem dX10_init_90 : decode cX10_init 90 = .ok (.newarray .int, 2) := by decide +kernel
theorem dX10_init_92 : decode cX10_init 92 = .ok (.putfield 48, 3) := by decide +kernel
theorem dX10_init_95 : decode cX10_init 95 = .ok (.aload_n 0, 1) := by decide +kernel
theorem dX10_init_96 : decode cX10_init 96 = .ok (.bipush 14, 2) := by decide +kernel
theorem dX10_init_98 : decode cX10_init 98 = .ok (.newarray .int, 2) := by decide +kernel
theorem dX10_init_100 : decode cX10_init 100 = .ok (.putfield 51, 3) := by decide +kernel
theorem dX10_init_103 : decode cX10_init 103 = .ok (.aload_n 0, 1) := by decide +kernel
theorem dX10_init_104 : decode cX10_init 104 = .ok (.bipush 14, 2) := by decide +kernel
theorem dX10_init_106 : decode cX10_init 106 = .ok (.newarray .int, 2) := by decide +kernel
theorem dX10_init_108 : decode cX10_init 108 = .ok (.putfield 54, 3) := by decide +kernel
theorem dX10_init_111 : decode cX10_init 111 = .ok (.aload_n 0, 1) := by decide +kernel
theorem dX10_init_112 : decode cX10_init 112 = .ok (.bipush 14, 2) := by decide +kernel
theorem dX10_init_114 : decode cX10_init 114 = .ok (.newarray .int, 2) := by decide +kernel
theorem dX10_init_116 : decode cX10_init 116 = .ok (.putfield 57, 3) := by decide +kernel
theorem dX10_init_119 : decode cX10_init 119 = .ok (.aload_n 0, 1) := by decide +kernel
theorem dX10_init_120 : decode cX10_init 120 = .ok (.bipush 14, 2) := by decide +kernel
theorem dX10_init_122 : decode cX10_init 122 = .ok (.newarray .int, 2) := by decide +kernel
theorem dX10_init_124 : decode cX10_init 124 = .ok (.putfield 60, 3) := by decide +kernel
theorem dX10_init_127 : decode cX10_init 127 = .ok (.aload_n 0, 1) := by decide +kernel
theorem dX10_init_128 : decode cX10_init 128 = .ok (.bipush 14, 2) := by decide +kernel
theorem dX10_init_130 : decode cX10_init 130 = .ok (.newarray .int, 2) := by decide +kernel
theorem dX10_init_132 : decode cX10_init 132 = .ok (.putfield 63, 3) := by decide +kernel
theorem dX10_init_135 : decode cX10_init 135 = .ok (.aload_n 0, 1) := by decide +kernel
theorem dX10_init_136 : decode cX10_init 136 = .ok (.iconst 1, 1) := by decide +kernel
theorem dX10_init_137 : decode cX10_init 137 = .ok (.putfield 66, 3) := by decide +kernel
theorem dX10_init_140 : decode cX10_init 140 = .ok (.aload_n 0, 1) := by decide +kernel
theorem dX10_init_141 : decode cX10_init 141 = .ok (.iconst 5, 1) := by decide +kernel
theorem dX10_init_142 : decode cX10_init 142 = .ok (.newarray .int, 2) := by decide +kernel
theorem dX10_init_144 : decode cX10_init 144 = .ok (.putfield 69, 3) := by decide +kernel
theorem dX10_init_147 : decode cX10_init 147 = .ok (.aload_n 0, 1) := by decide +kernel
theorem dX10_init_148 : decode cX10_init 148 = .ok (.iconst 5, 1) := by decide +kernel
theorem dX10_init_149 : decode cX10_init 149 = .ok (.newarray .int, 2) := by decide +kernel
theorem dX10_init_151 : decode cX10_init 151 = .ok (.putfield 72, 3) := by decide +kernel
theorem dX10_init_154 : decode cX10_init 154 = .ok (.aload_n 0, 1) := by decide +kernel
theorem dX10_init_155 : decode cX10_init 155 = .ok (.iconst 5, 1) := by decide +kernel
theorem dX10_init_156 : decode cX10_init 156 = .ok (.newarray .int, 2) := by decide +kernel
theorem dX10_init_158 : decode cX10_init 158 = .ok (.putfield 75, 3) := by decide +kernel
theorem dX10_init_161 : decode cX10_init 161 = .ok (.aload_n 0, 1) := by decide +kernel
theorem dX10_init_162 : decode cX10_init 162 = .ok (.bipush 25, 2) := by decide +kernel
theorem dX10_init_164 : decode cX10_init 164 = .ok (.newarray .int, 2) := by decide +kernel
theorem dX10_init_166 : decode cX10_init 166 = .ok (.putfield 78, 3) := by decide +kernel
theorem dX10_init_169 : decode cX10_init 169 = .ok (.aload_n 0, 1) := by decide +kernel
theorem dX10_init_170 : decode cX10_init 170 = .ok (.bipush 8, 2) := by decide +kernel
theorem dX10_init_172 : decode cX10_init 172 = .ok (.putfield 81, 3) := by decide +kernel
theorem dX10_init_175 : decode cX10_init 175 = .ok (.aload_n 0, 1) := by decide +kernel
theorem dX10_init_176 : decode cX10_init 176 = .ok (.iconst 4, 1) := by decide +kernel
theorem dX10_init_177 : decode cX10_init 177 = .ok (.putfield 84, 3) := by decide +kernel
theorem dX10_init_180 : decode cX10_init 180 = .ok (.aload_n 0, 1) := by decide +kernel
theorem dX10_init_181 : decode cX10_init 181 = .ok (.sipush 16384, 3) := by decide +kernel
theorem dX10_init_184 : decode cX10_init 184 = .ok (.newarray .long, 2) := by decide +kernel
theorem dX10_init_186 : decode cX10_init 186 = .ok (.putfield 87, 3) := by decide +kernel
theorem dX10_init_189 : decode cX10_init 189 = .ok (.aload_n 0, 1) := by decide +kernel
theorem dX10_init_190 : decode cX10_init 190 = .ok (.ldc 91, 2) := by decide +kernel
theorem dX10_init_192 : decode cX10_init 192 = .ok (.newarray .int, 2) := by decide +kernel
theorem dX10_init_194 : decode cX10_init 194 = .ok (.putfield 92, 3) := by decide +kernel
theorem dX10_init_197 : decode cX10_init 197 = .ok (.aload_n 0, 1) := by decide +kernel
theorem dX10_init_198 : decode cX10_init 198 = .ok (.bipush 84, 2) := by decide +kernel
theorem dX10_init_200 : decode cX10_init 200 = .ok (.newarray .int, 2) := by decide +kernel
theorem dX10_init_202 : decode cX10_init 202 = .ok (.putfield 95, 3) := by decide +kernel
theorem dX10_init_205 : decode cX10_init 205 = .ok (.aload_n 0, 1) := by decide +kernel
theorem dX10_init_206 : decode cX10_init 206 = .ok (.bipush 80, 2) := by decide +kernel
theorem dX10_init_208 : decode cX10_init 208 = .ok (.newarray .int, 2) := by decide +kernel
theorem dX10_init_210 : decode cX10_init 210 = .ok (.putfield 98, 3) := by decide +kernel
theorem dX10_init_213 : decode cX10_init 213 = .ok (.aload_n 0, 1) := by decide +kernel
theorem dX10_init_214 : decode cX10_init 214 = .ok (.bipush 80, 2) := by decide +kernel
theorem dX10_init_216 : decode cX10_init 216 = .ok (.newarray .boolean, 2) := by decide +kernel
theorem dX10_init_218 : decode cX10_init 218 = .ok (.putfield 101, 3) := by decide +kernel
theorem dX10_init_221 : decode cX10_init 221 = .ok (.aload_n 0, 1) := by decide +kernel
theorem dX10_init_222 : decode cX10_init 222 = .ok (.iconst 2, 1) := by decide +kernel
theorem dX10_init_223 : decode cX10_init 223 = .ok (.putfield 104, 3) := by decide +kernel
theorem dX10_init_226 : decode cX10_init 226 = .ok (.aload_n 0, 1) := by decide +kernel
theorem dX10_init_227 : decode cX10_init 227 = .ok (.bipush 14, 2) := by decide +kernel
theorem dX10_init_229 : decode cX10_init 229 = .ok (.newarray .int, 2) := by decide +kernel
theorem dX10_init_231 : decode cX10_init 231 = .ok (.putfield 107, 3) := by decide +kernel
theorem dX10_init_234 : decode cX10_init 234 = .ok (.aload_n 0, 1) := by decide +kernel
theorem dX10_init_235 : decode cX10_init 235 = .ok (.bipush 14, 2) := by decide +kernel
theorem dX10_init_237 : decode cX10_init 237 = .ok (.newarray .int, 2) := by decide +kernel
theorem dX10_init_239 : decode cX10_init 239 = .ok (.putfield 110, 3) := by decide +kernel
theorem dX10_init_242 : decode cX10_init 242 = .ok (.aload_n 0, 1) := by decide +kernel
theorem dX10_init_243 : decode cX10_init 243 = .ok (.bipush 80, 2) := by decide +kernel
theorem dX10_init_245 : decode cX10_init 245 = .ok (.newarray .int, 2) := by decide +kernel
theorem dX10_init_247 : decode cX10_init 247 = .ok (.putfield 113, 3) := by decide +kernel
theorem dX10_init_250 : decode cX10_init 250 = .ok (.aload_n 0, 1) := by decide +kernel
theorem dX10_init_251 : decode cX10_init 251 = .ok (.bipush 8, 2) := by decide +kernel
theorem dX10_init_253 : decode cX10_init 253 = .ok (.newarray .int, 2) := by decide +kernel
theorem dX10_init_255 : decode cX10_init 255 = .ok (.putfield 116, 3) := by decide +kernel
theorem dX10_init_258 : decode cX10_init 258 = .ok (.aload_n 0, 1) := by decide +kernel
theorem dX10_init_259 : decode cX10_init 259 = .ok (.bipush 8, 2) := by decide +kernel
theorem dX10_init_261 : decode cX10_init 261 = .ok (.newarray .int, 2) := by decide +kernel
theorem dX10_init_263 : decode cX10_init 263 = .ok (.putfield 119, 3) := by decide +kernel
theorem dX10_init_266 : decode cX10_init 266 = .ok (.iconst 0, 1) := by decide +kernel
theorem dX10_init_267 : decode cX10_init 267 = .ok (.istore_n 1, 1) := by decide +kernel
theorem dX10_init_268 : decode cX10_init 268 = .ok (.iload_n 1, 1) := by decide +kernel
theorem dX10_init_269 : decode cX10_init 269 = .ok (.bipush 80, 2) := by decide +kernel
theorem dX10_init_271 : decode cX10_init 271 = .ok (.if_icmp .ge 17, 3) := by decide +kernel
theorem dX10_init_274 : decode cX10_init 274 = .ok (.aload_n 0, 1) := by decide +kernel
theorem dX10_init_275 : decode cX10_init 275 = .ok (.getfield 98, 3) := by decide +kernel
theorem dX10_init_278 : decode cX10_init 278 = .ok (.iload_n 1, 1) := by decide +kernel
theorem dX10_init_279 : decode cX10_init 279 = .ok (.bipush 8, 2) := by decide +kernel
theorem dX10_init_281 : decode cX10_init 281 = .ok (.iastore, 1) := by decide +kernel
theorem dX10_init_282 : decode cX10_init 282 = .ok (.iinc 1 1, 3) := by decide +kernel
theorem dX10_init_285 : decode cX10_init 285 = .ok (.goto (-17), 3) := by decide +kernel
theorem dX10_init_288 : decode cX10_init 288 = .ok (.iconst 0, 1) := by decide +kernel
theorem dX10_init_289 : decode cX10_init 289 = .ok (.istore_n 1, 1) := by decide +kernel
theorem dX10_init_290 : decode cX10_init 290 = .ok (.iload_n 1, 1) := by decide +kernel
theorem dX10_init_291 : decode cX10_init 291 = .ok (.bipush 25, 2) := by decide +kernel
theorem dX10_init_293 : decode cX10_init 293 = .ok (.if_icmp .ge 16, 3) := by decide +kernel
theorem dX10_init_296 : decode cX10_init 296 = .ok (.aload_n 0, 1) := by decide +kernel
theorem dX10_init_297 : decode cX10_init 297 = .ok (.getfield 78, 3) := by decide +kernel
theorem dX10_init_300 : decode cX10_init 300 = .ok (.iload_n 1, 1) := by decide +kernel
theorem dX10_init_301 : decode cX10_init 301 = .ok (.iconst 1, 1) := by decide +kernel
theorem dX10_init_302 : decode cX10_init 302 = .ok (.iastore, 1) := by decide +kernel
theorem dX10_init_303 : decode cX10_init 303 = .ok (.iinc 1 1, 3) := by decide +kernel
theorem dX10_init_306 : decode cX10_init 306 = .ok (.goto (-16), 3) := by decide +kernel
theorem dX10_init_309 : decode cX10_init 309 = .ok (.return_, 1) := by decide +kernel
