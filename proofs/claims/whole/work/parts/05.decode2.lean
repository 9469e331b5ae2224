theorem dX4_makePlan_0 : decode cX4_makePlan 0 = .ok (.aload_n 0, 1) := by decide +kernel
theorem dX4_makePlan_1 : decode cX4_makePlan 1 = .ok (.getfield 41, 3) := by decide +kernel
theorem dX4_makePlan_4 : decode cX4_makePlan 4 = .ok (.ifCond .eq 4, 3) := by decide +kernel
theorem dX4_makePlan_7 : decode cX4_makePlan 7 = .ok (.return_, 1) := by decide +kernel
theorem dX4_makePlan_8 : decode cX4_makePlan 8 = .ok (.aload_n 0, 1) := by decide +kernel
theorem dX4_makePlan_9 : decode cX4_makePlan 9 = .ok (.invokevirtual 44, 3) := by decide +kernel
theorem dX4_makePlan_12 : decode cX4_makePlan 12 = .ok (.aload_n 0, 1) := by decide +kernel
theorem dX4_makePlan_13 : decode cX4_makePlan 13 = .ok (.iconst 1, 1) := by decide +kernel
theorem dX4_makePlan_14 : decode cX4_makePlan 14 = .ok (.putfield 41, 3) := by decide +kernel
theorem dX4_makePlan_17 : decode cX4_makePlan 17 = .ok (.aload_n 0, 1) := by decide +kernel
theorem dX4_makePlan_18 : decode cX4_makePlan 18 = .ok (.getfield 29, 3) := by decide +kernel
theorem dX4_makePlan_21 : decode cX4_makePlan 21 = .ok (.invokevirtual 47, 3) := by decide +kernel
theorem dX4_makePlan_24 : decode cX4_makePlan 24 = .ok (.istore_n 1, 1) := by decide +kernel
theorem dX4_makePlan_25 : decode cX4_makePlan 25 = .ok (.aload_n 0, 1) := by decide +kernel
theorem dX4_makePlan_26 : decode cX4_makePlan 26 = .ok (.getfield 19, 3) := by decide +kernel
theorem dX4_makePlan_29 : decode cX4_makePlan 29 = .ok (.arraylength, 1) := by decide +kernel
theorem dX4_makePlan_30 : decode cX4_makePlan 30 = .ok (.iload_n 1, 1) := by decide +kernel
theorem dX4_makePlan_31 : decode cX4_makePlan 31 = .ok (.iconst 1, 1) := by decide +kernel
theorem dX4_makePlan_32 : decode cX4_makePlan 32 = .ok (.iadd, 1) := by decide +kernel
theorem dX4_makePlan_33 : decode cX4_makePlan 33 = .ok (.iconst 5, 1) := by decide +kernel
theorem dX4_makePlan_34 : decode cX4_makePlan 34 = .ok (.imul, 1) := by decide +kernel
theorem dX4_makePlan_35 : decode cX4_makePlan 35 = .ok (.if_icmp .ge 14, 3) := by decide +kernel
theorem dX4_makePlan_38 : decode cX4_makePlan 38 = .ok (.aload_n 0, 1) := by decide +kernel
theorem dX4_makePlan_39 : decode cX4_makePlan 39 = .ok (.iload_n 1, 1) := by decide +kernel
theorem dX4_makePlan_40 : decode cX4_makePlan 40 = .ok (.iconst 1, 1) := by decide +kernel
theorem dX4_makePlan_41 : decode cX4_makePlan 41 = .ok (.iadd, 1) := by decide +kernel
theorem dX4_makePlan_42 : decode cX4_makePlan 42 = .ok (.iconst 5, 1) := by decide +kernel
theorem dX4_makePlan_43 : decode cX4_makePlan 43 = .ok (.imul, 1) := by decide +kernel
theorem dX4_makePlan_44 : decode cX4_makePlan 44 = .ok (.newarray .int, 2) := by decide +kernel
theorem dX4_makePlan_46 : decode cX4_makePlan 46 = .ok (.putfield 19, 3) := by decide +kernel
theorem dX4_makePlan_49 : decode cX4_makePlan 49 = .ok (.aload_n 0, 1) := by decide +kernel
theorem dX4_makePlan_50 : decode cX4_makePlan 50 = .ok (.invokevirtual 80, 3) := by decide +kernel
theorem dX4_makePlan_53 : decode cX4_makePlan 53 = .ok (.iconst 0, 1) := by decide +kernel
theorem dX4_makePlan_54 : decode cX4_makePlan 54 = .ok (.istore_n 2, 1) := by decide +kernel
theorem dX4_makePlan_55 : decode cX4_makePlan 55 = .ok (.iload_n 2, 1) := by decide +kernel
theorem dX4_makePlan_56 : decode cX4_makePlan 56 = .ok (.aload_n 0, 1) := by decide +kernel
theorem dX4_makePlan_57 : decode cX4_makePlan 57 = .ok (.getfield 33, 3) := by decide +kernel
theorem dX4_makePlan_60 : decode cX4_makePlan 60 = .ok (.getfield 59, 3) := by decide +kernel
theorem dX4_makePlan_63 : decode cX4_makePlan 63 = .ok (.if_icmp .ge 21, 3) := by decide +kernel
theorem dX4_makePlan_66 : decode cX4_makePlan 66 = .ok (.aload_n 0, 1) := by decide +kernel
theorem dX4_makePlan_67 : decode cX4_makePlan 67 = .ok (.getfield 19, 3) := by decide +kernel
theorem dX4_makePlan_70 : decode cX4_makePlan 70 = .ok (.aload_n 0, 1) := by decide +kernel
theorem dX4_makePlan_71 : decode cX4_makePlan 71 = .ok (.iload_n 1, 1) := by decide +kernel
theorem dX4_makePlan_72 : decode cX4_makePlan 72 = .ok (.iload_n 2, 1) := by decide +kernel
theorem dX4_makePlan_73 : decode cX4_makePlan 73 = .ok (.invokevirtual 83, 3) := by decide +kernel
theorem dX4_makePlan_76 : decode cX4_makePlan 76 = .ok (.iconst 0, 1) := by decide +kernel
theorem dX4_makePlan_77 : decode cX4_makePlan 77 = .ok (.iastore, 1) := by decide +kernel
theorem dX4_makePlan_78 : decode cX4_makePlan 78 = .ok (.iinc 2 1, 3) := by decide +kernel
theorem dX4_makePlan_81 : decode cX4_makePlan 81 = .ok (.goto (-26), 3) := by decide +kernel
theorem dX4_makePlan_84 : decode cX4_makePlan 84 = .ok (.iload_n 1, 1) := by decide +kernel
theorem dX4_makePlan_85 : decode cX4_makePlan 85 = .ok (.iconst 1, 1) := by decide +kernel
theorem dX4_makePlan_86 : decode cX4_makePlan 86 = .ok (.isub, 1) := by decide +kernel
theorem dX4_makePlan_87 : decode cX4_makePlan 87 = .ok (.istore_n 2, 1) := by decide +kernel
theorem dX4_makePlan_88 : decode cX4_makePlan 88 = .ok (.iload_n 2, 1) := by decide +kernel
theorem dX4_makePlan_89 : decode cX4_makePlan 89 = .ok (.ifCond .lt 30, 3) := by decide +kernel
theorem dX4_makePlan_92 : decode cX4_makePlan 92 = .ok (.aload_n 0, 1) := by decide +kernel
theorem dX4_makePlan_93 : decode cX4_makePlan 93 = .ok (.getfield 13, 3) := by decide +kernel
theorem dX4_makePlan_96 : decode cX4_makePlan 96 = .ok (.iload_n 2, 1) := by decide +kernel
theorem dX4_makePlan_97 : decode cX4_makePlan 97 = .ok (.laload, 1) := by decide +kernel
theorem dX4_makePlan_98 : decode cX4_makePlan 98 = .ok (.lconst 0, 1) := by decide +kernel
theorem dX4_makePlan_99 : decode cX4_makePlan 99 = .ok (.lcmp, 1) := by decide +kernel
theorem dX4_makePlan_100 : decode cX4_makePlan 100 = .ok (.ifCond .eq 13, 3) := by decide +kernel
theorem dX4_makePlan_103 : decode cX4_makePlan 103 = .ok (.aload_n 0, 1) := by decide +kernel
theorem dX4_makePlan_104 : decode cX4_makePlan 104 = .ok (.iload_n 2, 1) := by decide +kernel
theorem dX4_makePlan_105 : decode cX4_makePlan 105 = .ok (.invokevirtual 87, 3) := by decide +kernel
theorem dX4_makePlan_108 : decode cX4_makePlan 108 = .ok (.aload_n 0, 1) := by decide +kernel
theorem dX4_makePlan_109 : decode cX4_makePlan 109 = .ok (.iload_n 2, 1) := by decide +kernel
theorem dX4_makePlan_110 : decode cX4_makePlan 110 = .ok (.invokevirtual 91, 3) := by decide +kernel
theorem dX4_makePlan_113 : decode cX4_makePlan 113 = .ok (.iinc 2 (-1), 3) := by decide +kernel
theorem dX4_makePlan_116 : decode cX4_makePlan 116 = .ok (.goto (-28), 3) := by decide +kernel
theorem dX4_makePlan_119 : decode cX4_makePlan 119 = .ok (.aload_n 0, 1) := by decide +kernel
theorem dX4_makePlan_120 : decode cX4_makePlan 120 = .ok (.iload_n 1, 1) := by decide +kernel
theorem dX4_makePlan_121 : decode cX4_makePlan 121 = .ok (.invokevirtual 94, 3) := by decide +kernel
theorem dX4_makePlan_124 : decode cX4_makePlan 124 = .ok (.return_, 1) := by decide +kernel
theorem dX4_findNear_0 : decode cX4_findNear 0 = .ok (.iconst 0, 1) := by decide +kernel
theorem dX4_findNear_1 : decode cX4_findNear 1 = .ok (.istore_n 1, 1) := by decide +kernel
theorem dX4_findNear_2 : decode cX4_findNear 2 = .ok (.iload_n 1, 1) := by decide +kernel
theorem dX4_findNear_3 : decode cX4_findNear 3 = .ok (.aload_n 0, 1) := by decide +kernel
theorem dX4_findNear_4 : decode cX4_findNear 4 = .ok (.getfield 33, 3) := by decide +kernel
theorem dX4_findNear_7 : decode cX4_findNear 7 = .ok (.getfield 59, 3) := by decide +kernel
theorem dX4_findNear_10 : decode cX4_findNear 10 = .ok (.if_icmp .ge 76, 3) := by decide +kernel
theorem dX4_findNear_13 : decode cX4_findNear 13 = .ok (.aload_n 0, 1) := by decide +kernel
theorem dX4_findNear_14 : decode cX4_findNear 14 = .ok (.getfield 23, 3) := by decide +kernel
theorem dX4_findNear_17 : decode cX4_findNear 17 = .ok (.iload_n 1, 1) := by decide +kernel
theorem dX4_findNear_18 : decode cX4_findNear 18 = .ok (.iconst 0, 1) := by decide +kernel
theorem dX4_findNear_19 : decode cX4_findNear 19 = .ok (.iastore, 1) := by decide +kernel
theorem dX4_findNear_20 : decode cX4_findNear 20 = .ok (.iconst 0, 1) := by decide +kernel
theorem dX4_findNear_21 : decode cX4_findNear 21 = .ok (.istore_n 2, 1) := by decide +kernel
theorem dX4_findNear_22 : decode cX4_findNear 22 = .ok (.iload_n 2, 1) := by decide +kernel
theorem dX4_findNear_23 : decode cX4_findNear 23 = .ok (.aload_n 0, 1) := by decide +kernel
theorem dX4_findNear_24 : decode cX4_findNear 24 = .ok (.getfield 29, 3) := by decide +kernel
theorem dX4_findNear_27 : decode cX4_findNear 27 = .ok (.getfield 65, 3) := by decide +kernel
theorem dX4_findNear_30 : decode cX4_findNear 30 = .ok (.if_icmp .ge 50, 3) := by decide +kernel
theorem dX4_findNear_33 : decode cX4_findNear 33 = .ok (.aload_n 0, 1) := by decide +kernel
theorem dX4_findNear_34 : decode cX4_findNear 34 = .ok (.getfield 33, 3) := by decide +kernel
theorem dX4_findNear_37 : decode cX4_findNear 37 = .ok (.iload_n 1, 1) := by decide +kernel
theorem dX4_findNear_38 : decode cX4_findNear 38 = .ok (.aload_n 0, 1) := by decide +kernel
theorem dX4_findNear_39 : decode cX4_findNear 39 = .ok (.getfield 29, 3) := by decide +kernel
theorem dX4_findNear_42 : decode cX4_findNear 42 = .ok (.getfield 97, 3) := by decide +kernel
theorem dX4_findNear_45 : decode cX4_findNear 45 = .ok (.iload_n 2, 1) := by decide +kernel
theorem dX4_findNear_46 : decode cX4_findNear 46 = .ok (.iaload, 1) := by decide +kernel
theorem dX4_findNear_47 : decode cX4_findNear 47 = .ok (.aload_n 0, 1) := by decide +kernel
theorem dX4_findNear_48 : decode cX4_findNear 48 = .ok (.getfield 29, 3) := by decide +kernel
theorem dX4_findNear_51 : decode cX4_findNear 51 = .ok (.getfield 100, 3) := by decide +kernel
theorem dX4_findNear_54 : decode cX4_findNear 54 = .ok (.iload_n 2, 1) := by decide +kernel
theorem dX4_findNear_55 : decode cX4_findNear 55 = .ok (.iaload, 1) := by decide +kernel
theorem dX4_findNear_56 : decode cX4_findNear 56 = .ok (.invokevirtual 103, 3) := by decide +kernel
theorem dX4_findNear_59 : decode cX4_findNear 59 = .ok (.ifCond .eq 15, 3) := by decide +kernel
theorem dX4_findNear_62 : decode cX4_findNear 62 = .ok (.aload_n 0, 1) := by decide +kernel
theorem dX4_findNear_63 : decode cX4_findNear 63 = .ok (.getfield 23, 3) := by decide +kernel
theorem dX4_findNear_66 : decode cX4_findNear 66 = .ok (.iload_n 1, 1) := by decide +kernel
theorem dX4_findNear_67 : decode cX4_findNear 67 = .ok (.dup2, 1) := by decide +kernel
theorem dX4_findNear_68 : decode cX4_findNear 68 = .ok (.iaload, 1) := by decide +kernel
theorem dX4_findNear_69 : decode cX4_findNear 69 = .ok (.iconst 1, 1) := by decide +kernel
theorem dX4_findNear_70 : decode cX4_findNear 70 = .ok (.iload_n 2, 1) := by decide +kernel
theorem dX4_findNear_71 : decode cX4_findNear 71 = .ok (.ishl, 1) := by decide +kernel
theorem dX4_findNear_72 : decode cX4_findNear 72 = .ok (.ior, 1) := by decide +kernel
theorem dX4_findNear_73 : decode cX4_findNear 73 = .ok (.iastore, 1) := by decide +kernel
theorem dX4_findNear_74 : decode cX4_findNear 74 = .ok (.iinc 2 1, 3) := by decide +kernel
theorem dX4_findNear_77 : decode cX4_findNear 77 = .ok (.goto (-55), 3) := by decide +kernel
theorem dX4_findNear_80 : decode cX4_findNear 80 = .ok (.iinc 1 1, 3) := by decide +kernel
theorem dX4_findNear_83 : decode cX4_findNear 83 = .ok (.goto (-81), 3) := by decide +kernel
theorem dX4_findNear_86 : decode cX4_findNear 86 = .ok (.return_, 1) := by decide +kernel
theorem dX4_place_0 : decode cX4_place 0 = .ok (.iload_n 1, 1) := by decide +kernel
theorem dX4_place_1 : decode cX4_place 1 = .ok (.iconst 5, 1) := by decide +kernel
theorem dX4_place_2 : decode cX4_place 2 = .ok (.imul, 1) := by decide +kernel
theorem dX4_place_3 : decode cX4_place 3 = .ok (.iload_n 2, 1) := by decide +kernel
theorem dX4_place_4 : decode cX4_place 4 = .ok (.iadd, 1) := by decide +kernel
theorem dX4_place_5 : decode cX4_place 5 = .ok (.ireturn, 1) := by decide +kernel
theorem dX4_canLay_0 : decode cX4_canLay 0 = .ok (.aload_n 0, 1) := by decide +kernel
theorem dX4_canLay_1 : decode cX4_canLay 1 = .ok (.getfield 29, 3) := by decide +kernel
theorem dX4_canLay_4 : decode cX4_canLay 4 = .ok (.iload_n 1, 1) := by decide +kernel
theorem dX4_canLay_5 : decode cX4_canLay 5 = .ok (.iload_n 2, 1) := by decide +kernel
theorem dX4_canLay_6 : decode cX4_canLay 6 = .ok (.invokevirtual 76, 3) := by decide +kernel
theorem dX4_canLay_9 : decode cX4_canLay 9 = .ok (.ifCond .eq 22, 3) := by decide +kernel
theorem dX4_canLay_12 : decode cX4_canLay 12 = .ok (.aload_n 0, 1) := by decide +kernel
theorem dX4_canLay_13 : decode cX4_canLay 13 = .ok (.getfield 13, 3) := by decide +kernel
theorem dX4_canLay_16 : decode cX4_canLay 16 = .ok (.iload_n 2, 1) := by decide +kernel
theorem dX4_canLay_17 : decode cX4_canLay 17 = .ok (.iconst 1, 1) := by decide +kernel
theorem dX4_canLay_18 : decode cX4_canLay 18 = .ok (.iload_n 1, 1) := by decide +kernel
theorem dX4_canLay_19 : decode cX4_canLay 19 = .ok (.ishl, 1) := by decide +kernel
theorem dX4_canLay_20 : decode cX4_canLay 20 = .ok (.ior, 1) := by decide +kernel
theorem dX4_canLay_21 : decode cX4_canLay 21 = .ok (.laload, 1) := by decide +kernel
theorem dX4_canLay_22 : decode cX4_canLay 22 = .ok (.lconst 0, 1) := by decide +kernel
theorem dX4_canLay_23 : decode cX4_canLay 23 = .ok (.lcmp, 1) := by decide +kernel
theorem dX4_canLay_24 : decode cX4_canLay 24 = .ok (.ifCond .eq 7, 3) := by decide +kernel
theorem dX4_canLay_27 : decode cX4_canLay 27 = .ok (.iconst 1, 1) := by decide +kernel
theorem dX4_canLay_28 : decode cX4_canLay 28 = .ok (.goto 4, 3) := by decide +kernel
theorem dX4_canLay_31 : decode cX4_canLay 31 = .ok (.iconst 0, 1) := by decide +kernel
theorem dX4_canLay_32 : decode cX4_canLay 32 = .ok (.ireturn, 1) := by decide +kernel
theorem dX4_priceByLaying_0 : decode cX4_priceByLaying 0 = .ok (.iconst 0, 1) := by decide +kernel
theorem dX4_priceByLaying_1 : decode cX4_priceByLaying 1 = .ok (.istore_n 2, 1) := by decide +kernel
theorem dX4_priceByLaying_2 : decode cX4_priceByLaying 2 = .ok (.iconst 0, 1) := by decide +kernel
theorem dX4_priceByLaying_3 : decode cX4_priceByLaying 3 = .ok (.istore_n 3, 1) := by decide +kernel
theorem dX4_priceByLaying_4 : decode cX4_priceByLaying 4 = .ok (.iload_n 3, 1) := by decide +kernel
theorem dX4_priceByLaying_5 : decode cX4_priceByLaying 5 = .ok (.aload_n 0, 1) := by decide +kernel
theorem dX4_priceByLaying_6 : decode cX4_priceByLaying 6 = .ok (.getfield 29, 3) := by decide +kernel
theorem dX4_priceByLaying_9 : decode cX4_priceByLaying 9 = .ok (.getfield 65, 3) := by decide +kernel
theorem dX4_priceByLaying_12 : decode cX4_priceByLaying 12 = .ok (.if_icmp .ge 28, 3) := by decide +kernel
theorem dX4_priceByLaying_15 : decode cX4_priceByLaying 15 = .ok (.iload_n 2, 1) := by decide +kernel
theorem dX4_priceByLaying_16 : decode cX4_priceByLaying 16 = .ok (.aload_n 0, 1) := by decide +kernel
theorem dX4_priceByLaying_17 : decode cX4_priceByLaying 17 = .ok (.iload_n 3, 1) := by decide +kernel
theorem dX4_priceByLaying_18 : decode cX4_priceByLaying 18 = .ok (.iload_n 1, 1) := by decide +kernel
theorem dX4_priceByLaying_19 : decode cX4_priceByLaying 19 = .ok (.invokevirtual 107, 3) := by decide +kernel
theorem dX4_priceByLaying_22 : decode cX4_priceByLaying 22 = .ok (.ifCond .eq 9, 3) := by decide +kernel
theorem dX4_priceByLaying_25 : decode cX4_priceByLaying 25 = .ok (.iconst 1, 1) := by decide +kernel
theorem dX4_priceByLaying_26 : decode cX4_priceByLaying 26 = .ok (.iload_n 3, 1) := by decide +kernel
theorem dX4_priceByLaying_27 : decode cX4_priceByLaying 27 = .ok (.ishl, 1) := by decide +kernel
theorem dX4_priceByLaying_28 : decode cX4_priceByLaying 28 = .ok (.goto 4, 3) := by decide +kernel
theorem dX4_priceByLaying_31 : decode cX4_priceByLaying 31 = .ok (.iconst 0, 1) := by decide +kernel
theorem dX4_priceByLaying_32 : decode cX4_priceByLaying 32 = .ok (.ior, 1) := by decide +kernel
theorem dX4_priceByLaying_33 : decode cX4_priceByLaying 33 = .ok (.istore_n 2, 1) := by decide +kernel
theorem dX4_priceByLaying_34 : decode cX4_priceByLaying 34 = .ok (.iinc 3 1, 3) := by decide +kernel
theorem dX4_priceByLaying_37 : decode cX4_priceByLaying 37 = .ok (.goto (-33), 3) := by decide +kernel
theorem dX4_priceByLaying_40 : decode cX4_priceByLaying 40 = .ok (.iconst 0, 1) := by decide +kernel
theorem dX4_priceByLaying_41 : decode cX4_priceByLaying 41 = .ok (.istore_n 3, 1) := by decide +kernel
theorem dX4_priceByLaying_42 : decode cX4_priceByLaying 42 = .ok (.iload_n 3, 1) := by decide +kernel
theorem dX4_priceByLaying_43 : decode cX4_priceByLaying 43 = .ok (.aload_n 0, 1) := by decide +kernel
theorem dX4_priceByLaying_44 : decode cX4_priceByLaying 44 = .ok (.getfield 33, 3) := by decide +kernel
theorem dX4_priceByLaying_47 : decode cX4_priceByLaying 47 = .ok (.getfield 59, 3) := by decide +kernel
theorem dX4_priceByLaying_50 : decode cX4_priceByLaying 50 = .ok (.if_icmp .ge 34, 3) := by decide +kernel
theorem dX4_priceByLaying_53 : decode cX4_priceByLaying 53 = .ok (.aload_n 0, 1) := by decide +kernel
theorem dX4_priceByLaying_54 : decode cX4_priceByLaying 54 = .ok (.getfield 19, 3) := by decide +kernel
theorem dX4_priceByLaying_57 : decode cX4_priceByLaying 57 = .ok (.aload_n 0, 1) := by decide +kernel
theorem dX4_priceByLaying_58 : decode cX4_priceByLaying 58 = .ok (.iload_n 1, 1) := by decide +kernel
theorem dX4_priceByLaying_59 : decode cX4_priceByLaying 59 = .ok (.iload_n 3, 1) := by decide +kernel
theorem dX4_priceByLaying_60 : decode cX4_priceByLaying 60 = .ok (.invokevirtual 83, 3) := by decide +kernel
theorem dX4_priceByLaying_63 : decode cX4_priceByLaying 63 = .ok (.aload_n 0, 1) := by decide +kernel
theorem dX4_priceByLaying_64 : decode cX4_priceByLaying 64 = .ok (.iload_n 1, 1) := by decide +kernel
theorem dX4_priceByLaying_65 : decode cX4_priceByLaying 65 = .ok (.iload_n 3, 1) := by decide +kernel
theorem dX4_priceByLaying_66 : decode cX4_priceByLaying 66 = .ok (.iload_n 2, 1) := by decide +kernel
theorem dX4_priceByLaying_67 : decode cX4_priceByLaying 67 = .ok (.aload_n 0, 1) := by decide +kernel
theorem dX4_priceByLaying_68 : decode cX4_priceByLaying 68 = .ok (.getfield 23, 3) := by decide +kernel
theorem dX4_priceByLaying_71 : decode cX4_priceByLaying 71 = .ok (.iload_n 3, 1) := by decide +kernel
theorem dX4_priceByLaying_72 : decode cX4_priceByLaying 72 = .ok (.iaload, 1) := by decide +kernel
theorem dX4_priceByLaying_73 : decode cX4_priceByLaying 73 = .ok (.iand, 1) := by decide +kernel
theorem dX4_priceByLaying_74 : decode cX4_priceByLaying 74 = .ok (.invokevirtual 110, 3) := by decide +kernel
theorem dX4_priceByLaying_77 : decode cX4_priceByLaying 77 = .ok (.iastore, 1) := by decide +kernel
theorem dX4_priceByLaying_78 : decode cX4_priceByLaying 78 = .ok (.iinc 3 1, 3) := by decide +kernel
theorem dX4_priceByLaying_81 : decode cX4_priceByLaying 81 = .ok (.goto (-39), 3) := by decide +kernel
theorem dX4_priceByLaying_84 : decode cX4_priceByLaying 84 = .ok (.return_, 1) := by decide +kernel
theorem dX4_leastAfterLaying_0 : decode cX4_leastAfterLaying 0 = .ok (.ldc 54, 2) := by decide +kernel
theorem dX4_leastAfterLaying_2 : decode cX4_leastAfterLaying 2 = .ok (.istore 4, 2) := by decide +kernel
theorem dX4_leastAfterLaying_4 : decode cX4_leastAfterLaying 4 = .ok (.iconst 0, 1) := by decide +kernel
theorem dX4_leastAfterLaying_5 : decode cX4_leastAfterLaying 5 = .ok (.istore 5, 2) := by decide +kernel
theorem dX4_leastAfterLaying_7 : decode cX4_leastAfterLaying 7 = .ok (.iload_n 3, 1) := by decide +kernel
theorem dX4_leastAfterLaying_8 : decode cX4_leastAfterLaying 8 = .ok (.ifCond .eq 59, 3) := by decide +kernel
theorem dX4_leastAfterLaying_11 : decode cX4_leastAfterLaying 11 = .ok (.iload 4, 2) := by decide +kernel
theorem dX4_leastAfterLaying_13 : decode cX4_leastAfterLaying 13 = .ok (.ifCond .le 54, 3) := by decide +kernel
theorem dX4_leastAfterLaying_16 : decode cX4_leastAfterLaying 16 = .ok (.iload 5, 2) := by decide +kernel
theorem dX4_leastAfterLaying_18 : decode cX4_leastAfterLaying 18 = .ok (.aload_n 0, 1) := by decide +kernel
theorem dX4_leastAfterLaying_19 : decode cX4_leastAfterLaying 19 = .ok (.getfield 29, 3) := by decide +kernel
theorem dX4_leastAfterLaying_22 : decode cX4_leastAfterLaying 22 = .ok (.getfield 65, 3) := by decide +kernel
theorem dX4_leastAfterLaying_25 : decode cX4_leastAfterLaying 25 = .ok (.if_icmp .ge 42, 3) := by decide +kernel
theorem dX4_leastAfterLaying_28 : decode cX4_leastAfterLaying 28 = .ok (.iload_n 3, 1) := by decide +kernel
theorem dX4_leastAfterLaying_29 : decode cX4_leastAfterLaying 29 = .ok (.iload 5, 2) := by decide +kernel
theorem dX4_leastAfterLaying_31 : decode cX4_leastAfterLaying 31 = .ok (.ishr, 1) := by decide +kernel
theorem dX4_leastAfterLaying_32 : decode cX4_leastAfterLaying 32 = .ok (.iconst 1, 1) := by decide +kernel
theorem dX4_leastAfterLaying_33 : decode cX4_leastAfterLaying 33 = .ok (.iand, 1) := by decide +kernel
theorem dX4_leastAfterLaying_34 : decode cX4_leastAfterLaying 34 = .ok (.iconst 1, 1) := by decide +kernel
theorem dX4_leastAfterLaying_35 : decode cX4_leastAfterLaying 35 = .ok (.if_icmp .ne 26, 3) := by decide +kernel
theorem dX4_leastAfterLaying_38 : decode cX4_leastAfterLaying 38 = .ok (.iload 4, 2) := by decide +kernel
theorem dX4_leastAfterLaying_40 : decode cX4_leastAfterLaying 40 = .ok (.aload_n 0, 1) := by decide +kernel
theorem dX4_leastAfterLaying_41 : decode cX4_leastAfterLaying 41 = .ok (.getfield 19, 3) := by decide +kernel
theorem dX4_leastAfterLaying_44 : decode cX4_leastAfterLaying 44 = .ok (.aload_n 0, 1) := by decide +kernel
theorem dX4_leastAfterLaying_45 : decode cX4_leastAfterLaying 45 = .ok (.iload_n 1, 1) := by decide +kernel
theorem dX4_leastAfterLaying_46 : decode cX4_leastAfterLaying 46 = .ok (.iconst 1, 1) := by decide +kernel
theorem dX4_leastAfterLaying_47 : decode cX4_leastAfterLaying 47 = .ok (.iload 5, 2) := by decide +kernel
theorem dX4_leastAfterLaying_49 : decode cX4_leastAfterLaying 49 = .ok (.ishl, 1) := by decide +kernel
theorem dX4_leastAfterLaying_50 : decode cX4_leastAfterLaying 50 = .ok (.ior, 1) := by decide +kernel
theorem dX4_leastAfterLaying_51 : decode cX4_leastAfterLaying 51 = .ok (.iload_n 2, 1) := by decide +kernel
theorem dX4_leastAfterLaying_52 : decode cX4_leastAfterLaying 52 = .ok (.invokevirtual 83, 3) := by decide +kernel
theorem dX4_leastAfterLaying_55 : decode cX4_leastAfterLaying 55 = .ok (.iaload, 1) := by decide +kernel
theorem dX4_leastAfterLaying_56 : decode cX4_leastAfterLaying 56 = .ok (.invokestatic 114, 3) := by decide +kernel
theorem dX4_leastAfterLaying_59 : decode cX4_leastAfterLaying 59 = .ok (.istore 4, 2) := by decide +kernel
theorem dX4_leastAfterLaying_61 : decode cX4_leastAfterLaying 61 = .ok (.iinc 5 1, 3) := by decide +kernel
theorem dX4_leastAfterLaying_64 : decode cX4_leastAfterLaying 64 = .ok (.goto (-57), 3) := by decide +kernel
theorem dX4_leastAfterLaying_67 : decode cX4_leastAfterLaying 67 = .ok (.iload 4, 2) := by decide +kernel
theorem dX4_leastAfterLaying_69 : decode cX4_leastAfterLaying 69 = .ok (.ireturn, 1) := by decide +kernel
theorem dX4_priceByShifting_0 : decode cX4_priceByShifting 0 = .ok (.iconst 1, 1) := by decide +kernel
theorem dX4_priceByShifting_1 : decode cX4_priceByShifting 1 = .ok (.istore_n 2, 1) := by decide +kernel
theorem dX4_priceByShifting_2 : decode cX4_priceByShifting 2 = .ok (.iconst 0, 1) := by decide +kernel
theorem dX4_priceByShifting_3 : decode cX4_priceByShifting 3 = .ok (.istore_n 3, 1) := by decide +kernel
theorem dX4_priceByShifting_4 : decode cX4_priceByShifting 4 = .ok (.iload_n 2, 1) := by decide +kernel
theorem dX4_priceByShifting_5 : decode cX4_priceByShifting 5 = .ok (.ifCond .eq 68, 3) := by decide +kernel
theorem dX4_priceByShifting_8 : decode cX4_priceByShifting 8 = .ok (.iload_n 3, 1) := by decide +kernel
theorem dX4_priceByShifting_9 : decode cX4_priceByShifting 9 = .ok (.aload_n 0, 1) := by decide +kernel
theorem dX4_priceByShifting_10 : decode cX4_priceByShifting 10 = .ok (.getfield 33, 3) := by decide +kernel
theorem dX4_priceByShifting_13 : decode cX4_priceByShifting 13 = .ok (.getfield 59, 3) := by decide +kernel
theorem dX4_priceByShifting_16 : decode cX4_priceByShifting 16 = .ok (.if_icmp .ge 57, 3) := by decide +kernel
theorem dX4_priceByShifting_19 : decode cX4_priceByShifting 19 = .ok (.iconst 0, 1) := by decide +kernel
theorem dX4_priceByShifting_20 : decode cX4_priceByShifting 20 = .ok (.istore_n 2, 1) := by decide +kernel
theorem dX4_priceByShifting_21 : decode cX4_priceByShifting 21 = .ok (.iconst 0, 1) := by decide +kernel
theorem dX4_priceByShifting_22 : decode cX4_priceByShifting 22 = .ok (.istore 4, 2) := by decide +kernel
theorem dX4_priceByShifting_24 : decode cX4_priceByShifting 24 = .ok (.iload 4, 2) := by decide +kernel
theorem dX4_priceByShifting_26 : decode cX4_priceByShifting 26 = .ok (.aload_n 0, 1) := by decide +kernel
theorem dX4_priceByShifting_27 : decode cX4_priceByShifting 27 = .ok (.getfield 33, 3) := by decide +kernel
theorem dX4_priceByShifting_30 : decode cX4_priceByShifting 30 = .ok (.getfield 59, 3) := by decide +kernel
theorem dX4_priceByShifting_33 : decode cX4_priceByShifting 33 = .ok (.if_icmp .ge 34, 3) := by decide +kernel
theorem dX4_priceByShifting_36 : decode cX4_priceByShifting 36 = .ok (.aload_n 0, 1) := by decide +kernel
theorem dX4_priceByShifting_37 : decode cX4_priceByShifting 37 = .ok (.getfield 33, 3) := by decide +kernel
theorem dX4_priceByShifting_40 : decode cX4_priceByShifting 40 = .ok (.iload 4, 2) := by decide +kernel
theorem dX4_priceByShifting_42 : decode cX4_priceByShifting 42 = .ok (.iload_n 1, 1) := by decide +kernel
theorem dX4_priceByShifting_43 : decode cX4_priceByShifting 43 = .ok (.invokevirtual 119, 3) := by decide +kernel
theorem dX4_priceByShifting_46 : decode cX4_priceByShifting 46 = .ok (.ifCond .eq 15, 3) := by decide +kernel
theorem dX4_priceByShifting_49 : decode cX4_priceByShifting 49 = .ok (.aload_n 0, 1) := by decide +kernel
theorem dX4_priceByShifting_50 : decode cX4_priceByShifting 50 = .ok (.iload_n 1, 1) := by decide +kernel
theorem dX4_priceByShifting_51 : decode cX4_priceByShifting 51 = .ok (.iload 4, 2) := by decide +kernel
theorem dX4_priceByShifting_53 : decode cX4_priceByShifting 53 = .ok (.invokevirtual 122, 3) := by decide +kernel
theorem dX4_priceByShifting_56 : decode cX4_priceByShifting 56 = .ok (.ifCond .eq 5, 3) := by decide +kernel
theorem dX4_priceByShifting_59 : decode cX4_priceByShifting 59 = .ok (.iconst 1, 1) := by decide +kernel
theorem dX4_priceByShifting_60 : decode cX4_priceByShifting 60 = .ok (.istore_n 2, 1) := by decide +kernel
theorem dX4_priceByShifting_61 : decode cX4_priceByShifting 61 = .ok (.iinc 4 1, 3) := by decide +kernel
theorem dX4_priceByShifting_64 : decode cX4_priceByShifting 64 = .ok (.goto (-40), 3) := by decide +kernel
theorem dX4_priceByShifting_67 : decode cX4_priceByShifting 67 = .ok (.iinc 3 1, 3) := by decide +kernel
theorem dX4_priceByShifting_70 : decode cX4_priceByShifting 70 = .ok (.goto (-66), 3) := by decide +kernel
theorem dX4_priceByShifting_73 : decode cX4_priceByShifting 73 = .ok (.return_, 1) := by decide +kernel
theorem dX4_priceThrough_0 : decode cX4_priceThrough 0 = .ok (.iconst 0, 1) := by decide +kernel
theorem dX4_priceThrough_1 : decode cX4_priceThrough 1 = .ok (.istore_n 3, 1) := by decide +kernel
theorem dX4_priceThrough_2 : decode cX4_priceThrough 2 = .ok (.aload_n 0, 1) := by decide +kernel
theorem dX4_priceThrough_3 : decode cX4_priceThrough 3 = .ok (.getfield 19, 3) := by decide +kernel
theorem dX4_priceThrough_6 : decode cX4_priceThrough 6 = .ok (.aload_n 0, 1) := by decide +kernel
theorem dX4_priceThrough_7 : decode cX4_priceThrough 7 = .ok (.iload_n 1, 1) := by decide +kernel
theorem dX4_priceThrough_8 : decode cX4_priceThrough 8 = .ok (.iload_n 2, 1) := by decide +kernel
theorem dX4_priceThrough_9 : decode cX4_priceThrough 9 = .ok (.invokevirtual 83, 3) := by decide +kernel
theorem dX4_priceThrough_12 : decode cX4_priceThrough 12 = .ok (.iaload, 1) := by decide +kernel
theorem dX4_priceThrough_13 : decode cX4_priceThrough 13 = .ok (.istore 4, 2) := by decide +kernel
theorem dX4_priceThrough_15 : decode cX4_priceThrough 15 = .ok (.iconst 0, 1) := by decide +kernel
theorem dX4_priceThrough_16 : decode cX4_priceThrough 16 = .ok (.istore 5, 2) := by decide +kernel
theorem dX4_priceThrough_18 : decode cX4_priceThrough 18 = .ok (.iload 5, 2) := by decide +kernel
theorem dX4_priceThrough_20 : decode cX4_priceThrough 20 = .ok (.aload_n 0, 1) := by decide +kernel
theorem dX4_priceThrough_21 : decode cX4_priceThrough 21 = .ok (.getfield 33, 3) := by decide +kernel
theorem dX4_priceThrough_24 : decode cX4_priceThrough 24 = .ok (.getfield 59, 3) := by decide +kernel
theorem dX4_priceThrough_27 : decode cX4_priceThrough 27 = .ok (.if_icmp .ge 64, 3) := by decide +kernel
theorem dX4_priceThrough_30 : decode cX4_priceThrough 30 = .ok (.aload_n 0, 1) := by decide +kernel
theorem dX4_priceThrough_31 : decode cX4_priceThrough 31 = .ok (.iload_n 1, 1) := by decide +kernel
theorem dX4_priceThrough_32 : decode cX4_priceThrough 32 = .ok (.iload 5, 2) := by decide +kernel
theorem dX4_priceThrough_34 : decode cX4_priceThrough 34 = .ok (.invokevirtual 83, 3) := by decide +kernel
theorem dX4_priceThrough_37 : decode cX4_priceThrough 37 = .ok (.istore 6, 2) := by decide +kernel
theorem dX4_priceThrough_39 : decode cX4_priceThrough 39 = .ok (.aload_n 0, 1) := by decide +kernel
theorem dX4_priceThrough_40 : decode cX4_priceThrough 40 = .ok (.getfield 33, 3) := by decide +kernel
theorem dX4_priceThrough_43 : decode cX4_priceThrough 43 = .ok (.getfield 125, 3) := by decide +kernel
theorem dX4_priceThrough_46 : decode cX4_priceThrough 46 = .ok (.iload 5, 2) := by decide +kernel
theorem dX4_priceThrough_48 : decode cX4_priceThrough 48 = .ok (.aaload, 1) := by decide +kernel
theorem dX4_priceThrough_49 : decode cX4_priceThrough 49 = .ok (.iload_n 2, 1) := by decide +kernel
theorem dX4_priceThrough_50 : decode cX4_priceThrough 50 = .ok (.iaload, 1) := by decide +kernel
theorem dX4_priceThrough_51 : decode cX4_priceThrough 51 = .ok (.iload 4, 2) := by decide +kernel
theorem dX4_priceThrough_53 : decode cX4_priceThrough 53 = .ok (.iadd, 1) := by decide +kernel
theorem dX4_priceThrough_54 : decode cX4_priceThrough 54 = .ok (.istore 7, 2) := by decide +kernel
theorem dX4_priceThrough_56 : decode cX4_priceThrough 56 = .ok (.iload 5, 2) := by decide +kernel
theorem dX4_priceThrough_58 : decode cX4_priceThrough 58 = .ok (.iload_n 2, 1) := by decide +kernel
theorem dX4_priceThrough_59 : decode cX4_priceThrough 59 = .ok (.if_icmp .eq 26, 3) := by decide +kernel
theorem dX4_priceThrough_62 : decode cX4_priceThrough 62 = .ok (.iload 7, 2) := by decide +kernel
theorem dX4_priceThrough_64 : decode cX4_priceThrough 64 = .ok (.aload_n 0, 1) := by decide +kernel
theorem dX4_priceThrough_65 : decode cX4_priceThrough 65 = .ok (.getfield 19, 3) := by decide +kernel
theorem dX4_priceThrough_68 : decode cX4_priceThrough 68 = .ok (.iload 6, 2) := by decide +kernel
theorem dX4_priceThrough_70 : decode cX4_priceThrough 70 = .ok (.iaload, 1) := by decide +kernel
theorem dX4_priceThrough_71 : decode cX4_priceThrough 71 = .ok (.if_icmp .ge 14, 3) := by decide +kernel
theorem dX4_priceThrough_74 : decode cX4_priceThrough 74 = .ok (.aload_n 0, 1) := by decide +kernel
theorem dX4_priceThrough_75 : decode cX4_priceThrough 75 = .ok (.getfield 19, 3) := by decide +kernel
theorem dX4_priceThrough_78 : decode cX4_priceThrough 78 = .ok (.iload 6, 2) := by decide +kernel
theorem dX4_priceThrough_80 : decode cX4_priceThrough 80 = .ok (.iload 7, 2) := by decide +kernel
theorem dX4_priceThrough_82 : decode cX4_priceThrough 82 = .ok (.iastore, 1) := by decide +kernel
theorem dX4_priceThrough_83 : decode cX4_priceThrough 83 = .ok (.iconst 1, 1) := by decide +kernel
theorem dX4_priceThrough_84 : decode cX4_priceThrough 84 = .ok (.istore_n 3, 1) := by decide +kernel
theorem dX4_priceThrough_85 : decode cX4_priceThrough 85 = .ok (.iinc 5 1, 3) := by decide +kernel
theorem dX4_priceThrough_88 : decode cX4_priceThrough 88 = .ok (.goto (-70), 3) := by decide +kernel
theorem dX4_priceThrough_91 : decode cX4_priceThrough 91 = .ok (.iload_n 3, 1) := by decide +kernel
theorem dX4_priceThrough_92 : decode cX4_priceThrough 92 = .ok (.ireturn, 1) := by decide +kernel
theorem dX4_trace_0 : decode cX4_trace 0 = .ok (.aload_n 0, 1) := by decide +kernel
theorem dX4_trace_1 : decode cX4_trace 1 = .ok (.iconst 0, 1) := by decide +kernel
theorem dX4_trace_2 : decode cX4_trace 2 = .ok (.putfield 55, 3) := by decide +kernel
theorem dX4_trace_5 : decode cX4_trace 5 = .ok (.iconst 0, 1) := by decide +kernel
theorem dX4_trace_6 : decode cX4_trace 6 = .ok (.istore_n 2, 1) := by decide +kernel
theorem dX4_trace_7 : decode cX4_trace 7 = .ok (.iconst 0, 1) := by decide +kernel
theorem dX4_trace_8 : decode cX4_trace 8 = .ok (.istore_n 3, 1) := by decide +kernel
theorem dX4_trace_9 : decode cX4_trace 9 = .ok (.aload_n 0, 1) := by decide +kernel
theorem dX4_trace_10 : decode cX4_trace 10 = .ok (.getfield 19, 3) := by decide +kernel
theorem dX4_trace_13 : decode cX4_trace 13 = .ok (.iconst 0, 1) := by decide +kernel
theorem dX4_trace_14 : decode cX4_trace 14 = .ok (.iaload, 1) := by decide +kernel
theorem dX4_trace_15 : decode cX4_trace 15 = .ok (.ldc 54, 2) := by decide +kernel
theorem dX4_trace_17 : decode cX4_trace 17 = .ok (.if_icmp .ge 79, 3) := by decide +kernel
theorem dX4_trace_20 : decode cX4_trace 20 = .ok (.iload_n 2, 1) := by decide +kernel
theorem dX4_trace_21 : decode cX4_trace 21 = .ok (.iload_n 1, 1) := by decide +kernel
theorem dX4_trace_22 : decode cX4_trace 22 = .ok (.if_icmp .eq 74, 3) := by decide +kernel
theorem dX4_trace_25 : decode cX4_trace 25 = .ok (.aload_n 0, 1) := by decide +kernel
theorem dX4_trace_26 : decode cX4_trace 26 = .ok (.getfield 55, 3) := by decide +kernel
theorem dX4_trace_29 : decode cX4_trace 29 = .ok (.bipush 70, 2) := by decide +kernel
theorem dX4_trace_31 : decode cX4_trace 31 = .ok (.if_icmp .ge 65, 3) := by decide +kernel
theorem dX4_trace_34 : decode cX4_trace 34 = .ok (.aload_n 0, 1) := by decide +kernel
theorem dX4_trace_35 : decode cX4_trace 35 = .ok (.iload_n 2, 1) := by decide +kernel
theorem dX4_trace_36 : decode cX4_trace 36 = .ok (.iload_n 3, 1) := by decide +kernel
theorem dX4_trace_37 : decode cX4_trace 37 = .ok (.invokevirtual 129, 3) := by decide +kernel
theorem dX4_trace_40 : decode cX4_trace 40 = .ok (.istore 4, 2) := by decide +kernel
theorem dX4_trace_42 : decode cX4_trace 42 = .ok (.iload 4, 2) := by decide +kernel
theorem dX4_trace_44 : decode cX4_trace 44 = .ok (.iconst (-1), 1) := by decide +kernel
theorem dX4_trace_45 : decode cX4_trace 45 = .ok (.if_icmp .ne 4, 3) := by decide +kernel
theorem dX4_trace_48 : decode cX4_trace 48 = .ok (.return_, 1) := by decide +kernel
theorem dX4_trace_49 : decode cX4_trace 49 = .ok (.aload_n 0, 1) := by decide +kernel
theorem dX4_trace_50 : decode cX4_trace 50 = .ok (.getfield 26, 3) := by decide +kernel
theorem dX4_trace_53 : decode cX4_trace 53 = .ok (.aload_n 0, 1) := by decide +kernel
theorem dX4_trace_54 : decode cX4_trace 54 = .ok (.getfield 55, 3) := by decide +kernel
theorem dX4_trace_57 : decode cX4_trace 57 = .ok (.iload 4, 2) := by decide +kernel
theorem dX4_trace_59 : decode cX4_trace 59 = .ok (.iastore, 1) := by decide +kernel
theorem dX4_trace_60 : decode cX4_trace 60 = .ok (.aload_n 0, 1) := by decide +kernel
theorem dX4_trace_61 : decode cX4_trace 61 = .ok (.dup, 1) := by decide +kernel
theorem dX4_trace_62 : decode cX4_trace 62 = .ok (.getfield 55, 3) := by decide +kernel
theorem dX4_trace_65 : decode cX4_trace 65 = .ok (.iconst 1, 1) := by decide +kernel
theorem dX4_trace_66 : decode cX4_trace 66 = .ok (.iadd, 1) := by decide +kernel
theorem dX4_trace_67 : decode cX4_trace 67 = .ok (.putfield 55, 3) := by decide +kernel
theorem dX4_trace_70 : decode cX4_trace 70 = .ok (.iload 4, 2) := by decide +kernel
theorem dX4_trace_72 : decode cX4_trace 72 = .ok (.bipush 100, 2) := by decide +kernel
theorem dX4_trace_74 : decode cX4_trace 74 = .ok (.if_icmp .lt 12, 3) := by decide +kernel
theorem dX4_trace_77 : decode cX4_trace 77 = .ok (.iload 4, 2) := by decide +kernel
theorem dX4_trace_79 : decode cX4_trace 79 = .ok (.bipush 100, 2) := by decide +kernel
theorem dX4_trace_81 : decode cX4_trace 81 = .ok (.isub, 1) := by decide +kernel
theorem dX4_trace_82 : decode cX4_trace 82 = .ok (.istore_n 3, 1) := by decide +kernel
theorem dX4_trace_83 : decode cX4_trace 83 = .ok (.goto 10, 3) := by decide +kernel
theorem dX4_trace_86 : decode cX4_trace 86 = .ok (.iload_n 2, 1) := by decide +kernel
theorem dX4_trace_87 : decode cX4_trace 87 = .ok (.iconst 1, 1) := by decide +kernel
theorem dX4_trace_88 : decode cX4_trace 88 = .ok (.iload 4, 2) := by decide +kernel
theorem dX4_trace_90 : decode cX4_trace 90 = .ok (.ishl, 1) := by decide +kernel
theorem dX4_trace_91 : decode cX4_trace 91 = .ok (.ior, 1) := by decide +kernel
theorem dX4_trace_92 : decode cX4_trace 92 = .ok (.istore_n 2, 1) := by decide +kernel
theorem dX4_trace_93 : decode cX4_trace 93 = .ok (.goto (-84), 3) := by decide +kernel
theorem dX4_trace_96 : decode cX4_trace 96 = .ok (.return_, 1) := by decide +kernel
theorem dX4_leastAct_0 : decode cX4_leastAct 0 = .ok (.aload_n 0, 1) := by decide +kernel
theorem dX4_leastAct_1 : decode cX4_leastAct 1 = .ok (.getfield 19, 3) := by decide +kernel
theorem dX4_leastAct_4 : decode cX4_leastAct 4 = .ok (.aload_n 0, 1) := by decide +kernel
theorem dX4_leastAct_5 : decode cX4_leastAct 5 = .ok (.iload_n 1, 1) := by decide +kernel
theorem dX4_leastAct_6 : decode cX4_leastAct 6 = .ok (.iload_n 2, 1) := by decide +kernel
theorem dX4_leastAct_7 : decode cX4_leastAct 7 = .ok (.invokevirtual 83, 3) := by decide +kernel
theorem dX4_leastAct_10 : decode cX4_leastAct 10 = .ok (.iaload, 1) := by decide +kernel
theorem dX4_leastAct_11 : decode cX4_leastAct 11 = .ok (.istore_n 3, 1) := by decide +kernel
theorem dX4_leastAct_12 : decode cX4_leastAct 12 = .ok (.iconst 0, 1) := by decide +kernel
theorem dX4_leastAct_13 : decode cX4_leastAct 13 = .ok (.istore 4, 2) := by decide +kernel
theorem dX4_leastAct_15 : decode cX4_leastAct 15 = .ok (.iload 4, 2) := by decide +kernel
theorem dX4_leastAct_17 : decode cX4_leastAct 17 = .ok (.aload_n 0, 1) := by decide +kernel
theorem dX4_leastAct_18 : decode cX4_leastAct 18 = .ok (.getfield 29, 3) := by decide +kernel
theorem dX4_leastAct_21 : decode cX4_leastAct 21 = .ok (.getfield 65, 3) := by decide +kernel
theorem dX4_leastAct_24 : decode cX4_leastAct 24 = .ok (.if_icmp .ge 69, 3) := by decide +kernel
theorem dX4_leastAct_27 : decode cX4_leastAct 27 = .ok (.aload_n 0, 1) := by decide +kernel
theorem dX4_leastAct_28 : decode cX4_leastAct 28 = .ok (.getfield 23, 3) := by decide +kernel
theorem dX4_leastAct_31 : decode cX4_leastAct 31 = .ok (.iload_n 2, 1) := by decide +kernel
theorem dX4_leastAct_32 : decode cX4_leastAct 32 = .ok (.iaload, 1) := by decide +kernel
theorem dX4_leastAct_33 : decode cX4_leastAct 33 = .ok (.iload 4, 2) := by decide +kernel
theorem dX4_leastAct_35 : decode cX4_leastAct 35 = .ok (.ishr, 1) := by decide +kernel
theorem dX4_leastAct_36 : decode cX4_leastAct 36 = .ok (.iconst 1, 1) := by decide +kernel
theorem dX4_leastAct_37 : decode cX4_leastAct 37 = .ok (.iand, 1) := by decide +kernel
theorem dX4_leastAct_38 : decode cX4_leastAct 38 = .ok (.iconst 1, 1) := by decide +kernel
theorem dX4_leastAct_39 : decode cX4_leastAct 39 = .ok (.if_icmp .ne 7, 3) := by decide +kernel
theorem dX4_leastAct_42 : decode cX4_leastAct 42 = .ok (.iconst 1, 1) := by decide +kernel
theorem dX4_leastAct_43 : decode cX4_leastAct 43 = .ok (.goto 4, 3) := by decide +kernel
theorem dX4_leastAct_46 : decode cX4_leastAct 46 = .ok (.iconst 0, 1) := by decide +kernel
theorem dX4_leastAct_47 : decode cX4_leastAct 47 = .ok (.istore 5, 2) := by decide +kernel
theorem dX4_leastAct_49 : decode cX4_leastAct 49 = .ok (.iload 5, 2) := by decide +kernel
theorem dX4_leastAct_51 : decode cX4_leastAct 51 = .ok (.ifCond .eq 36, 3) := by decide +kernel
theorem dX4_leastAct_54 : decode cX4_leastAct 54 = .ok (.aload_n 0, 1) := by decide +kernel
theorem dX4_leastAct_55 : decode cX4_leastAct 55 = .ok (.iload 4, 2) := by decide +kernel
theorem dX4_leastAct_57 : decode cX4_leastAct 57 = .ok (.iload_n 1, 1) := by decide +kernel
theorem dX4_leastAct_58 : decode cX4_leastAct 58 = .ok (.invokevirtual 107, 3) := by decide +kernel
theorem dX4_leastAct_61 : decode cX4_leastAct 61 = .ok (.ifCond .eq 26, 3) := by decide +kernel
theorem dX4_leastAct_64 : decode cX4_leastAct 64 = .ok (.aload_n 0, 1) := by decide +kernel
theorem dX4_leastAct_65 : decode cX4_leastAct 65 = .ok (.getfield 19, 3) := by decide +kernel
theorem dX4_leastAct_68 : decode cX4_leastAct 68 = .ok (.aload_n 0, 1) := by decide +kernel
theorem dX4_leastAct_69 : decode cX4_leastAct 69 = .ok (.iload_n 1, 1) := by decide +kernel
theorem dX4_leastAct_70 : decode cX4_leastAct 70 = .ok (.iconst 1, 1) := by decide +kernel
theorem dX4_leastAct_71 : decode cX4_leastAct 71 = .ok (.iload 4, 2) := by decide +kernel
theorem dX4_leastAct_73 : decode cX4_leastAct 73 = .ok (.ishl, 1) := by decide +kernel
theorem dX4_leastAct_74 : decode cX4_leastAct 74 = .ok (.ior, 1) := by decide +kernel
theorem dX4_leastAct_75 : decode cX4_leastAct 75 = .ok (.iload_n 2, 1) := by decide +kernel
theorem dX4_leastAct_76 : decode cX4_leastAct 76 = .ok (.invokevirtual 83, 3) := by decide +kernel
theorem dX4_leastAct_79 : decode cX4_leastAct 79 = .ok (.iaload, 1) := by decide +kernel
theorem dX4_leastAct_80 : decode cX4_leastAct 80 = .ok (.iload_n 3, 1) := by decide +kernel
theorem dX4_leastAct_81 : decode cX4_leastAct 81 = .ok (.if_icmp .ne 6, 3) := by decide +kernel
theorem dX4_leastAct_84 : decode cX4_leastAct 84 = .ok (.iload 4, 2) := by decide +kernel
theorem dX4_leastAct_86 : decode cX4_leastAct 86 = .ok (.ireturn, 1) := by decide +kernel
theorem dX4_leastAct_87 : decode cX4_leastAct 87 = .ok (.iinc 4 1, 3) := by decide +kernel
theorem dX4_leastAct_90 : decode cX4_leastAct 90 = .ok (.goto (-75), 3) := by decide +kernel
theorem dX4_leastAct_93 : decode cX4_leastAct 93 = .ok (.iconst 0, 1) := by decide +kernel
theorem dX4_leastAct_94 : decode cX4_leastAct 94 = .ok (.istore 4, 2) := by decide +kernel
theorem dX4_leastAct_96 : decode cX4_leastAct 96 = .ok (.iload 4, 2) := by decide +kernel
theorem dX4_leastAct_98 : decode cX4_leastAct 98 = .ok (.aload_n 0, 1) := by decide +kernel
theorem dX4_leastAct_99 : decode cX4_leastAct 99 = .ok (.getfield 33, 3) := by decide +kernel
theorem dX4_leastAct_102 : decode cX4_leastAct 102 = .ok (.getfield 59, 3) := by decide +kernel
theorem dX4_leastAct_105 : decode cX4_leastAct 105 = .ok (.if_icmp .ge 75, 3) := by decide +kernel
theorem dX4_leastAct_108 : decode cX4_leastAct 108 = .ok (.iload 4, 2) := by decide +kernel
theorem dX4_leastAct_110 : decode cX4_leastAct 110 = .ok (.iload_n 2, 1) := by decide +kernel
theorem dX4_leastAct_111 : decode cX4_leastAct 111 = .ok (.if_icmp .eq 20, 3) := by decide +kernel
theorem dX4_leastAct_114 : decode cX4_leastAct 114 = .ok (.aload_n 0, 1) := by decide +kernel
theorem dX4_leastAct_115 : decode cX4_leastAct 115 = .ok (.getfield 33, 3) := by decide +kernel
theorem dX4_leastAct_118 : decode cX4_leastAct 118 = .ok (.iload 4, 2) := by decide +kernel
theorem dX4_leastAct_120 : decode cX4_leastAct 120 = .ok (.iload_n 1, 1) := by decide +kernel
theorem dX4_leastAct_121 : decode cX4_leastAct 121 = .ok (.invokevirtual 119, 3) := by decide +kernel
theorem dX4_leastAct_124 : decode cX4_leastAct 124 = .ok (.ifCond .eq 7, 3) := by decide +kernel
theorem dX4_leastAct_127 : decode cX4_leastAct 127 = .ok (.iconst 1, 1) := by decide +kernel
theorem dX4_leastAct_128 : decode cX4_leastAct 128 = .ok (.goto 4, 3) := by decide +kernel
theorem dX4_leastAct_131 : decode cX4_leastAct 131 = .ok (.iconst 0, 1) := by decide +kernel
theorem dX4_leastAct_132 : decode cX4_leastAct 132 = .ok (.istore 5, 2) := by decide +kernel
theorem dX4_leastAct_134 : decode cX4_leastAct 134 = .ok (.iload 5, 2) := by decide +kernel
theorem dX4_leastAct_136 : decode cX4_leastAct 136 = .ok (.ifCond .eq 38, 3) := by decide +kernel
theorem dX4_leastAct_139 : decode cX4_leastAct 139 = .ok (.aload_n 0, 1) := by decide +kernel
theorem dX4_leastAct_140 : decode cX4_leastAct 140 = .ok (.getfield 33, 3) := by decide +kernel
theorem dX4_leastAct_143 : decode cX4_leastAct 143 = .ok (.getfield 125, 3) := by decide +kernel
theorem dX4_leastAct_146 : decode cX4_leastAct 146 = .ok (.iload_n 2, 1) := by decide +kernel
theorem dX4_leastAct_147 : decode cX4_leastAct 147 = .ok (.aaload, 1) := by decide +kernel
theorem dX4_leastAct_148 : decode cX4_leastAct 148 = .ok (.iload 4, 2) := by decide +kernel
theorem dX4_leastAct_150 : decode cX4_leastAct 150 = .ok (.iaload, 1) := by decide +kernel
theorem dX4_leastAct_151 : decode cX4_leastAct 151 = .ok (.aload_n 0, 1) := by decide +kernel
theorem dX4_leastAct_152 : decode cX4_leastAct 152 = .ok (.getfield 19, 3) := by decide +kernel
theorem dX4_leastAct_155 : decode cX4_leastAct 155 = .ok (.aload_n 0, 1) := by decide +kernel
theorem dX4_leastAct_156 : decode cX4_leastAct 156 = .ok (.iload_n 1, 1) := by decide +kernel
theorem dX4_leastAct_157 : decode cX4_leastAct 157 = .ok (.iload 4, 2) := by decide +kernel
theorem dX4_leastAct_159 : decode cX4_leastAct 159 = .ok (.invokevirtual 83, 3) := by decide +kernel
theorem dX4_leastAct_162 : decode cX4_leastAct 162 = .ok (.iaload, 1) := by decide +kernel
theorem dX4_leastAct_163 : decode cX4_leastAct 163 = .ok (.iadd, 1) := by decide +kernel
theorem dX4_leastAct_164 : decode cX4_leastAct 164 = .ok (.iload_n 3, 1) := by decide +kernel
theorem dX4_leastAct_165 : decode cX4_leastAct 165 = .ok (.if_icmp .ne 9, 3) := by decide +kernel
theorem dX4_leastAct_168 : decode cX4_leastAct 168 = .ok (.bipush 100, 2) := by decide +kernel
theorem dX4_leastAct_170 : decode cX4_leastAct 170 = .ok (.iload 4, 2) := by decide +kernel
theorem dX4_leastAct_172 : decode cX4_leastAct 172 = .ok (.iadd, 1) := by decide +kernel
theorem dX4_leastAct_173 : decode cX4_leastAct 173 = .ok (.ireturn, 1) := by decide +kernel
theorem dX4_leastAct_174 : decode cX4_leastAct 174 = .ok (.iinc 4 1, 3) := by decide +kernel
theorem dX4_leastAct_177 : decode cX4_leastAct 177 = .ok (.goto (-81), 3) := by decide +kernel
theorem dX4_leastAct_180 : decode cX4_leastAct 180 = .ok (.iconst (-1), 1) := by decide +kernel
theorem dX4_leastAct_181 : decode cX4_leastAct 181 = .ok (.ireturn, 1) := by decide +kernel
theorem dX5_init_0 : decode cX5_init 0 = .ok (.aload_n 0, 1) := by decide +kernel
theorem dX5_init_1 : decode cX5_init 1 = .ok (.invokespecial 3, 3) := by decide +kernel
theorem dX5_init_4 : decode cX5_init 4 = .ok (.aload_n 0, 1) := by decide +kernel
theorem dX5_init_5 : decode cX5_init 5 = .ok (.bipush 6, 2) := by decide +kernel
theorem dX5_init_7 : decode cX5_init 7 = .ok (.newarray .int, 2) := by decide +kernel
theorem dX5_init_9 : decode cX5_init 9 = .ok (.putfield 11, 3) := by decide +kernel
theorem dX5_init_12 : decode cX5_init 12 = .ok (.aload_n 0, 1) := by decide +kernel
theorem dX5_init_13 : decode cX5_init 13 = .ok (.bipush 6, 2) := by decide +kernel
theorem dX5_init_15 : decode cX5_init 15 = .ok (.newarray .int, 2) := by decide +kernel
theorem dX5_init_17 : decode cX5_init 17 = .ok (.putfield 15, 3) := by decide +kernel
theorem dX5_init_20 : decode cX5_init 20 = .ok (.aload_n 0, 1) := by decide +kernel
theorem dX5_init_21 : decode cX5_init 21 = .ok (.bipush 6, 2) := by decide +kernel
theorem dX5_init_23 : decode cX5_init 23 = .ok (.newarray .boolean, 2) := by decide +kernel
theorem dX5_init_25 : decode cX5_init 25 = .ok (.putfield 18, 3) := by decide +kernel
theorem dX5_init_28 : decode cX5_init 28 = .ok (.aload_n 0, 1) := by decide +kernel
theorem dX5_init_29 : decode cX5_init 29 = .ok (.bipush 6, 2) := by decide +kernel
theorem dX5_init_31 : decode cX5_init 31 = .ok (.newarray .boolean, 2) := by decide +kernel
theorem dX5_init_33 : decode cX5_init 33 = .ok (.putfield 22, 3) := by decide +kernel
theorem dX5_init_36 : decode cX5_init 36 = .ok (.return_, 1) := by decide +kernel
theorem dX5_heldDry_0 : decode cX5_heldDry 0 = .ok (.iload_n 0, 1) := by decide +kernel
theorem dX5_heldDry_1 : decode cX5_heldDry 1 = .ok (.iconst 0, 1) := by decide +kernel
theorem dX5_heldDry_2 : decode cX5_heldDry 2 = .ok (.sipush 1000, 3) := by decide +kernel
theorem dX5_heldDry_5 : decode cX5_heldDry 5 = .ok (.iload_n 1, 1) := by decide +kernel
theorem dX5_heldDry_6 : decode cX5_heldDry 6 = .ok (.isub, 1) := by decide +kernel
theorem dX5_heldDry_7 : decode cX5_heldDry 7 = .ok (.invokestatic 25, 3) := by decide +kernel
theorem dX5_heldDry_10 : decode cX5_heldDry 10 = .ok (.imul, 1) := by decide +kernel
theorem dX5_heldDry_11 : decode cX5_heldDry 11 = .ok (.sipush 1000, 3) := by decide +kernel
theorem dX5_heldDry_14 : decode cX5_heldDry 14 = .ok (.idiv, 1) := by decide +kernel
theorem dX5_heldDry_15 : decode cX5_heldDry 15 = .ok (.ireturn, 1) := by decide +kernel
theorem dX5_wearBy_0 : decode cX5_wearBy 0 = .ok (.iload_n 1, 1) := by decide +kernel
theorem dX5_wearBy_1 : decode cX5_wearBy 1 = .ok (.i2l, 1) := by decide +kernel
theorem dX5_wearBy_2 : decode cX5_wearBy 2 = .ok (.ldc2_w 31, 3) := by decide +kernel
theorem dX5_wearBy_5 : decode cX5_wearBy 5 = .ok (.lmul, 1) := by decide +kernel
theorem dX5_wearBy_6 : decode cX5_wearBy 6 = .ok (.iload_n 0, 1) := by decide +kernel
theorem dX5_wearBy_7 : decode cX5_wearBy 7 = .ok (.i2l, 1) := by decide +kernel
theorem dX5_wearBy_8 : decode cX5_wearBy 8 = .ok (.invokestatic 33, 3) := by decide +kernel
theorem dX5_wearBy_11 : decode cX5_wearBy 11 = .ok (.l2i, 1) := by decide +kernel
theorem dX5_wearBy_12 : decode cX5_wearBy 12 = .ok (.istore_n 2, 1) := by decide +kernel
theorem dX5_wearBy_13 : decode cX5_wearBy 13 = .ok (.iconst 1, 1) := by decide +kernel
theorem dX5_wearBy_14 : decode cX5_wearBy 14 = .ok (.iload_n 2, 1) := by decide +kernel
theorem dX5_wearBy_15 : decode cX5_wearBy 15 = .ok (.iload_n 2, 1) := by decide +kernel
theorem dX5_wearBy_16 : decode cX5_wearBy 16 = .ok (.imul, 1) := by decide +kernel
theorem dX5_wearBy_17 : decode cX5_wearBy 17 = .ok (.sipush 1000, 3) := by decide +kernel
theorem dX5_wearBy_20 : decode cX5_wearBy 20 = .ok (.idiv, 1) := by decide +kernel
theorem dX5_wearBy_21 : decode cX5_wearBy 21 = .ok (.iadd, 1) := by decide +kernel
theorem dX5_wearBy_22 : decode cX5_wearBy 22 = .ok (.ireturn, 1) := by decide +kernel
theorem dX5_bring_0 : decode cX5_bring 0 = .ok (.aload_n 0, 1) := by decide +kernel
theorem dX5_bring_1 : decode cX5_bring 1 = .ok (.getfield 37, 3) := by decide +kernel
theorem dX5_bring_4 : decode cX5_bring 4 = .ok (.bipush 6, 2) := by decide +kernel
theorem dX5_bring_6 : decode cX5_bring 6 = .ok (.if_icmp .lt 6, 3) := by decide +kernel
theorem dX5_bring_9 : decode cX5_bring 9 = .ok (.bipush (-4), 2) := by decide +kernel
theorem dX5_bring_11 : decode cX5_bring 11 = .ok (.ireturn, 1) := by decide +kernel
theorem dX5_bring_12 : decode cX5_bring 12 = .ok (.aload_n 0, 1) := by decide +kernel
theorem dX5_bring_13 : decode cX5_bring 13 = .ok (.getfield 11, 3) := by decide +kernel
theorem dX5_bring_16 : decode cX5_bring 16 = .ok (.aload_n 0, 1) := by decide +kernel
theorem dX5_bring_17 : decode cX5_bring 17 = .ok (.getfield 37, 3) := by decide +kernel
theorem dX5_bring_20 : decode cX5_bring 20 = .ok (.iload_n 1, 1) := by decide +kernel
theorem dX5_bring_21 : decode cX5_bring 21 = .ok (.iastore, 1) := by decide +kernel
theorem dX5_bring_22 : decode cX5_bring 22 = .ok (.aload_n 0, 1) := by decide +kernel
theorem dX5_bring_23 : decode cX5_bring 23 = .ok (.dup, 1) := by decide +kernel
theorem dX5_bring_24 : decode cX5_bring 24 = .ok (.getfield 37, 3) := by decide +kernel
theorem dX5_bring_27 : decode cX5_bring 27 = .ok (.iconst 1, 1) := by decide +kernel
theorem dX5_bring_28 : decode cX5_bring 28 = .ok (.iadd, 1) := by decide +kernel
theorem dX5_bring_29 : decode cX5_bring 29 = .ok (.putfield 37, 3) := by decide +kernel
theorem dX5_bring_32 : decode cX5_bring 32 = .ok (.aload_n 0, 1) := by decide +kernel
theorem dX5_bring_33 : decode cX5_bring 33 = .ok (.getfield 37, 3) := by decide +kernel
theorem dX5_bring_36 : decode cX5_bring 36 = .ok (.iconst 1, 1) := by decide +kernel
theorem dX5_bring_37 : decode cX5_bring 37 = .ok (.isub, 1) := by decide +kernel
theorem dX5_bring_38 : decode cX5_bring 38 = .ok (.ireturn, 1) := by decide +kernel
theorem dX5_held_0 : decode cX5_held 0 = .ok (.aload_n 0, 1) := by decide +kernel
theorem dX5_held_1 : decode cX5_held 1 = .ok (.getfield 22, 3) := by decide +kernel
theorem dX5_held_4 : decode cX5_held 4 = .ok (.iload_n 1, 1) := by decide +kernel
theorem dX5_held_5 : decode cX5_held 5 = .ok (.baload, 1) := by decide +kernel
theorem dX5_held_6 : decode cX5_held 6 = .ok (.ifCond .eq 5, 3) := by decide +kernel
theorem dX5_held_9 : decode cX5_held 9 = .ok (.iconst 0, 1) := by decide +kernel
theorem dX5_held_10 : decode cX5_held 10 = .ok (.ireturn, 1) := by decide +kernel
theorem dX5_held_11 : decode cX5_held 11 = .ok (.aload_n 0, 1) := by decide +kernel
theorem dX5_held_12 : decode cX5_held 12 = .ok (.getfield 11, 3) := by decide +kernel
theorem dX5_held_15 : decode cX5_held 15 = .ok (.iload_n 1, 1) := by decide +kernel
theorem dX5_held_16 : decode cX5_held 16 = .ok (.iaload, 1) := by decide +kernel
theorem dX5_held_17 : decode cX5_held 17 = .ok (.aload_n 0, 1) := by decide +kernel
theorem dX5_held_18 : decode cX5_held 18 = .ok (.getfield 15, 3) := by decide +kernel
theorem dX5_held_21 : decode cX5_held 21 = .ok (.iload_n 1, 1) := by decide +kernel
theorem dX5_held_22 : decode cX5_held 22 = .ok (.iaload, 1) := by decide +kernel
theorem dX5_held_23 : decode cX5_held 23 = .ok (.invokestatic 41, 3) := by decide +kernel
theorem dX5_held_26 : decode cX5_held 26 = .ok (.istore_n 2, 1) := by decide +kernel
theorem dX5_held_27 : decode cX5_held 27 = .ok (.aload_n 0, 1) := by decide +kernel
theorem dX5_held_28 : decode cX5_held 28 = .ok (.getfield 18, 3) := by decide +kernel
theorem dX5_held_31 : decode cX5_held 31 = .ok (.iload_n 1, 1) := by decide +kernel
theorem dX5_held_32 : decode cX5_held 32 = .ok (.baload, 1) := by decide +kernel
theorem dX5_held_33 : decode cX5_held 33 = .ok (.ifCond .eq 11, 3) := by decide +kernel
theorem dX5_held_36 : decode cX5_held 36 = .ok (.iload_n 2, 1) := by decide +kernel
theorem dX5_held_37 : decode cX5_held 37 = .ok (.iconst 3, 1) := by decide +kernel
theorem dX5_held_38 : decode cX5_held 38 = .ok (.imul, 1) := by decide +kernel
theorem dX5_held_39 : decode cX5_held 39 = .ok (.iconst 4, 1) := by decide +kernel
theorem dX5_held_40 : decode cX5_held 40 = .ok (.idiv, 1) := by decide +kernel
theorem dX5_held_41 : decode cX5_held 41 = .ok (.goto 4, 3) := by decide +kernel
theorem dX5_held_44 : decode cX5_held 44 = .ok (.iload_n 2, 1) := by decide +kernel
theorem dX5_held_45 : decode cX5_held 45 = .ok (.ireturn, 1) := by decide +kernel
theorem dX5_survives_0 : decode cX5_survives 0 = .ok (.iload_n 2, 1) := by decide +kernel
theorem dX5_survives_1 : decode cX5_survives 1 = .ok (.aload_n 0, 1) := by decide +kernel
theorem dX5_survives_2 : decode cX5_survives 2 = .ok (.iload_n 1, 1) := by decide +kernel
theorem dX5_survives_3 : decode cX5_survives 3 = .ok (.invokevirtual 44, 3) := by decide +kernel
theorem dX5_survives_6 : decode cX5_survives 6 = .ok (.if_icmp .le 12, 3) := by decide +kernel
theorem dX5_survives_9 : decode cX5_survives 9 = .ok (.aload_n 0, 1) := by decide +kernel
theorem dX5_survives_10 : decode cX5_survives 10 = .ok (.getfield 22, 3) := by decide +kernel
theorem dX5_survives_13 : decode cX5_survives 13 = .ok (.iload_n 1, 1) := by decide +kernel
theorem dX5_survives_14 : decode cX5_survives 14 = .ok (.iconst 1, 1) := by decide +kernel
theorem dX5_survives_15 : decode cX5_survives 15 = .ok (.bastore, 1) := by decide +kernel
theorem dX5_survives_16 : decode cX5_survives 16 = .ok (.iconst 0, 1) := by decide +kernel
theorem dX5_survives_17 : decode cX5_survives 17 = .ok (.ireturn, 1) := by decide +kernel
theorem dX5_survives_18 : decode cX5_survives 18 = .ok (.aload_n 0, 1) := by decide +kernel
theorem dX5_survives_19 : decode cX5_survives 19 = .ok (.getfield 15, 3) := by decide +kernel
theorem dX5_survives_22 : decode cX5_survives 22 = .ok (.iload_n 1, 1) := by decide +kernel
theorem dX5_survives_23 : decode cX5_survives 23 = .ok (.dup2, 1) := by decide +kernel
theorem dX5_survives_24 : decode cX5_survives 24 = .ok (.iaload, 1) := by decide +kernel
theorem dX5_survives_25 : decode cX5_survives 25 = .ok (.aload_n 0, 1) := by decide +kernel
theorem dX5_survives_26 : decode cX5_survives 26 = .ok (.getfield 11, 3) := by decide +kernel
theorem dX5_survives_29 : decode cX5_survives 29 = .ok (.iload_n 1, 1) := by decide +kernel
theorem dX5_survives_30 : decode cX5_survives 30 = .ok (.iaload, 1) := by decide +kernel
theorem dX5_survives_31 : decode cX5_survives 31 = .ok (.iload_n 2, 1) := by decide +kernel
theorem dX5_survives_32 : decode cX5_survives 32 = .ok (.invokestatic 48, 3) := by decide +kernel
theorem dX5_survives_35 : decode cX5_survives 35 = .ok (.iadd, 1) := by decide +kernel
theorem dX5_survives_36 : decode cX5_survives 36 = .ok (.iastore, 1) := by decide +kernel
theorem dX5_survives_37 : decode cX5_survives 37 = .ok (.iconst 1, 1) := by decide +kernel
theorem dX5_survives_38 : decode cX5_survives 38 = .ok (.ireturn, 1) := by decide +kernel
theorem dX5_tell_0 : decode cX5_tell 0 = .ok (.iload_n 2, 1) := by decide +kernel
theorem dX5_tell_1 : decode cX5_tell 1 = .ok (.tableswitch 75 0 3 #[31, 38, 45, 60], 31) := by decide +kernel
theorem dX5_tell_32 : decode cX5_tell 32 = .ok (.aload_n 0, 1) := by decide +kernel
theorem dX5_tell_33 : decode cX5_tell 33 = .ok (.getfield 11, 3) := by decide +kernel
theorem dX5_tell_36 : decode cX5_tell 36 = .ok (.iload_n 1, 1) := by decide +kernel
theorem dX5_tell_37 : decode cX5_tell 37 = .ok (.iaload, 1) := by decide +kernel
theorem dX5_tell_38 : decode cX5_tell 38 = .ok (.ireturn, 1) := by decide +kernel
theorem dX5_tell_39 : decode cX5_tell 39 = .ok (.aload_n 0, 1) := by decide +kernel
theorem dX5_tell_40 : decode cX5_tell 40 = .ok (.getfield 15, 3) := by decide +kernel
theorem dX5_tell_43 : decode cX5_tell 43 = .ok (.iload_n 1, 1) := by decide +kernel
theorem dX5_tell_44 : decode cX5_tell 44 = .ok (.iaload, 1) := by decide +kernel
theorem dX5_tell_45 : decode cX5_tell 45 = .ok (.ireturn, 1) := by decide +kernel
theorem dX5_tell_46 : decode cX5_tell 46 = .ok (.aload_n 0, 1) := by decide +kernel
theorem dX5_tell_47 : decode cX5_tell 47 = .ok (.getfield 18, 3) := by decide +kernel
theorem dX5_tell_50 : decode cX5_tell 50 = .ok (.iload_n 1, 1) := by decide +kernel
theorem dX5_tell_51 : decode cX5_tell 51 = .ok (.baload, 1) := by decide +kernel
theorem dX5_tell_52 : decode cX5_tell 52 = .ok (.ifCond .eq 7, 3) := by decide +kernel
theorem dX5_tell_55 : decode cX5_tell 55 = .ok (.iconst 1, 1) := by decide +kernel
theorem dX5_tell_56 : decode cX5_tell 56 = .ok (.goto 4, 3) := by decide +kernel
theorem dX5_tell_59 : decode cX5_tell 59 = .ok (.iconst 0, 1) := by decide +kernel
theorem dX5_tell_60 : decode cX5_tell 60 = .ok (.ireturn, 1) := by decide +kernel
theorem dX5_tell_61 : decode cX5_tell 61 = .ok (.aload_n 0, 1) := by decide +kernel
theorem dX5_tell_62 : decode cX5_tell 62 = .ok (.getfield 22, 3) := by decide +kernel
theorem dX5_tell_65 : decode cX5_tell 65 = .ok (.iload_n 1, 1) := by decide +kernel
theorem dX5_tell_66 : decode cX5_tell 66 = .ok (.baload, 1) := by decide +kernel
theorem dX5_tell_67 : decode cX5_tell 67 = .ok (.ifCond .eq 7, 3) := by decide +kernel
theorem dX5_tell_70 : decode cX5_tell 70 = .ok (.iconst 1, 1) := by decide +kernel
theorem dX5_tell_71 : decode cX5_tell 71 = .ok (.goto 4, 3) := by decide +kernel
theorem dX5_tell_74 : decode cX5_tell 74 = .ok (.iconst 0, 1) := by decide +kernel
theorem dX5_tell_75 : decode cX5_tell 75 = .ok (.ireturn, 1) := by decide +kernel
theorem dX5_tell_76 : decode cX5_tell 76 = .ok (.aload_n 0, 1) := by decide +kernel
theorem dX5_tell_77 : decode cX5_tell 77 = .ok (.iload_n 1, 1) := by decide +kernel
theorem dX5_tell_78 : decode cX5_tell 78 = .ok (.invokevirtual 44, 3) := by decide +kernel
theorem dX5_tell_81 : decode cX5_tell 81 = .ok (.ireturn, 1) := by decide +kernel
theorem dX5_mixInto_0 : decode cX5_mixInto 0 = .ok (.lload_n 1, 1) := by decide +kernel
theorem dX5_mixInto_1 : decode cX5_mixInto 1 = .ok (.lstore_n 3, 1) := by decide +kernel
theorem dX5_mixInto_2 : decode cX5_mixInto 2 = .ok (.iconst 0, 1) := by decide +kernel
theorem dX5_mixInto_3 : decode cX5_mixInto 3 = .ok (.istore 5, 2) := by decide +kernel
theorem dX5_mixInto_5 : decode cX5_mixInto 5 = .ok (.iload 5, 2) := by decide +kernel
theorem dX5_mixInto_7 : decode cX5_mixInto 7 = .ok (.aload_n 0, 1) := by decide +kernel
theorem dX5_mixInto_8 : decode cX5_mixInto 8 = .ok (.getfield 37, 3) := by decide +kernel
theorem dX5_mixInto_11 : decode cX5_mixInto 11 = .ok (.if_icmp .ge 40, 3) := by decide +kernel
theorem dX5_mixInto_14 : decode cX5_mixInto 14 = .ok (.iconst 0, 1) := by decide +kernel
theorem dX5_mixInto_15 : decode cX5_mixInto 15 = .ok (.istore 6, 2) := by decide +kernel
theorem dX5_mixInto_17 : decode cX5_mixInto 17 = .ok (.iload 6, 2) := by decide +kernel
theorem dX5_mixInto_19 : decode cX5_mixInto 19 = .ok (.iconst 4, 1) := by decide +kernel
theorem dX5_mixInto_20 : decode cX5_mixInto 20 = .ok (.if_icmp .gt 25, 3) := by decide +kernel
theorem dX5_mixInto_23 : decode cX5_mixInto 23 = .ok (.ldc2_w 51, 3) := by decide +kernel
theorem dX5_mixInto_26 : decode cX5_mixInto 26 = .ok (.lload_n 3, 1) := by decide +kernel
theorem dX5_mixInto_27 : decode cX5_mixInto 27 = .ok (.lmul, 1) := by decide +kernel
theorem dX5_mixInto_28 : decode cX5_mixInto 28 = .ok (.aload_n 0, 1) := by decide +kernel
theorem dX5_mixInto_29 : decode cX5_mixInto 29 = .ok (.iload 5, 2) := by decide +kernel
theorem dX5_mixInto_31 : decode cX5_mixInto 31 = .ok (.iload 6, 2) := by decide +kernel
theorem dX5_mixInto_33 : decode cX5_mixInto 33 = .ok (.invokevirtual 53, 3) := by decide +kernel
theorem dX5_mixInto_36 : decode cX5_mixInto 36 = .ok (.i2l, 1) := by decide +kernel
theorem dX5_mixInto_37 : decode cX5_mixInto 37 = .ok (.ladd, 1) := by decide +kernel
theorem dX5_mixInto_38 : decode cX5_mixInto 38 = .ok (.lstore_n 3, 1) := by decide +kernel
theorem dX5_mixInto_39 : decode cX5_mixInto 39 = .ok (.iinc 6 1, 3) := by decide +kernel
theorem dX5_mixInto_42 : decode cX5_mixInto 42 = .ok (.goto (-25), 3) := by decide +kernel
theorem dX5_mixInto_45 : decode cX5_mixInto 45 = .ok (.iinc 5 1, 3) := by decide +kernel
theorem dX5_mixInto_48 : decode cX5_mixInto 48 = .ok (.goto (-43), 3) := by decide +kernel
theorem dX5_mixInto_51 : decode cX5_mixInto 51 = .ok (.lload_n 3, 1) := by decide +kernel
theorem dX5_mixInto_52 : decode cX5_mixInto 52 = .ok (.lreturn, 1) := by decide +kernel
theorem dX6_init_0 : decode cX6_init 0 = .ok (.aload_n 0, 1) := by decide +kernel
theorem dX6_init_1 : decode cX6_init 1 = .ok (.invokespecial 3, 3) := by decide +kernel
theorem dX6_init_4 : decode cX6_init 4 = .ok (.aload_n 0, 1) := by decide +kernel
theorem dX6_init_5 : decode cX6_init 5 = .ok (.bipush 12, 2) := by decide +kernel
theorem dX6_init_7 : decode cX6_init 7 = .ok (.newarray .int, 2) := by decide +kernel
theorem dX6_init_9 : decode cX6_init 9 = .ok (.putfield 11, 3) := by decide +kernel
theorem dX6_init_12 : decode cX6_init 12 = .ok (.return_, 1) := by decide +kernel
theorem dX6_append_0 : decode cX6_append 0 = .ok (.aload_n 0, 1) := by decide +kernel
theorem dX6_append_1 : decode cX6_append 1 = .ok (.getfield 15, 3) := by decide +kernel
theorem dX6_append_4 : decode cX6_append 4 = .ok (.bipush 12, 2) := by decide +kernel
theorem dX6_append_6 : decode cX6_append 6 = .ok (.if_icmp .lt 6, 3) := by decide +kernel
theorem dX6_append_9 : decode cX6_append 9 = .ok (.bipush (-4), 2) := by decide +kernel
theorem dX6_append_11 : decode cX6_append 11 = .ok (.ireturn, 1) := by decide +kernel
theorem dX6_append_12 : decode cX6_append 12 = .ok (.aload_n 0, 1) := by decide +kernel
theorem dX6_append_13 : decode cX6_append 13 = .ok (.getfield 11, 3) := by decide +kernel
theorem dX6_append_16 : decode cX6_append 16 = .ok (.aload_n 0, 1) := by decide +kernel
theorem dX6_append_17 : decode cX6_append 17 = .ok (.getfield 15, 3) := by decide +kernel
theorem dX6_append_20 : decode cX6_append 20 = .ok (.iload_n 1, 1) := by decide +kernel
theorem dX6_append_21 : decode cX6_append 21 = .ok (.iastore, 1) := by decide +kernel
theorem dX6_append_22 : decode cX6_append 22 = .ok (.aload_n 0, 1) := by decide +kernel
theorem dX6_append_23 : decode cX6_append 23 = .ok (.dup, 1) := by decide +kernel
theorem dX6_append_24 : decode cX6_append 24 = .ok (.getfield 15, 3) := by decide +kernel
theorem dX6_append_27 : decode cX6_append 27 = .ok (.iconst 1, 1) := by decide +kernel
theorem dX6_append_28 : decode cX6_append 28 = .ok (.iadd, 1) := by decide +kernel
theorem dX6_append_29 : decode cX6_append 29 = .ok (.putfield 15, 3) := by decide +kernel
theorem dX6_append_32 : decode cX6_append 32 = .ok (.aload_n 0, 1) := by decide +kernel
theorem dX6_append_33 : decode cX6_append 33 = .ok (.getfield 15, 3) := by decide +kernel
theorem dX6_append_36 : decode cX6_append 36 = .ok (.ireturn, 1) := by decide +kernel
theorem dX6_firstParting_0 : decode cX6_firstParting 0 = .ok (.iconst 0, 1) := by decide +kernel
theorem dX6_firstParting_1 : decode cX6_firstParting 1 = .ok (.istore_n 2, 1) := by decide +kernel
theorem dX6_firstParting_2 : decode cX6_firstParting 2 = .ok (.iconst 0, 1) := by decide +kernel
theorem dX6_firstParting_3 : decode cX6_firstParting 3 = .ok (.istore_n 3, 1) := by decide +kernel
theorem dX6_firstParting_4 : decode cX6_firstParting 4 = .ok (.iload_n 3, 1) := by decide +kernel
theorem dX6_firstParting_5 : decode cX6_firstParting 5 = .ok (.aload_n 0, 1) := by decide +kernel
theorem dX6_firstParting_6 : decode cX6_firstParting 6 = .ok (.getfield 15, 3) := by decide +kernel
theorem dX6_firstParting_9 : decode cX6_firstParting 9 = .ok (.if_icmp .ge 38, 3) := by decide +kernel
theorem dX6_firstParting_12 : decode cX6_firstParting 12 = .ok (.aload_n 0, 1) := by decide +kernel
theorem dX6_firstParting_13 : decode cX6_firstParting 13 = .ok (.getfield 11, 3) := by decide +kernel
theorem dX6_firstParting_16 : decode cX6_firstParting 16 = .ok (.iload_n 3, 1) := by decide +kernel
theorem dX6_firstParting_17 : decode cX6_firstParting 17 = .ok (.iaload, 1) := by decide +kernel
theorem dX6_firstParting_18 : decode cX6_firstParting 18 = .ok (.iload_n 1, 1) := by decide +kernel
theorem dX6_firstParting_19 : decode cX6_firstParting 19 = .ok (.iload_n 2, 1) := by decide +kernel
theorem dX6_firstParting_20 : decode cX6_firstParting 20 = .ok (.invokestatic 19, 3) := by decide +kernel
theorem dX6_firstParting_23 : decode cX6_firstParting 23 = .ok (.if_icmp .le 5, 3) := by decide +kernel
theorem dX6_firstParting_26 : decode cX6_firstParting 26 = .ok (.iload_n 3, 1) := by decide +kernel
theorem dX6_firstParting_27 : decode cX6_firstParting 27 = .ok (.ireturn, 1) := by decide +kernel
theorem dX6_firstParting_28 : decode cX6_firstParting 28 = .ok (.iload_n 2, 1) := by decide +kernel
theorem dX6_firstParting_29 : decode cX6_firstParting 29 = .ok (.iload_n 1, 1) := by decide +kernel
theorem dX6_firstParting_30 : decode cX6_firstParting 30 = .ok (.aload_n 0, 1) := by decide +kernel
theorem dX6_firstParting_31 : decode cX6_firstParting 31 = .ok (.getfield 11, 3) := by decide +kernel
theorem dX6_firstParting_34 : decode cX6_firstParting 34 = .ok (.iload_n 3, 1) := by decide +kernel
theorem dX6_firstParting_35 : decode cX6_firstParting 35 = .ok (.iaload, 1) := by decide +kernel
theorem dX6_firstParting_36 : decode cX6_firstParting 36 = .ok (.invokestatic 25, 3) := by decide +kernel
theorem dX6_firstParting_39 : decode cX6_firstParting 39 = .ok (.iadd, 1) := by decide +kernel
theorem dX6_firstParting_40 : decode cX6_firstParting 40 = .ok (.istore_n 2, 1) := by decide +kernel
theorem dX6_firstParting_41 : decode cX6_firstParting 41 = .ok (.iinc 3 1, 3) := by decide +kernel
theorem dX6_firstParting_44 : decode cX6_firstParting 44 = .ok (.goto (-40), 3) := by decide +kernel
theorem dX6_firstParting_47 : decode cX6_firstParting 47 = .ok (.iconst (-1), 1) := by decide +kernel
theorem dX6_firstParting_48 : decode cX6_firstParting 48 = .ok (.ireturn, 1) := by decide +kernel
theorem dX6_leastBlame_0 : decode cX6_leastBlame 0 = .ok (.aload_n 0, 1) := by decide +kernel
theorem dX6_leastBlame_1 : decode cX6_leastBlame 1 = .ok (.getfield 11, 3) := by decide +kernel
theorem dX6_leastBlame_4 : decode cX6_leastBlame 4 = .ok (.iload_n 1, 1) := by decide +kernel
theorem dX6_leastBlame_5 : decode cX6_leastBlame 5 = .ok (.iload_n 2, 1) := by decide +kernel
theorem dX6_leastBlame_6 : decode cX6_leastBlame 6 = .ok (.iconst 0, 1) := by decide +kernel
theorem dX6_leastBlame_7 : decode cX6_leastBlame 7 = .ok (.iconst 0, 1) := by decide +kernel
theorem dX6_leastBlame_8 : decode cX6_leastBlame 8 = .ok (.iconst 0, 1) := by decide +kernel
theorem dX6_leastBlame_9 : decode cX6_leastBlame 9 = .ok (.iconst (-1), 1) := by decide +kernel
theorem dX6_leastBlame_10 : decode cX6_leastBlame 10 = .ok (.invokestatic 28, 3) := by decide +kernel
theorem dX6_leastBlame_13 : decode cX6_leastBlame 13 = .ok (.ireturn, 1) := by decide +kernel
theorem dX6_blame_0 : decode cX6_blame 0 = .ok (.iload_n 3, 1) := by decide +kernel
theorem dX6_blame_1 : decode cX6_blame 1 = .ok (.iload_n 2, 1) := by decide +kernel
theorem dX6_blame_2 : decode cX6_blame 2 = .ok (.if_icmp .gt 28, 3) := by decide +kernel
theorem dX6_blame_5 : decode cX6_blame 5 = .ok (.iload_n 3, 1) := by decide +kernel
theorem dX6_blame_6 : decode cX6_blame 6 = .ok (.aload_n 0, 1) := by decide +kernel
theorem dX6_blame_7 : decode cX6_blame 7 = .ok (.arraylength, 1) := by decide +kernel
theorem dX6_blame_8 : decode cX6_blame 8 = .ok (.if_icmp .ge 22, 3) := by decide +kernel
theorem dX6_blame_11 : decode cX6_blame 11 = .ok (.iload 6, 2) := by decide +kernel
theorem dX6_blame_13 : decode cX6_blame 13 = .ok (.iconst (-1), 1) := by decide +kernel
theorem dX6_blame_14 : decode cX6_blame 14 = .ok (.if_icmp .eq 19, 3) := by decide +kernel
theorem dX6_blame_17 : decode cX6_blame 17 = .ok (.iload 5, 2) := by decide +kernel
theorem dX6_blame_19 : decode cX6_blame 19 = .ok (.invokestatic 32, 3) := by decide +kernel
theorem dX6_blame_22 : decode cX6_blame 22 = .ok (.iload 6, 2) := by decide +kernel
theorem dX6_blame_24 : decode cX6_blame 24 = .ok (.invokestatic 32, 3) := by decide +kernel
theorem dX6_blame_27 : decode cX6_blame 27 = .ok (.if_icmp .le 6, 3) := by decide +kernel
theorem dX6_blame_30 : decode cX6_blame 30 = .ok (.iload 6, 2) := by decide +kernel
theorem dX6_blame_32 : decode cX6_blame 32 = .ok (.ireturn, 1) := by decide +kernel
theorem dX6_blame_33 : decode cX6_blame 33 = .ok (.iload 6, 2) := by decide +kernel
theorem dX6_blame_35 : decode cX6_blame 35 = .ok (.istore 7, 2) := by decide +kernel
theorem dX6_blame_37 : decode cX6_blame 37 = .ok (.iconst 0, 1) := by decide +kernel
theorem dX6_blame_38 : decode cX6_blame 38 = .ok (.istore 8, 2) := by decide +kernel
theorem dX6_blame_40 : decode cX6_blame 40 = .ok (.iload 8, 2) := by decide +kernel
theorem dX6_blame_42 : decode cX6_blame 42 = .ok (.iconst 1, 1) := by decide +kernel
theorem dX6_blame_43 : decode cX6_blame 43 = .ok (.if_icmp .gt 104, 3) := by decide +kernel
theorem dX6_blame_46 : decode cX6_blame 46 = .ok (.aload_n 0, 1) := by decide +kernel
theorem dX6_blame_47 : decode cX6_blame 47 = .ok (.iload_n 3, 1) := by decide +kernel
theorem dX6_blame_48 : decode cX6_blame 48 = .ok (.iaload, 1) := by decide +kernel
theorem dX6_blame_49 : decode cX6_blame 49 = .ok (.iload 8, 2) := by decide +kernel
theorem dX6_blame_51 : decode cX6_blame 51 = .ok (.ishl, 1) := by decide +kernel
theorem dX6_blame_52 : decode cX6_blame 52 = .ok (.istore 9, 2) := by decide +kernel
theorem dX6_blame_54 : decode cX6_blame 54 = .ok (.iload 5, 2) := by decide +kernel
theorem dX6_blame_56 : decode cX6_blame 56 = .ok (.iload 8, 2) := by decide +kernel
theorem dX6_blame_58 : decode cX6_blame 58 = .ok (.iload_n 3, 1) := by decide +kernel
theorem dX6_blame_59 : decode cX6_blame 59 = .ok (.ishl, 1) := by decide +kernel
theorem dX6_blame_60 : decode cX6_blame 60 = .ok (.ior, 1) := by decide +kernel
theorem dX6_blame_61 : decode cX6_blame 61 = .ok (.istore 10, 2) := by decide +kernel
theorem dX6_blame_63 : decode cX6_blame 63 = .ok (.iload 9, 2) := by decide +kernel
theorem dX6_blame_65 : decode cX6_blame 65 = .ok (.iload_n 1, 1) := by decide +kernel
theorem dX6_blame_66 : decode cX6_blame 66 = .ok (.iload 4, 2) := by decide +kernel
theorem dX6_blame_68 : decode cX6_blame 68 = .ok (.invokestatic 19, 3) := by decide +kernel
theorem dX6_blame_71 : decode cX6_blame 71 = .ok (.if_icmp .le 7, 3) := by decide +kernel
theorem dX6_blame_74 : decode cX6_blame 74 = .ok (.iconst 1, 1) := by decide +kernel
theorem dX6_blame_75 : decode cX6_blame 75 = .ok (.goto 4, 3) := by decide +kernel
theorem dX6_blame_78 : decode cX6_blame 78 = .ok (.iconst 0, 1) := by decide +kernel
theorem dX6_blame_79 : decode cX6_blame 79 = .ok (.istore 11, 2) := by decide +kernel
theorem dX6_blame_81 : decode cX6_blame 81 = .ok (.iload 11, 2) := by decide +kernel
theorem dX6_blame_83 : decode cX6_blame 83 = .ok (.ifCond .eq 20, 3) := by decide +kernel
theorem dX6_blame_86 : decode cX6_blame 86 = .ok (.iload_n 3, 1) := by decide +kernel
theorem dX6_blame_87 : decode cX6_blame 87 = .ok (.iload_n 2, 1) := by decide +kernel
theorem dX6_blame_88 : decode cX6_blame 88 = .ok (.if_icmp .ne 15, 3) := by decide +kernel
theorem dX6_blame_91 : decode cX6_blame 91 = .ok (.iload 10, 2) := by decide +kernel
theorem dX6_blame_93 : decode cX6_blame 93 = .ok (.iload 7, 2) := by decide +kernel
theorem dX6_blame_95 : decode cX6_blame 95 = .ok (.invokestatic 38, 3) := by decide +kernel
theorem dX6_blame_98 : decode cX6_blame 98 = .ok (.istore 7, 2) := by decide +kernel
theorem dX6_blame_100 : decode cX6_blame 100 = .ok (.goto 41, 3) := by decide +kernel
theorem dX6_blame_103 : decode cX6_blame 103 = .ok (.iload 11, 2) := by decide +kernel
theorem dX6_blame_105 : decode cX6_blame 105 = .ok (.ifCond .ne 36, 3) := by decide +kernel
theorem dX6_blame_108 : decode cX6_blame 108 = .ok (.iload_n 3, 1) := by decide +kernel
theorem dX6_blame_109 : decode cX6_blame 109 = .ok (.iload_n 2, 1) := by decide +kernel
theorem dX6_blame_110 : decode cX6_blame 110 = .ok (.if_icmp .ge 31, 3) := by decide +kernel
theorem dX6_blame_113 : decode cX6_blame 113 = .ok (.iload 4, 2) := by decide +kernel
theorem dX6_blame_115 : decode cX6_blame 115 = .ok (.iload_n 1, 1) := by decide +kernel
theorem dX6_blame_116 : decode cX6_blame 116 = .ok (.iload 9, 2) := by decide +kernel
theorem dX6_blame_118 : decode cX6_blame 118 = .ok (.invokestatic 25, 3) := by decide +kernel
theorem dX6_blame_121 : decode cX6_blame 121 = .ok (.iadd, 1) := by decide +kernel
theorem dX6_blame_122 : decode cX6_blame 122 = .ok (.istore 12, 2) := by decide +kernel
theorem dX6_blame_124 : decode cX6_blame 124 = .ok (.aload_n 0, 1) := by decide +kernel
theorem dX6_blame_125 : decode cX6_blame 125 = .ok (.iload_n 1, 1) := by decide +kernel
theorem dX6_blame_126 : decode cX6_blame 126 = .ok (.iload_n 2, 1) := by decide +kernel
theorem dX6_blame_127 : decode cX6_blame 127 = .ok (.iload_n 3, 1) := by decide +kernel
theorem dX6_blame_128 : decode cX6_blame 128 = .ok (.iconst 1, 1) := by decide +kernel
theorem dX6_blame_129 : decode cX6_blame 129 = .ok (.iadd, 1) := by decide +kernel
theorem dX6_blame_130 : decode cX6_blame 130 = .ok (.iload 12, 2) := by decide +kernel
theorem dX6_blame_132 : decode cX6_blame 132 = .ok (.iload 10, 2) := by decide +kernel
theorem dX6_blame_134 : decode cX6_blame 134 = .ok (.iload 7, 2) := by decide +kernel
theorem dX6_blame_136 : decode cX6_blame 136 = .ok (.invokestatic 28, 3) := by decide +kernel
theorem dX6_blame_139 : decode cX6_blame 139 = .ok (.istore 7, 2) := by decide +kernel
theorem dX6_blame_141 : decode cX6_blame 141 = .ok (.iinc 8 1, 3) := by decide +kernel
theorem dX6_blame_144 : decode cX6_blame 144 = .ok (.goto (-104), 3) := by decide +kernel
theorem dX6_blame_147 : decode cX6_blame 147 = .ok (.iload 7, 2) := by decide +kernel
theorem dX6_blame_149 : decode cX6_blame 149 = .ok (.ireturn, 1) := by decide +kernel
theorem dX6_lesser_0 : decode cX6_lesser 0 = .ok (.iload_n 1, 1) := by decide +kernel
theorem dX6_lesser_1 : decode cX6_lesser 1 = .ok (.iconst (-1), 1) := by decide +kernel
theorem dX6_lesser_2 : decode cX6_lesser 2 = .ok (.if_icmp .ne 5, 3) := by decide +kernel
theorem dX6_lesser_5 : decode cX6_lesser 5 = .ok (.iload_n 0, 1) := by decide +kernel
theorem dX6_lesser_6 : decode cX6_lesser 6 = .ok (.ireturn, 1) := by decide +kernel
theorem dX6_lesser_7 : decode cX6_lesser 7 = .ok (.iload_n 0, 1) := by decide +kernel
theorem dX6_lesser_8 : decode cX6_lesser 8 = .ok (.invokestatic 32, 3) := by decide +kernel
theorem dX6_lesser_11 : decode cX6_lesser 11 = .ok (.iload_n 1, 1) := by decide +kernel
theorem dX6_lesser_12 : decode cX6_lesser 12 = .ok (.invokestatic 32, 3) := by decide +kernel
theorem dX6_lesser_15 : decode cX6_lesser 15 = .ok (.isub, 1) := by decide +kernel
theorem dX6_lesser_16 : decode cX6_lesser 16 = .ok (.istore_n 2, 1) := by decide +kernel
theorem dX6_lesser_17 : decode cX6_lesser 17 = .ok (.iload_n 2, 1) := by decide +kernel
theorem dX6_lesser_18 : decode cX6_lesser 18 = .ok (.ifCond .lt 12, 3) := by decide +kernel
theorem dX6_lesser_21 : decode cX6_lesser 21 = .ok (.iload_n 2, 1) := by decide +kernel
theorem dX6_lesser_22 : decode cX6_lesser 22 = .ok (.ifCond .ne 12, 3) := by decide +kernel
theorem dX6_lesser_25 : decode cX6_lesser 25 = .ok (.iload_n 0, 1) := by decide +kernel
theorem dX6_lesser_26 : decode cX6_lesser 26 = .ok (.iload_n 1, 1) := by decide +kernel
theorem dX6_lesser_27 : decode cX6_lesser 27 = .ok (.if_icmp .ge 7, 3) := by decide +kernel
theorem dX6_lesser_30 : decode cX6_lesser 30 = .ok (.iload_n 0, 1) := by decide +kernel
theorem dX6_lesser_31 : decode cX6_lesser 31 = .ok (.goto 4, 3) := by decide +kernel
theorem dX6_lesser_34 : decode cX6_lesser 34 = .ok (.iload_n 1, 1) := by decide +kernel
theorem dX6_lesser_35 : decode cX6_lesser 35 = .ok (.ireturn, 1) := by decide +kernel
theorem dX6_mixInto_0 : decode cX6_mixInto 0 = .ok (.lload_n 1, 1) := by decide +kernel
theorem dX6_mixInto_1 : decode cX6_mixInto 1 = .ok (.lstore_n 3, 1) := by decide +kernel
theorem dX6_mixInto_2 : decode cX6_mixInto 2 = .ok (.iconst 0, 1) := by decide +kernel
theorem dX6_mixInto_3 : decode cX6_mixInto 3 = .ok (.istore 5, 2) := by decide +kernel
theorem dX6_mixInto_5 : decode cX6_mixInto 5 = .ok (.iload 5, 2) := by decide +kernel
theorem dX6_mixInto_7 : decode cX6_mixInto 7 = .ok (.aload_n 0, 1) := by decide +kernel
theorem dX6_mixInto_8 : decode cX6_mixInto 8 = .ok (.getfield 15, 3) := by decide +kernel
theorem dX6_mixInto_11 : decode cX6_mixInto 11 = .ok (.if_icmp .ge 24, 3) := by decide +kernel
theorem dX6_mixInto_14 : decode cX6_mixInto 14 = .ok (.ldc2_w 41, 3) := by decide +kernel
theorem dX6_mixInto_17 : decode cX6_mixInto 17 = .ok (.lload_n 3, 1) := by decide +kernel
theorem dX6_mixInto_18 : decode cX6_mixInto 18 = .ok (.lmul, 1) := by decide +kernel
theorem dX6_mixInto_19 : decode cX6_mixInto 19 = .ok (.aload_n 0, 1) := by decide +kernel
theorem dX6_mixInto_20 : decode cX6_mixInto 20 = .ok (.getfield 11, 3) := by decide +kernel
theorem dX6_mixInto_23 : decode cX6_mixInto 23 = .ok (.iload 5, 2) := by decide +kernel
theorem dX6_mixInto_25 : decode cX6_mixInto 25 = .ok (.iaload, 1) := by decide +kernel
theorem dX6_mixInto_26 : decode cX6_mixInto 26 = .ok (.i2l, 1) := by decide +kernel
theorem dX6_mixInto_27 : decode cX6_mixInto 27 = .ok (.ladd, 1) := by decide +kernel
theorem dX6_mixInto_28 : decode cX6_mixInto 28 = .ok (.lstore_n 3, 1) := by decide +kernel
theorem dX6_mixInto_29 : decode cX6_mixInto 29 = .ok (.iinc 5 1, 3) := by decide +kernel
theorem dX6_mixInto_32 : decode cX6_mixInto 32 = .ok (.goto (-27), 3) := by decide +kernel
theorem dX6_mixInto_35 : decode cX6_mixInto 35 = .ok (.lload_n 3, 1) := by decide +kernel
theorem dX6_mixInto_36 : decode cX6_mixInto 36 = .ok (.lreturn, 1) := by decide +kernel
theorem dX7_init_0 : decode cX7_init 0 = .ok (.aload_n 0, 1) := by decide +kernel
theorem dX7_init_1 : decode cX7_init 1 = .ok (.invokespecial 3, 3) := by decide +kernel
theorem dX7_init_4 : decode cX7_init 4 = .ok (.aload_n 0, 1) := by decide +kernel
theorem dX7_init_5 : decode cX7_init 5 = .ok (.iconst 5, 1) := by decide +kernel
theorem dX7_init_6 : decode cX7_init 6 = .ok (.newarray .int, 2) := by decide +kernel
theorem dX7_init_8 : decode cX7_init 8 = .ok (.putfield 11, 3) := by decide +kernel
theorem dX7_init_11 : decode cX7_init 11 = .ok (.aload_n 0, 1) := by decide +kernel
theorem dX7_init_12 : decode cX7_init 12 = .ok (.iconst 5, 1) := by decide +kernel
theorem dX7_init_13 : decode cX7_init 13 = .ok (.newarray .int, 2) := by decide +kernel
theorem dX7_init_15 : decode cX7_init 15 = .ok (.putfield 15, 3) := by decide +kernel
theorem dX7_init_18 : decode cX7_init 18 = .ok (.aload_n 0, 1) := by decide +kernel
theorem dX7_init_19 : decode cX7_init 19 = .ok (.iconst 5, 1) := by decide +kernel
theorem dX7_init_20 : decode cX7_init 20 = .ok (.newarray .int, 2) := by decide +kernel
theorem dX7_init_22 : decode cX7_init 22 = .ok (.putfield 18, 3) := by decide +kernel
theorem dX7_init_25 : decode cX7_init 25 = .ok (.aload_n 0, 1) := by decide +kernel
theorem dX7_init_26 : decode cX7_init 26 = .ok (.iconst 5, 1) := by decide +kernel
theorem dX7_init_27 : decode cX7_init 27 = .ok (.iconst 5, 1) := by decide +kernel
theorem dX7_init_28 : decode cX7_init 28 = .ok (.multianewarray 21 2, 4) := by decide +kernel
theorem dX7_init_32 : decode cX7_init 32 = .ok (.putfield 23, 3) := by decide +kernel
theorem dX7_init_35 : decode cX7_init 35 = .ok (.aload_n 0, 1) := by decide +kernel
theorem dX7_init_36 : decode cX7_init 36 = .ok (.bipush 8, 2) := by decide +kernel
theorem dX7_init_38 : decode cX7_init 38 = .ok (.putfield 26, 3) := by decide +kernel
theorem dX7_init_41 : decode cX7_init 41 = .ok (.aload_n 0, 1) := by decide +kernel
theorem dX7_init_42 : decode cX7_init 42 = .ok (.iconst 4, 1) := by decide +kernel
theorem dX7_init_43 : decode cX7_init 43 = .ok (.putfield 30, 3) := by decide +kernel
theorem dX7_init_46 : decode cX7_init 46 = .ok (.iconst 0, 1) := by decide +kernel
theorem dX7_init_47 : decode cX7_init 47 = .ok (.istore_n 1, 1) := by decide +kernel
theorem dX7_init_48 : decode cX7_init 48 = .ok (.iload_n 1, 1) := by decide +kernel
theorem dX7_init_49 : decode cX7_init 49 = .ok (.iconst 5, 1) := by decide +kernel
theorem dX7_init_50 : decode cX7_init 50 = .ok (.if_icmp .ge 31, 3) := by decide +kernel
theorem dX7_init_53 : decode cX7_init 53 = .ok (.iconst 0, 1) := by decide +kernel
theorem dX7_init_54 : decode cX7_init 54 = .ok (.istore_n 2, 1) := by decide +kernel
theorem dX7_init_55 : decode cX7_init 55 = .ok (.iload_n 2, 1) := by decide +kernel
theorem dX7_init_56 : decode cX7_init 56 = .ok (.iconst 5, 1) := by decide +kernel
theorem dX7_init_57 : decode cX7_init 57 = .ok (.if_icmp .ge 18, 3) := by decide +kernel
theorem dX7_init_60 : decode cX7_init 60 = .ok (.aload_n 0, 1) := by decide +kernel
theorem dX7_init_61 : decode cX7_init 61 = .ok (.getfield 23, 3) := by decide +kernel
theorem dX7_init_64 : decode cX7_init 64 = .ok (.iload_n 1, 1) := by decide +kernel
theorem dX7_init_65 : decode cX7_init 65 = .ok (.aaload, 1) := by decide +kernel
theorem dX7_init_66 : decode cX7_init 66 = .ok (.iload_n 2, 1) := by decide +kernel
theorem dX7_init_67 : decode cX7_init 67 = .ok (.iconst 1, 1) := by decide +kernel
theorem dX7_init_68 : decode cX7_init 68 = .ok (.iastore, 1) := by decide +kernel
theorem dX7_init_69 : decode cX7_init 69 = .ok (.iinc 2 1, 3) := by decide +kernel
theorem dX7_init_72 : decode cX7_init 72 = .ok (.goto (-17), 3) := by decide +kernel
theorem dX7_init_75 : decode cX7_init 75 = .ok (.iinc 1 1, 3) := by decide +kernel
theorem dX7_init_78 : decode cX7_init 78 = .ok (.goto (-30), 3) := by decide +kernel
theorem dX7_init_81 : decode cX7_init 81 = .ok (.return_, 1) := by decide +kernel
theorem dX7_build_0 : decode cX7_build 0 = .ok (.aload_n 0, 1) := by decide +kernel
theorem dX7_build_1 : decode cX7_build 1 = .ok (.getfield 33, 3) := by decide +kernel
theorem dX7_build_4 : decode cX7_build 4 = .ok (.iconst 5, 1) := by decide +kernel
theorem dX7_build_5 : decode cX7_build 5 = .ok (.if_icmp .lt 6, 3) := by decide +kernel
theorem dX7_build_8 : decode cX7_build 8 = .ok (.bipush (-4), 2) := by decide +kernel
theorem dX7_build_10 : decode cX7_build 10 = .ok (.ireturn, 1) := by decide +kernel
theorem dX7_build_11 : decode cX7_build 11 = .ok (.aload_n 0, 1) := by decide +kernel
theorem dX7_build_12 : decode cX7_build 12 = .ok (.getfield 11, 3) := by decide +kernel
theorem dX7_build_15 : decode cX7_build 15 = .ok (.aload_n 0, 1) := by decide +kernel
theorem dX7_build_16 : decode cX7_build 16 = .ok (.getfield 33, 3) := by decide +kernel
theorem dX7_build_19 : decode cX7_build 19 = .ok (.iload_n 1, 1) := by decide +kernel
theorem dX7_build_20 : decode cX7_build 20 = .ok (.iastore, 1) := by decide +kernel
theorem dX7_build_21 : decode cX7_build 21 = .ok (.aload_n 0, 1) := by decide +kernel
theorem dX7_build_22 : decode cX7_build 22 = .ok (.getfield 15, 3) := by decide +kernel
theorem dX7_build_25 : decode cX7_build 25 = .ok (.aload_n 0, 1) := by decide +kernel
theorem dX7_build_26 : decode cX7_build 26 = .ok (.getfield 33, 3) := by decide +kernel
theorem dX7_build_29 : decode cX7_build 29 = .ok (.iload_n 2, 1) := by decide +kernel
theorem dX7_build_30 : decode cX7_build 30 = .ok (.iastore, 1) := by decide +kernel
theorem dX7_build_31 : decode cX7_build 31 = .ok (.aload_n 0, 1) := by decide +kernel
theorem dX7_build_32 : decode cX7_build 32 = .ok (.getfield 18, 3) := by decide +kernel
theorem dX7_build_35 : decode cX7_build 35 = .ok (.aload_n 0, 1) := by decide +kernel
theorem dX7_build_36 : decode cX7_build 36 = .ok (.getfield 33, 3) := by decide +kernel
theorem dX7_build_39 : decode cX7_build 39 = .ok (.iload_n 3, 1) := by decide +kernel
theorem dX7_build_40 : decode cX7_build 40 = .ok (.iastore, 1) := by decide +kernel
theorem dX7_build_41 : decode cX7_build 41 = .ok (.aload_n 0, 1) := by decide +kernel
theorem dX7_build_42 : decode cX7_build 42 = .ok (.dup, 1) := by decide +kernel
theorem dX7_build_43 : decode cX7_build 43 = .ok (.getfield 33, 3) := by decide +kernel
theorem dX7_build_46 : decode cX7_build 46 = .ok (.iconst 1, 1) := by decide +kernel
theorem dX7_build_47 : decode cX7_build 47 = .ok (.iadd, 1) := by decide +kernel
theorem dX7_build_48 : decode cX7_build 48 = .ok (.putfield 33, 3) := by decide +kernel
theorem dX7_build_51 : decode cX7_build 51 = .ok (.aload_n 0, 1) := by decide +kernel
theorem dX7_build_52 : decode cX7_build 52 = .ok (.getfield 33, 3) := by decide +kernel
theorem dX7_build_55 : decode cX7_build 55 = .ok (.iconst 1, 1) := by decide +kernel
theorem dX7_build_56 : decode cX7_build 56 = .ok (.isub, 1) := by decide +kernel
theorem dX7_build_57 : decode cX7_build 57 = .ok (.ireturn, 1) := by decide +kernel
theorem dX7_setPrice_0 : decode cX7_setPrice 0 = .ok (.aload_n 0, 1) := by decide +kernel
theorem dX7_setPrice_1 : decode cX7_setPrice 1 = .ok (.getfield 23, 3) := by decide +kernel
theorem dX7_setPrice_4 : decode cX7_setPrice 4 = .ok (.iload_n 1, 1) := by decide +kernel
theorem dX7_setPrice_5 : decode cX7_setPrice 5 = .ok (.aaload, 1) := by decide +kernel
theorem dX7_setPrice_6 : decode cX7_setPrice 6 = .ok (.iload_n 2, 1) := by decide +kernel
theorem dX7_setPrice_7 : decode cX7_setPrice 7 = .ok (.iaload, 1) := by decide +kernel
theorem dX7_setPrice_8 : decode cX7_setPrice 8 = .ok (.istore 4, 2) := by decide +kernel
theorem dX7_setPrice_10 : decode cX7_setPrice 10 = .ok (.aload_n 0, 1) := by decide +kernel
theorem dX7_setPrice_11 : decode cX7_setPrice 11 = .ok (.getfield 23, 3) := by decide +kernel
theorem dX7_setPrice_14 : decode cX7_setPrice 14 = .ok (.iload_n 1, 1) := by decide +kernel
theorem dX7_setPrice_15 : decode cX7_setPrice 15 = .ok (.aaload, 1) := by decide +kernel
theorem dX7_setPrice_16 : decode cX7_setPrice 16 = .ok (.iload_n 2, 1) := by decide +kernel
theorem dX7_setPrice_17 : decode cX7_setPrice 17 = .ok (.iload_n 3, 1) := by decide +kernel
theorem dX7_setPrice_18 : decode cX7_setPrice 18 = .ok (.iastore, 1) := by decide +kernel
theorem dX7_setPrice_19 : decode cX7_setPrice 19 = .ok (.aload_n 0, 1) := by decide +kernel
theorem dX7_setPrice_20 : decode cX7_setPrice 20 = .ok (.getfield 23, 3) := by decide +kernel
theorem dX7_setPrice_23 : decode cX7_setPrice 23 = .ok (.iload_n 2, 1) := by decide +kernel
theorem dX7_setPrice_24 : decode cX7_setPrice 24 = .ok (.aaload, 1) := by decide +kernel
theorem dX7_setPrice_25 : decode cX7_setPrice 25 = .ok (.iload_n 1, 1) := by decide +kernel
theorem dX7_setPrice_26 : decode cX7_setPrice 26 = .ok (.iload_n 3, 1) := by decide +kernel
theorem dX7_setPrice_27 : decode cX7_setPrice 27 = .ok (.iastore, 1) := by decide +kernel
theorem dX7_setPrice_28 : decode cX7_setPrice 28 = .ok (.iload 4, 2) := by decide +kernel
theorem dX7_setPrice_30 : decode cX7_setPrice 30 = .ok (.ireturn, 1) := by decide +kernel
theorem dX7_isNear_0 : decode cX7_isNear 0 = .ok (.aload_n 0, 1) := by decide +kernel
theorem dX7_isNear_1 : decode cX7_isNear 1 = .ok (.getfield 11, 3) := by decide +kernel
theorem dX7_isNear_4 : decode cX7_isNear 4 = .ok (.iload_n 1, 1) := by decide +kernel
theorem dX7_isNear_5 : decode cX7_isNear 5 = .ok (.iaload, 1) := by decide +kernel
theorem dX7_isNear_6 : decode cX7_isNear 6 = .ok (.iload_n 2, 1) := by decide +kernel
theorem dX7_isNear_7 : decode cX7_isNear 7 = .ok (.isub, 1) := by decide +kernel
theorem dX7_isNear_8 : decode cX7_isNear 8 = .ok (.invokestatic 36, 3) := by decide +kernel
theorem dX7_isNear_11 : decode cX7_isNear 11 = .ok (.aload_n 0, 1) := by decide +kernel
theorem dX7_isNear_12 : decode cX7_isNear 12 = .ok (.getfield 26, 3) := by decide +kernel
theorem dX7_isNear_15 : decode cX7_isNear 15 = .ok (.if_icmp .gt 22, 3) := by decide +kernel
theorem dX7_isNear_18 : decode cX7_isNear 18 = .ok (.iload_n 3, 1) := by decide +kernel
theorem dX7_isNear_19 : decode cX7_isNear 19 = .ok (.aload_n 0, 1) := by decide +kernel
theorem dX7_isNear_20 : decode cX7_isNear 20 = .ok (.getfield 15, 3) := by decide +kernel
theorem dX7_isNear_23 : decode cX7_isNear 23 = .ok (.iload_n 1, 1) := by decide +kernel
theorem dX7_isNear_24 : decode cX7_isNear 24 = .ok (.iaload, 1) := by decide +kernel
theorem dX7_isNear_25 : decode cX7_isNear 25 = .ok (.aload_n 0, 1) := by decide +kernel
theorem dX7_isNear_26 : decode cX7_isNear 26 = .ok (.getfield 30, 3) := by decide +kernel
theorem dX7_isNear_29 : decode cX7_isNear 29 = .ok (.iadd, 1) := by decide +kernel
theorem dX7_isNear_30 : decode cX7_isNear 30 = .ok (.if_icmp .gt 7, 3) := by decide +kernel
theorem dX7_isNear_33 : decode cX7_isNear 33 = .ok (.iconst 1, 1) := by decide +kernel
theorem dX7_isNear_34 : decode cX7_isNear 34 = .ok (.goto 4, 3) := by decide +kernel
theorem dX7_isNear_37 : decode cX7_isNear 37 = .ok (.iconst 0, 1) := by decide +kernel
theorem dX7_isNear_38 : decode cX7_isNear 38 = .ok (.ireturn, 1) := by decide +kernel
theorem dX7_isBuilt_0 : decode cX7_isBuilt 0 = .ok (.aload_n 0, 1) := by decide +kernel
theorem dX7_isBuilt_1 : decode cX7_isBuilt 1 = .ok (.getfield 18, 3) := by decide +kernel
theorem dX7_isBuilt_4 : decode cX7_isBuilt 4 = .ok (.iload_n 1, 1) := by decide +kernel
theorem dX7_isBuilt_5 : decode cX7_isBuilt 5 = .ok (.iaload, 1) := by decide +kernel
theorem dX7_isBuilt_6 : decode cX7_isBuilt 6 = .ok (.iload_n 2, 1) := by decide +kernel
theorem dX7_isBuilt_7 : decode cX7_isBuilt 7 = .ok (.iconst (-1), 1) := by decide +kernel
theorem dX7_isBuilt_8 : decode cX7_isBuilt 8 = .ok (.ixor, 1) := by decide +kernel
theorem dX7_isBuilt_9 : decode cX7_isBuilt 9 = .ok (.iand, 1) := by decide +kernel
theorem dX7_isBuilt_10 : decode cX7_isBuilt 10 = .ok (.ifCond .ne 7, 3) := by decide +kernel
theorem dX7_isBuilt_13 : decode cX7_isBuilt 13 = .ok (.iconst 1, 1) := by decide +kernel
theorem dX7_isBuilt_14 : decode cX7_isBuilt 14 = .ok (.goto 4, 3) := by decide +kernel
theorem dX7_isBuilt_17 : decode cX7_isBuilt 17 = .ok (.iconst 0, 1) := by decide +kernel
theorem dX7_isBuilt_18 : decode cX7_isBuilt 18 = .ok (.ireturn, 1) := by decide +kernel
theorem dX7_mixInto_0 : decode cX7_mixInto 0 = .ok (.lload_n 1, 1) := by decide +kernel
theorem dX7_mixInto_1 : decode cX7_mixInto 1 = .ok (.lstore_n 3, 1) := by decide +kernel
theorem dX7_mixInto_2 : decode cX7_mixInto 2 = .ok (.iconst 0, 1) := by decide +kernel
theorem dX7_mixInto_3 : decode cX7_mixInto 3 = .ok (.istore 5, 2) := by decide +kernel
theorem dX7_mixInto_5 : decode cX7_mixInto 5 = .ok (.iload 5, 2) := by decide +kernel
theorem dX7_mixInto_7 : decode cX7_mixInto 7 = .ok (.aload_n 0, 1) := by decide +kernel
theorem dX7_mixInto_8 : decode cX7_mixInto 8 = .ok (.getfield 33, 3) := by decide +kernel
theorem dX7_mixInto_11 : decode cX7_mixInto 11 = .ok (.if_icmp .ge 54, 3) := by decide +kernel
theorem dX7_mixInto_14 : decode cX7_mixInto 14 = .ok (.ldc2_w 42, 3) := by decide +kernel
theorem dX7_mixInto_17 : decode cX7_mixInto 17 = .ok (.lload_n 3, 1) := by decide +kernel
theorem dX7_mixInto_18 : decode cX7_mixInto 18 = .ok (.lmul, 1) := by decide +kernel
theorem dX7_mixInto_19 : decode cX7_mixInto 19 = .ok (.aload_n 0, 1) := by decide +kernel
theorem dX7_mixInto_20 : decode cX7_mixInto 20 = .ok (.getfield 11, 3) := by decide +kernel
theorem dX7_mixInto_23 : decode cX7_mixInto 23 = .ok (.iload 5, 2) := by decide +kernel
theorem dX7_mixInto_25 : decode cX7_mixInto 25 = .ok (.iaload, 1) := by decide +kernel
theorem dX7_mixInto_26 : decode cX7_mixInto 26 = .ok (.i2l, 1) := by decide +kernel
theorem dX7_mixInto_27 : decode cX7_mixInto 27 = .ok (.ladd, 1) := by decide +kernel
theorem dX7_mixInto_28 : decode cX7_mixInto 28 = .ok (.lstore_n 3, 1) := by decide +kernel
theorem dX7_mixInto_29 : decode cX7_mixInto 29 = .ok (.ldc2_w 42, 3) := by decide +kernel
theorem dX7_mixInto_32 : decode cX7_mixInto 32 = .ok (.lload_n 3, 1) := by decide +kernel
theorem dX7_mixInto_33 : decode cX7_mixInto 33 = .ok (.lmul, 1) := by decide +kernel
theorem dX7_mixInto_34 : decode cX7_mixInto 34 = .ok (.aload_n 0, 1) := by decide +kernel
theorem dX7_mixInto_35 : decode cX7_mixInto 35 = .ok (.getfield 15, 3) := by decide +kernel
theorem dX7_mixInto_38 : decode cX7_mixInto 38 = .ok (.iload 5, 2) := by decide +kernel
theorem dX7_mixInto_40 : decode cX7_mixInto 40 = .ok (.iaload, 1) := by decide +kernel
theorem dX7_mixInto_41 : decode cX7_mixInto 41 = .ok (.i2l, 1) := by decide +kernel
theorem dX7_mixInto_42 : decode cX7_mixInto 42 = .ok (.ladd, 1) := by decide +kernel
theorem dX7_mixInto_43 : decode cX7_mixInto 43 = .ok (.lstore_n 3, 1) := by decide +kernel
theorem dX7_mixInto_44 : decode cX7_mixInto 44 = .ok (.ldc2_w 42, 3) := by decide +kernel
theorem dX7_mixInto_47 : decode cX7_mixInto 47 = .ok (.lload_n 3, 1) := by decide +kernel
theorem dX7_mixInto_48 : decode cX7_mixInto 48 = .ok (.lmul, 1) := by decide +kernel
theorem dX7_mixInto_49 : decode cX7_mixInto 49 = .ok (.aload_n 0, 1) := by decide +kernel
theorem dX7_mixInto_50 : decode cX7_mixInto 50 = .ok (.getfield 18, 3) := by decide +kernel
theorem dX7_mixInto_53 : decode cX7_mixInto 53 = .ok (.iload 5, 2) := by decide +kernel
theorem dX7_mixInto_55 : decode cX7_mixInto 55 = .ok (.iaload, 1) := by decide +kernel
theorem dX7_mixInto_56 : decode cX7_mixInto 56 = .ok (.i2l, 1) := by decide +kernel
theorem dX7_mixInto_57 : decode cX7_mixInto 57 = .ok (.ladd, 1) := by decide +kernel
theorem dX7_mixInto_58 : decode cX7_mixInto 58 = .ok (.lstore_n 3, 1) := by decide +kernel
theorem dX7_mixInto_59 : decode cX7_mixInto 59 = .ok (.iinc 5 1, 3) := by decide +kernel
theorem dX7_mixInto_62 : decode cX7_mixInto 62 = .ok (.goto (-57), 3) := by decide +kernel
theorem dX7_mixInto_65 : decode cX7_mixInto 65 = .ok (.iconst 0, 1) := by decide +kernel
theorem dX7_mixInto_66 : decode cX7_mixInto 66 = .ok (.istore 5, 2) := by decide +kernel
theorem dX7_mixInto_68 : decode cX7_mixInto 68 = .ok (.iload 5, 2) := by decide +kernel
theorem dX7_mixInto_70 : decode cX7_mixInto 70 = .ok (.aload_n 0, 1) := by decide +kernel
theorem dX7_mixInto_71 : decode cX7_mixInto 71 = .ok (.getfield 33, 3) := by decide +kernel
theorem dX7_mixInto_74 : decode cX7_mixInto 74 = .ok (.if_icmp .ge 48, 3) := by decide +kernel
theorem dX7_mixInto_77 : decode cX7_mixInto 77 = .ok (.iload 5, 2) := by decide +kernel
theorem dX7_mixInto_79 : decode cX7_mixInto 79 = .ok (.iconst 1, 1) := by decide +kernel
theorem dX7_mixInto_80 : decode cX7_mixInto 80 = .ok (.iadd, 1) := by decide +kernel
theorem dX7_mixInto_81 : decode cX7_mixInto 81 = .ok (.istore 6, 2) := by decide +kernel
theorem dX7_mixInto_83 : decode cX7_mixInto 83 = .ok (.iload 6, 2) := by decide +kernel
theorem dX7_mixInto_85 : decode cX7_mixInto 85 = .ok (.aload_n 0, 1) := by decide +kernel
theorem dX7_mixInto_86 : decode cX7_mixInto 86 = .ok (.getfield 33, 3) := by decide +kernel
theorem dX7_mixInto_89 : decode cX7_mixInto 89 = .ok (.if_icmp .ge 27, 3) := by decide +kernel
theorem dX7_mixInto_92 : decode cX7_mixInto 92 = .ok (.ldc2_w 42, 3) := by decide +kernel
theorem dX7_mixInto_95 : decode cX7_mixInto 95 = .ok (.lload_n 3, 1) := by decide +kernel
theorem dX7_mixInto_96 : decode cX7_mixInto 96 = .ok (.lmul, 1) := by decide +kernel
theorem dX7_mixInto_97 : decode cX7_mixInto 97 = .ok (.aload_n 0, 1) := by decide +kernel
theorem dX7_mixInto_98 : decode cX7_mixInto 98 = .ok (.getfield 23, 3) := by decide +kernel
theorem dX7_mixInto_101 : decode cX7_mixInto 101 = .ok (.iload 5, 2) := by decide +kernel
theorem dX7_mixInto_103 : decode cX7_mixInto 103 = .ok (.aaload, 1) := by decide +kernel
theorem dX7_mixInto_104 : decode cX7_mixInto 104 = .ok (.iload 6, 2) := by decide +kernel
theorem dX7_mixInto_106 : decode cX7_mixInto 106 = .ok (.iaload, 1) := by decide +kernel
theorem dX7_mixInto_107 : decode cX7_mixInto 107 = .ok (.i2l, 1) := by decide +kernel
theorem dX7_mixInto_108 : decode cX7_mixInto 108 = .ok (.ladd, 1) := by decide +kernel
theorem dX7_mixInto_109 : decode cX7_mixInto 109 = .ok (.lstore_n 3, 1) := by decide +kernel
theorem dX7_mixInto_110 : decode cX7_mixInto 110 = .ok (.iinc 6 1, 3) := by decide +kernel
theorem dX7_mixInto_113 : decode cX7_mixInto 113 = .ok (.goto (-30), 3) := by decide +kernel
theorem dX7_mixInto_116 : decode cX7_mixInto 116 = .ok (.iinc 5 1, 3) := by decide +kernel
theorem dX7_mixInto_119 : decode cX7_mixInto 119 = .ok (.goto (-51), 3) := by decide +kernel
theorem dX7_mixInto_122 : decode cX7_mixInto 122 = .ok (.lload_n 3, 1) := by decide +kernel
theorem dX7_mixInto_123 : decode cX7_mixInto 123 = .ok (.lreturn, 1) := by decide +kernel
theorem dX8_init_0 : decode cX8_init 0 = .ok (.aload_n 0, 1) := by decide +kernel
theorem dX8_init_1 : decode cX8_init 1 = .ok (.invokespecial 5, 3) := by decide +kernel
theorem dX8_init_4 : decode cX8_init 4 = .ok (.aload_n 0, 1) := by decide +kernel
theorem dX8_init_5 : decode cX8_init 5 = .ok (.bipush 14, 2) := by decide +kernel
theorem dX8_init_7 : decode cX8_init 7 = .ok (.newarray .int, 2) := by decide +kernel
theorem dX8_init_9 : decode cX8_init 9 = .ok (.putfield 11, 3) := by decide +kernel
theorem dX8_init_12 : decode cX8_init 12 = .ok (.aload_n 0, 1) := by decide +kernel
theorem dX8_init_13 : decode cX8_init 13 = .ok (.bipush 14, 2) := by decide +kernel
theorem dX8_init_15 : decode cX8_init 15 = .ok (.newarray .int, 2) := by decide +kernel
theorem dX8_init_17 : decode cX8_init 17 = .ok (.putfield 15, 3) := by decide +kernel
theorem dX8_init_20 : decode cX8_init 20 = .ok (.aload_n 0, 1) := by decide +kernel
theorem dX8_init_21 : decode cX8_init 21 = .ok (.bipush 14, 2) := by decide +kernel
theorem dX8_init_23 : decode cX8_init 23 = .ok (.newarray .int, 2) := by decide +kernel
theorem dX8_init_25 : decode cX8_init 25 = .ok (.putfield 18, 3) := by decide +kernel
theorem dX8_init_28 : decode cX8_init 28 = .ok (.aload_n 0, 1) := by decide +kernel
theorem dX8_init_29 : decode cX8_init 29 = .ok (.bipush 14, 2) := by decide +kernel
theorem dX8_init_31 : decode cX8_init 31 = .ok (.newarray .int, 2) := by decide +kernel
theorem dX8_init_33 : decode cX8_init 33 = .ok (.putfield 21, 3) := by decide +kernel
theorem dX8_init_36 : decode cX8_init 36 = .ok (.aload_n 0, 1) := by decide +kernel
theorem dX8_init_37 : decode cX8_init 37 = .ok (.bipush 14, 2) := by decide +kernel
theorem dX8_init_39 : decode cX8_init 39 = .ok (.newarray .int, 2) := by decide +kernel
theorem dX8_init_41 : decode cX8_init 41 = .ok (.putfield 24, 3) := by decide +kernel
theorem dX8_init_44 : decode cX8_init 44 = .ok (.aload_n 0, 1) := by decide +kernel
theorem dX8_init_45 : decode cX8_init 45 = .ok (.bipush 14, 2) := by decide +kernel
theorem dX8_init_47 : decode cX8_init 47 = .ok (.newarray .int, 2) := by decide +kernel
theorem dX8_init_49 : decode cX8_init 49 = .ok (.putfield 27, 3) := by decide +kernel
theorem dX8_init_52 : decode cX8_init 52 = .ok (.aload_n 0, 1) := by decide +kernel
theorem dX8_init_53 : decode cX8_init 53 = .ok (.iconst 1, 1) := by decide +kernel
theorem dX8_init_54 : decode cX8_init 54 = .ok (.putfield 30, 3) := by decide +kernel
theorem dX8_init_57 : decode cX8_init 57 = .ok (.return_, 1) := by decide +kernel
theorem dX8_bring_0 : decode cX8_bring 0 = .ok (.aload_n 0, 1) := by decide +kernel
theorem dX8_bring_1 : decode cX8_bring 1 = .ok (.getfield 34, 3) := by decide +kernel
theorem dX8_bring_4 : decode cX8_bring 4 = .ok (.bipush 14, 2) := by decide +kernel
theorem dX8_bring_6 : decode cX8_bring 6 = .ok (.if_icmp .lt 6, 3) := by decide +kernel
theorem dX8_bring_9 : decode cX8_bring 9 = .ok (.bipush (-4), 2) := by decide +kernel
theorem dX8_bring_11 : decode cX8_bring 11 = .ok (.ireturn, 1) := by decide +kernel
theorem dX8_bring_12 : decode cX8_bring 12 = .ok (.aload_n 0, 1) := by decide +kernel
theorem dX8_bring_13 : decode cX8_bring 13 = .ok (.getfield 11, 3) := by decide +kernel
theorem dX8_bring_16 : decode cX8_bring 16 = .ok (.aload_n 0, 1) := by decide +kernel
theorem dX8_bring_17 : decode cX8_bring 17 = .ok (.getfield 34, 3) := by decide +kernel
theorem dX8_bring_20 : decode cX8_bring 20 = .ok (.iload_n 1, 1) := by decide +kernel
theorem dX8_bring_21 : decode cX8_bring 21 = .ok (.iastore, 1) := by decide +kernel
theorem dX8_bring_22 : decode cX8_bring 22 = .ok (.aload_n 0, 1) := by decide +kernel
theorem dX8_bring_23 : decode cX8_bring 23 = .ok (.getfield 15, 3) := by decide +kernel
theorem dX8_bring_26 : decode cX8_bring 26 = .ok (.aload_n 0, 1) := by decide +kernel
theorem dX8_bring_27 : decode cX8_bring 27 = .ok (.getfield 34, 3) := by decide +kernel
theorem dX8_bring_30 : decode cX8_bring 30 = .ok (.iload_n 2, 1) := by decide +kernel
theorem dX8_bring_31 : decode cX8_bring 31 = .ok (.iastore, 1) := by decide +kernel
theorem dX8_bring_32 : decode cX8_bring 32 = .ok (.aload_n 0, 1) := by decide +kernel
theorem dX8_bring_33 : decode cX8_bring 33 = .ok (.getfield 18, 3) := by decide +kernel
theorem dX8_bring_36 : decode cX8_bring 36 = .ok (.aload_n 0, 1) := by decide +kernel
theorem dX8_bring_37 : decode cX8_bring 37 = .ok (.getfield 34, 3) := by decide +kernel
theorem dX8_bring_40 : decode cX8_bring 40 = .ok (.iload_n 3, 1) := by decide +kernel
theorem dX8_bring_41 : decode cX8_bring 41 = .ok (.iastore, 1) := by decide +kernel
theorem dX8_bring_42 : decode cX8_bring 42 = .ok (.aload_n 0, 1) := by decide +kernel
theorem dX8_bring_43 : decode cX8_bring 43 = .ok (.getfield 21, 3) := by decide +kernel
theorem dX8_bring_46 : decode cX8_bring 46 = .ok (.aload_n 0, 1) := by decide +kernel
theorem dX8_bring_47 : decode cX8_bring 47 = .ok (.getfield 34, 3) := by decide +kernel
theorem dX8_bring_50 : decode cX8_bring 50 = .ok (.iload 4, 2) := by decide +kernel
theorem dX8_bring_52 : decode cX8_bring 52 = .ok (.iastore, 1) := by decide +kernel
theorem dX8_bring_53 : decode cX8_bring 53 = .ok (.aload_n 0, 1) := by decide +kernel
theorem dX8_bring_54 : decode cX8_bring 54 = .ok (.getfield 24, 3) := by decide +kernel
theorem dX8_bring_57 : decode cX8_bring 57 = .ok (.aload_n 0, 1) := by decide +kernel
theorem dX8_bring_58 : decode cX8_bring 58 = .ok (.getfield 34, 3) := by decide +kernel
theorem dX8_bring_61 : decode cX8_bring 61 = .ok (.iconst (-1), 1) := by decide +kernel
theorem dX8_bring_62 : decode cX8_bring 62 = .ok (.iastore, 1) := by decide +kernel
theorem dX8_bring_63 : decode cX8_bring 63 = .ok (.aload_n 0, 1) := by decide +kernel
theorem dX8_bring_64 : decode cX8_bring 64 = .ok (.dup, 1) := by decide +kernel
theorem dX8_bring_65 : decode cX8_bring 65 = .ok (.getfield 34, 3) := by decide +kernel
theorem dX8_bring_68 : decode cX8_bring 68 = .ok (.iconst 1, 1) := by decide +kernel
theorem dX8_bring_69 : decode cX8_bring 69 = .ok (.iadd, 1) := by decide +kernel
theorem dX8_bring_70 : decode cX8_bring 70 = .ok (.putfield 34, 3) := by decide +kernel
theorem dX8_bring_73 : decode cX8_bring 73 = .ok (.aload_n 0, 1) := by decide +kernel
theorem dX8_bring_74 : decode cX8_bring 74 = .ok (.getfield 34, 3) := by decide +kernel
theorem dX8_bring_77 : decode cX8_bring 77 = .ok (.iconst 1, 1) := by decide +kernel
theorem dX8_bring_78 : decode cX8_bring 78 = .ok (.isub, 1) := by decide +kernel
theorem dX8_bring_79 : decode cX8_bring 79 = .ok (.ireturn, 1) := by decide +kernel
theorem dX8_arch_0 : decode cX8_arch 0 = .ok (.aload_n 0, 1) := by decide +kernel
theorem dX8_arch_1 : decode cX8_arch 1 = .ok (.getfield 24, 3) := by decide +kernel
theorem dX8_arch_4 : decode cX8_arch 4 = .ok (.iload_n 1, 1) := by decide +kernel
theorem dX8_arch_5 : decode cX8_arch 5 = .ok (.iload_n 2, 1) := by decide +kernel
theorem dX8_arch_6 : decode cX8_arch 6 = .ok (.iastore, 1) := by decide +kernel
theorem dX8_arch_7 : decode cX8_arch 7 = .ok (.aload_n 0, 1) := by decide +kernel
theorem dX8_arch_8 : decode cX8_arch 8 = .ok (.getfield 27, 3) := by decide +kernel
theorem dX8_arch_11 : decode cX8_arch 11 = .ok (.iload_n 2, 1) := by decide +kernel
theorem dX8_arch_12 : decode cX8_arch 12 = .ok (.dup2, 1) := by decide +kernel
theorem dX8_arch_13 : decode cX8_arch 13 = .ok (.iaload, 1) := by decide +kernel
theorem dX8_arch_14 : decode cX8_arch 14 = .ok (.iconst 1, 1) := by decide +kernel
theorem dX8_arch_15 : decode cX8_arch 15 = .ok (.iload_n 1, 1) := by decide +kernel
theorem dX8_arch_16 : decode cX8_arch 16 = .ok (.ishl, 1) := by decide +kernel
theorem dX8_arch_17 : decode cX8_arch 17 = .ok (.ior, 1) := by decide +kernel
theorem dX8_arch_18 : decode cX8_arch 18 = .ok (.iastore, 1) := by decide +kernel
theorem dX8_arch_19 : decode cX8_arch 19 = .ok (.aload_n 0, 1) := by decide +kernel
theorem dX8_arch_20 : decode cX8_arch 20 = .ok (.dup, 1) := by decide +kernel
theorem dX8_arch_21 : decode cX8_arch 21 = .ok (.getfield 37, 3) := by decide +kernel
theorem dX8_arch_24 : decode cX8_arch 24 = .ok (.iconst 1, 1) := by decide +kernel
theorem dX8_arch_25 : decode cX8_arch 25 = .ok (.iload_n 2, 1) := by decide +kernel
theorem dX8_arch_26 : decode cX8_arch 26 = .ok (.ishl, 1) := by decide +kernel
theorem dX8_arch_27 : decode cX8_arch 27 = .ok (.ior, 1) := by decide +kernel
theorem dX8_arch_28 : decode cX8_arch 28 = .ok (.putfield 37, 3) := by decide +kernel
theorem dX8_arch_31 : decode cX8_arch 31 = .ok (.return_, 1) := by decide +kernel
theorem dX8_all_0 : decode cX8_all 0 = .ok (.iconst 1, 1) := by decide +kernel
theorem dX8_all_1 : decode cX8_all 1 = .ok (.aload_n 0, 1) := by decide +kernel
theorem dX8_all_2 : decode cX8_all 2 = .ok (.getfield 34, 3) := by decide +kernel
theorem dX8_all_5 : decode cX8_all 5 = .ok (.ishl, 1) := by decide +kernel
theorem dX8_all_6 : decode cX8_all 6 = .ok (.iconst 1, 1) := by decide +kernel
theorem dX8_all_7 : decode cX8_all 7 = .ok (.isub, 1) := by decide +kernel
theorem dX8_all_8 : decode cX8_all 8 = .ok (.ireturn, 1) := by decide +kernel
theorem dX8_isBorne_0 : decode cX8_isBorne 0 = .ok (.iload_n 2, 1) := by decide +kernel
theorem dX8_isBorne_1 : decode cX8_isBorne 1 = .ok (.iload_n 1, 1) := by decide +kernel
theorem dX8_isBorne_2 : decode cX8_isBorne 2 = .ok (.ishr, 1) := by decide +kernel
theorem dX8_isBorne_3 : decode cX8_isBorne 3 = .ok (.iconst 1, 1) := by decide +kernel
theorem dX8_isBorne_4 : decode cX8_isBorne 4 = .ok (.iand, 1) := by decide +kernel
theorem dX8_isBorne_5 : decode cX8_isBorne 5 = .ok (.ifCond .ne 20, 3) := by decide +kernel
theorem dX8_isBorne_8 : decode cX8_isBorne 8 = .ok (.aload_n 0, 1) := by decide +kernel
theorem dX8_isBorne_9 : decode cX8_isBorne 9 = .ok (.getfield 21, 3) := by decide +kernel
theorem dX8_isBorne_12 : decode cX8_isBorne 12 = .ok (.iload_n 1, 1) := by decide +kernel
theorem dX8_isBorne_13 : decode cX8_isBorne 13 = .ok (.iaload, 1) := by decide +kernel
theorem dX8_isBorne_14 : decode cX8_isBorne 14 = .ok (.iload_n 2, 1) := by decide +kernel
theorem dX8_isBorne_15 : decode cX8_isBorne 15 = .ok (.iconst (-1), 1) := by decide +kernel
theorem dX8_isBorne_16 : decode cX8_isBorne 16 = .ok (.ixor, 1) := by decide +kernel
theorem dX8_isBorne_17 : decode cX8_isBorne 17 = .ok (.iand, 1) := by decide +kernel
theorem dX8_isBorne_18 : decode cX8_isBorne 18 = .ok (.ifCond .ne 7, 3) := by decide +kernel
theorem dX8_isBorne_21 : decode cX8_isBorne 21 = .ok (.iconst 1, 1) := by decide +kernel
theorem dX8_isBorne_22 : decode cX8_isBorne 22 = .ok (.goto 4, 3) := by decide +kernel
theorem dX8_isBorne_25 : decode cX8_isBorne 25 = .ok (.iconst 0, 1) := by decide +kernel
theorem dX8_isBorne_26 : decode cX8_isBorne 26 = .ok (.ireturn, 1) := by decide +kernel
theorem dX8_isCentred_0 : decode cX8_isCentred 0 = .ok (.aload_n 0, 1) := by decide +kernel
theorem dX8_isCentred_1 : decode cX8_isCentred 1 = .ok (.getfield 37, 3) := by decide +kernel
theorem dX8_isCentred_4 : decode cX8_isCentred 4 = .ok (.iload_n 1, 1) := by decide +kernel
theorem dX8_isCentred_5 : decode cX8_isCentred 5 = .ok (.iconst (-1), 1) := by decide +kernel
theorem dX8_isCentred_6 : decode cX8_isCentred 6 = .ok (.ixor, 1) := by decide +kernel
theorem dX8_isCentred_7 : decode cX8_isCentred 7 = .ok (.iand, 1) := by decide +kernel
theorem dX8_isCentred_8 : decode cX8_isCentred 8 = .ok (.istore_n 2, 1) := by decide +kernel
theorem dX8_isCentred_9 : decode cX8_isCentred 9 = .ok (.iconst 0, 1) := by decide +kernel
theorem dX8_isCentred_10 : decode cX8_isCentred 10 = .ok (.istore_n 3, 1) := by decide +kernel
theorem dX8_isCentred_11 : decode cX8_isCentred 11 = .ok (.iconst 0, 1) := by decide +kernel
theorem dX8_isCentred_12 : decode cX8_isCentred 12 = .ok (.istore 4, 2) := by decide +kernel
theorem dX8_isCentred_14 : decode cX8_isCentred 14 = .ok (.iload_n 2, 1) := by decide +kernel
theorem dX8_isCentred_15 : decode cX8_isCentred 15 = .ok (.ifCond .eq 43, 3) := by decide +kernel
theorem dX8_isCentred_18 : decode cX8_isCentred 18 = .ok (.iload 4, 2) := by decide +kernel
theorem dX8_isCentred_20 : decode cX8_isCentred 20 = .ok (.aload_n 0, 1) := by decide +kernel
theorem dX8_isCentred_21 : decode cX8_isCentred 21 = .ok (.getfield 34, 3) := by decide +kernel
theorem dX8_isCentred_24 : decode cX8_isCentred 24 = .ok (.if_icmp .ge 34, 3) := by decide +kernel
theorem dX8_isCentred_27 : decode cX8_isCentred 27 = .ok (.iload_n 2, 1) := by decide +kernel
theorem dX8_isCentred_28 : decode cX8_isCentred 28 = .ok (.iload 4, 2) := by decide +kernel
theorem dX8_isCentred_30 : decode cX8_isCentred 30 = .ok (.ishr, 1) := by decide +kernel
theorem dX8_isCentred_31 : decode cX8_isCentred 31 = .ok (.iconst 1, 1) := by decide +kernel
theorem dX8_isCentred_32 : decode cX8_isCentred 32 = .ok (.iand, 1) := by decide +kernel
theorem dX8_isCentred_33 : decode cX8_isCentred 33 = .ok (.iconst 1, 1) := by decide +kernel
theorem dX8_isCentred_34 : decode cX8_isCentred 34 = .ok (.if_icmp .ne 18, 3) := by decide +kernel
theorem dX8_isCentred_37 : decode cX8_isCentred 37 = .ok (.aload_n 0, 1) := by decide +kernel
theorem dX8_isCentred_38 : decode cX8_isCentred 38 = .ok (.getfield 27, 3) := by decide +kernel
theorem dX8_isCentred_41 : decode cX8_isCentred 41 = .ok (.iload 4, 2) := by decide +kernel
theorem dX8_isCentred_43 : decode cX8_isCentred 43 = .ok (.iaload, 1) := by decide +kernel
theorem dX8_isCentred_44 : decode cX8_isCentred 44 = .ok (.iload_n 1, 1) := by decide +kernel
theorem dX8_isCentred_45 : decode cX8_isCentred 45 = .ok (.iand, 1) := by decide +kernel
theorem dX8_isCentred_46 : decode cX8_isCentred 46 = .ok (.ifCond .eq 6, 3) := by decide +kernel
theorem dX8_isCentred_49 : decode cX8_isCentred 49 = .ok (.iinc 3 1, 3) := by decide +kernel
theorem dX8_isCentred_52 : decode cX8_isCentred 52 = .ok (.iinc 4 1, 3) := by decide +kernel
theorem dX8_isCentred_55 : decode cX8_isCentred 55 = .ok (.goto (-41), 3) := by decide +kernel
theorem dX8_isCentred_58 : decode cX8_isCentred 58 = .ok (.iload_n 3, 1) := by decide +kernel
theorem dX8_isCentred_59 : decode cX8_isCentred 59 = .ok (.aload_n 0, 1) := by decide +kernel
theorem dX8_isCentred_60 : decode cX8_isCentred 60 = .ok (.getfield 30, 3) := by decide +kernel
theorem dX8_isCentred_63 : decode cX8_isCentred 63 = .ok (.if_icmp .gt 7, 3) := by decide +kernel
theorem dX8_isCentred_66 : decode cX8_isCentred 66 = .ok (.iconst 1, 1) := by decide +kernel
theorem dX8_isCentred_67 : decode cX8_isCentred 67 = .ok (.goto 4, 3) := by decide +kernel
theorem dX8_isCentred_70 : decode cX8_isCentred 70 = .ok (.iconst 0, 1) := by decide +kernel
theorem dX8_isCentred_71 : decode cX8_isCentred 71 = .ok (.ireturn, 1) := by decide +kernel
theorem dX8_mixInto_0 : decode cX8_mixInto 0 = .ok (.lload_n 1, 1) := by decide +kernel
theorem dX8_mixInto_1 : decode cX8_mixInto 1 = .ok (.lstore_n 3, 1) := by decide +kernel
theorem dX8_mixInto_2 : decode cX8_mixInto 2 = .ok (.iconst 0, 1) := by decide +kernel
theorem dX8_mixInto_3 : decode cX8_mixInto 3 = .ok (.istore 5, 2) := by decide +kernel
theorem dX8_mixInto_5 : decode cX8_mixInto 5 = .ok (.iload 5, 2) := by decide +kernel
theorem dX8_mixInto_7 : decode cX8_mixInto 7 = .ok (.aload_n 0, 1) := by decide +kernel
theorem dX8_mixInto_8 : decode cX8_mixInto 8 = .ok (.getfield 34, 3) := by decide +kernel
theorem dX8_mixInto_11 : decode cX8_mixInto 11 = .ok (.if_icmp .ge 84, 3) := by decide +kernel
theorem dX8_mixInto_14 : decode cX8_mixInto 14 = .ok (.ldc2_w 40, 3) := by decide +kernel
theorem dX8_mixInto_17 : decode cX8_mixInto 17 = .ok (.lload_n 3, 1) := by decide +kernel
theorem dX8_mixInto_18 : decode cX8_mixInto 18 = .ok (.lmul, 1) := by decide +kernel
theorem dX8_mixInto_19 : decode cX8_mixInto 19 = .ok (.aload_n 0, 1) := by decide +kernel
theorem dX8_mixInto_20 : decode cX8_mixInto 20 = .ok (.getfield 11, 3) := by decide +kernel
theorem dX8_mixInto_23 : decode cX8_mixInto 23 = .ok (.iload 5, 2) := by decide +kernel
theorem dX8_mixInto_25 : decode cX8_mixInto 25 = .ok (.iaload, 1) := by decide +kernel
theorem dX8_mixInto_26 : decode cX8_mixInto 26 = .ok (.i2l, 1) := by decide +kernel
theorem dX8_mixInto_27 : decode cX8_mixInto 27 = .ok (.ladd, 1) := by decide +kernel
theorem dX8_mixInto_28 : decode cX8_mixInto 28 = .ok (.lstore_n 3, 1) := by decide +kernel
theorem dX8_mixInto_29 : decode cX8_mixInto 29 = .ok (.ldc2_w 40, 3) := by decide +kernel
theorem dX8_mixInto_32 : decode cX8_mixInto 32 = .ok (.lload_n 3, 1) := by decide +kernel
theorem dX8_mixInto_33 : decode cX8_mixInto 33 = .ok (.lmul, 1) := by decide +kernel
theorem dX8_mixInto_34 : decode cX8_mixInto 34 = .ok (.aload_n 0, 1) := by decide +kernel
theorem dX8_mixInto_35 : decode cX8_mixInto 35 = .ok (.getfield 15, 3) := by decide +kernel
theorem dX8_mixInto_38 : decode cX8_mixInto 38 = .ok (.iload 5, 2) := by decide +kernel
theorem dX8_mixInto_40 : decode cX8_mixInto 40 = .ok (.iaload, 1) := by decide +kernel
theorem dX8_mixInto_41 : decode cX8_mixInto 41 = .ok (.i2l, 1) := by decide +kernel
theorem dX8_mixInto_42 : decode cX8_mixInto 42 = .ok (.ladd, 1) := by decide +kernel
theorem dX8_mixInto_43 : decode cX8_mixInto 43 = .ok (.lstore_n 3, 1) := by decide +kernel
theorem dX8_mixInto_44 : decode cX8_mixInto 44 = .ok (.ldc2_w 40, 3) := by decide +kernel
theorem dX8_mixInto_47 : decode cX8_mixInto 47 = .ok (.lload_n 3, 1) := by decide +kernel
theorem dX8_mixInto_48 : decode cX8_mixInto 48 = .ok (.lmul, 1) := by decide +kernel
theorem dX8_mixInto_49 : decode cX8_mixInto 49 = .ok (.aload_n 0, 1) := by decide +kernel
theorem dX8_mixInto_50 : decode cX8_mixInto 50 = .ok (.getfield 18, 3) := by decide +kernel
theorem dX8_mixInto_53 : decode cX8_mixInto 53 = .ok (.iload 5, 2) := by decide +kernel
theorem dX8_mixInto_55 : decode cX8_mixInto 55 = .ok (.iaload, 1) := by decide +kernel
theorem dX8_mixInto_56 : decode cX8_mixInto 56 = .ok (.i2l, 1) := by decide +kernel
theorem dX8_mixInto_57 : decode cX8_mixInto 57 = .ok (.ladd, 1) := by decide +kernel
theorem dX8_mixInto_58 : decode cX8_mixInto 58 = .ok (.lstore_n 3, 1) := by decide +kernel
theorem dX8_mixInto_59 : decode cX8_mixInto 59 = .ok (.ldc2_w 40, 3) := by decide +kernel
theorem dX8_mixInto_62 : decode cX8_mixInto 62 = .ok (.lload_n 3, 1) := by decide +kernel
theorem dX8_mixInto_63 : decode cX8_mixInto 63 = .ok (.lmul, 1) := by decide +kernel
theorem dX8_mixInto_64 : decode cX8_mixInto 64 = .ok (.aload_n 0, 1) := by decide +kernel
theorem dX8_mixInto_65 : decode cX8_mixInto 65 = .ok (.getfield 21, 3) := by decide +kernel
theorem dX8_mixInto_68 : decode cX8_mixInto 68 = .ok (.iload 5, 2) := by decide +kernel
theorem dX8_mixInto_70 : decode cX8_mixInto 70 = .ok (.iaload, 1) := by decide +kernel
theorem dX8_mixInto_71 : decode cX8_mixInto 71 = .ok (.i2l, 1) := by decide +kernel
theorem dX8_mixInto_72 : decode cX8_mixInto 72 = .ok (.ladd, 1) := by decide +kernel
theorem dX8_mixInto_73 : decode cX8_mixInto 73 = .ok (.lstore_n 3, 1) := by decide +kernel
theorem dX8_mixInto_74 : decode cX8_mixInto 74 = .ok (.ldc2_w 40, 3) := by decide +kernel
theorem dX8_mixInto_77 : decode cX8_mixInto 77 = .ok (.lload_n 3, 1) := by decide +kernel
theorem dX8_mixInto_78 : decode cX8_mixInto 78 = .ok (.lmul, 1) := by decide +kernel
theorem dX8_mixInto_79 : decode cX8_mixInto 79 = .ok (.aload_n 0, 1) := by decide +kernel
theorem dX8_mixInto_80 : decode cX8_mixInto 80 = .ok (.getfield 24, 3) := by decide +kernel
theorem dX8_mixInto_83 : decode cX8_mixInto 83 = .ok (.iload 5, 2) := by decide +kernel
theorem dX8_mixInto_85 : decode cX8_mixInto 85 = .ok (.iaload, 1) := by decide +kernel
theorem dX8_mixInto_86 : decode cX8_mixInto 86 = .ok (.i2l, 1) := by decide +kernel
theorem dX8_mixInto_87 : decode cX8_mixInto 87 = .ok (.ladd, 1) := by decide +kernel
theorem dX8_mixInto_88 : decode cX8_mixInto 88 = .ok (.lstore_n 3, 1) := by decide +kernel
theorem dX8_mixInto_89 : decode cX8_mixInto 89 = .ok (.iinc 5 1, 3) := by decide +kernel
theorem dX8_mixInto_92 : decode cX8_mixInto 92 = .ok (.goto (-87), 3) := by decide +kernel
theorem dX8_mixInto_95 : decode cX8_mixInto 95 = .ok (.lload_n 3, 1) := by decide +kernel
theorem dX8_mixInto_96 : decode cX8_mixInto 96 = .ok (.lreturn, 1) := by decide +kernel
theorem dX9_init_0 : decode cX9_init 0 = .ok (.aload_n 0, 1) := by decide +kernel
theorem dX9_init_1 : decode cX9_init 1 = .ok (.invokespecial 1, 3) := by decide +kernel
theorem dX9_init_4 : decode cX9_init 4 = .ok (.aload_n 0, 1) := by decide +kernel
theorem dX9_init_5 : decode cX9_init 5 = .ok (.new 7, 3) := by decide +kernel
theorem dX9_init_8 : decode cX9_init 8 = .ok (.dup, 1) := by decide +kernel
theorem dX9_init_9 : decode cX9_init 9 = .ok (.invokespecial 9, 3) := by decide +kernel
theorem dX9_init_12 : decode cX9_init 12 = .ok (.putfield 10, 3) := by decide +kernel
theorem dX9_init_15 : decode cX9_init 15 = .ok (.aload_n 0, 1) := by decide +kernel
theorem dX9_init_16 : decode cX9_init 16 = .ok (.new 16, 3) := by decide +kernel
theorem dX9_init_19 : decode cX9_init 19 = .ok (.dup, 1) := by decide +kernel
theorem dX9_init_20 : decode cX9_init 20 = .ok (.invokespecial 18, 3) := by decide +kernel
theorem dX9_init_23 : decode cX9_init 23 = .ok (.putfield 19, 3) := by decide +kernel
theorem dX9_init_26 : decode cX9_init 26 = .ok (.aload_n 0, 1) := by decide +kernel
theorem dX9_init_27 : decode cX9_init 27 = .ok (.new 23, 3) := by decide +kernel
theorem dX9_init_30 : decode cX9_init 30 = .ok (.dup, 1) := by decide +kernel
theorem dX9_init_31 : decode cX9_init 31 = .ok (.invokespecial 25, 3) := by decide +kernel
theorem dX9_init_34 : decode cX9_init 34 = .ok (.putfield 26, 3) := by decide +kernel
theorem dX9_init_37 : decode cX9_init 37 = .ok (.aload_n 0, 1) := by decide +kernel
theorem dX9_init_38 : decode cX9_init 38 = .ok (.new 30, 3) := by decide +kernel
theorem dX9_init_41 : decode cX9_init 41 = .ok (.dup, 1) := by decide +kernel
theorem dX9_init_42 : decode cX9_init 42 = .ok (.invokespecial 32, 3) := by decide +kernel
theorem dX9_init_45 : decode cX9_init 45 = .ok (.putfield 33, 3) := by decide +kernel
theorem dX9_init_48 : decode cX9_init 48 = .ok (.aload_n 0, 1) := by decide +kernel
theorem dX9_init_49 : decode cX9_init 49 = .ok (.new 37, 3) := by decide +kernel
theorem dX9_init_52 : decode cX9_init 52 = .ok (.dup, 1) := by decide +kernel
theorem dX9_init_53 : decode cX9_init 53 = .ok (.invokespecial 39, 3) := by decide +kernel
theorem dX9_init_56 : decode cX9_init 56 = .ok (.putfield 40, 3) := by decide +kernel
theorem dX9_init_59 : decode cX9_init 59 = .ok (.aload_n 0, 1) := by decide +kernel
theorem dX9_init_60 : decode cX9_init 60 = .ok (.new 44, 3) := by decide +kernel
theorem dX9_init_63 : decode cX9_init 63 = .ok (.dup, 1) := by decide +kernel
theorem dX9_init_64 : decode cX9_init 64 = .ok (.invokespecial 46, 3) := by decide +kernel
theorem dX9_init_67 : decode cX9_init 67 = .ok (.putfield 47, 3) := by decide +kernel
theorem dX9_init_70 : decode cX9_init 70 = .ok (.aload_n 0, 1) := by decide +kernel
theorem dX9_init_71 : decode cX9_init 71 = .ok (.new 51, 3) := by decide +kernel
theorem dX9_init_74 : decode cX9_init 74 = .ok (.dup, 1) := by decide +kernel
theorem dX9_init_75 : decode cX9_init 75 = .ok (.aload_n 0, 1) := by decide +kernel
theorem dX9_init_76 : decode cX9_init 76 = .ok (.getfield 40, 3) := by decide +kernel
theorem dX9_init_79 : decode cX9_init 79 = .ok (.aload_n 0, 1) := by decide +kernel
theorem dX9_init_80 : decode cX9_init 80 = .ok (.getfield 47, 3) := by decide +kernel
theorem dX9_init_83 : decode cX9_init 83 = .ok (.invokespecial 53, 3) := by decide +kernel
theorem dX9_init_86 : decode cX9_init 86 = .ok (.putfield 56, 3) := by decide +kernel
theorem dX9_init_89 : decode cX9_init 89 = .ok (.aload_n 0, 1) := by decide +kernel
theorem dX9_init_90 : decode cX9_init 90 = .ok (.new 60, 3) := by decide +kernel
theorem dX9_init_93 : decode cX9_init 93 = .ok (.dup, 1) := by decide +kernel
theorem dX9_init_94 : decode cX9_init 94 = .ok (.aload_n 0, 1) := by decide +kernel
theorem dX9_init_95 : decode cX9_init 95 = .ok (.getfield 40, 3) := by decide +kernel
theorem dX9_init_98 : decode cX9_init 98 = .ok (.invokespecial 62, 3) := by decide +kernel
theorem dX9_init_101 : decode cX9_init 101 = .ok (.putfield 65, 3) := by decide +kernel
theorem dX9_init_104 : decode cX9_init 104 = .ok (.aload_n 0, 1) := by decide +kernel
theorem dX9_init_105 : decode cX9_init 105 = .ok (.new 69, 3) := by decide +kernel
theorem dX9_init_108 : decode cX9_init 108 = .ok (.dup, 1) := by decide +kernel
theorem dX9_init_109 : decode cX9_init 109 = .ok (.invokespecial 71, 3) := by decide +kernel
theorem dX9_init_112 : decode cX9_init 112 = .ok (.putfield 72, 3) := by decide +kernel
theorem dX9_init_115 : decode cX9_init 115 = .ok (.return_, 1) := by decide +kernel
theorem dX9_wheel_0 : decode cX9_wheel 0 = .ok (.iload_n 1, 1) := by decide +kernel
theorem dX9_wheel_1 : decode cX9_wheel 1 = .ok (.bipush 100, 2) := by decide +kernel
theorem dX9_wheel_3 : decode cX9_wheel 3 = .ok (.sipush 2000, 3) := by decide +kernel
theorem dX9_wheel_6 : decode cX9_wheel 6 = .ok (.invokestatic 76, 3) := by decide +kernel
theorem dX9_wheel_9 : decode cX9_wheel 9 = .ok (.ifCond .eq 41, 3) := by decide +kernel
theorem dX9_wheel_12 : decode cX9_wheel 12 = .ok (.iload_n 2, 1) := by decide +kernel
theorem dX9_wheel_13 : decode cX9_wheel 13 = .ok (.bipush 10, 2) := by decide +kernel
theorem dX9_wheel_15 : decode cX9_wheel 15 = .ok (.bipush 60, 2) := by decide +kernel
theorem dX9_wheel_17 : decode cX9_wheel 17 = .ok (.invokestatic 76, 3) := by decide +kernel
theorem dX9_wheel_20 : decode cX9_wheel 20 = .ok (.ifCond .eq 30, 3) := by decide +kernel
theorem dX9_wheel_23 : decode cX9_wheel 23 = .ok (.iload_n 3, 1) := by decide +kernel
theorem dX9_wheel_24 : decode cX9_wheel 24 = .ok (.bipush 10, 2) := by decide +kernel
theorem dX9_wheel_26 : decode cX9_wheel 26 = .ok (.sipush 200, 3) := by decide +kernel
theorem dX9_wheel_29 : decode cX9_wheel 29 = .ok (.invokestatic 76, 3) := by decide +kernel
theorem dX9_wheel_32 : decode cX9_wheel 32 = .ok (.ifCond .eq 18, 3) := by decide +kernel
theorem dX9_wheel_35 : decode cX9_wheel 35 = .ok (.iload 4, 2) := by decide +kernel
theorem dX9_wheel_37 : decode cX9_wheel 37 = .ok (.iconst 0, 1) := by decide +kernel
theorem dX9_wheel_38 : decode cX9_wheel 38 = .ok (.bipush 100, 2) := by decide +kernel
theorem dX9_wheel_40 : decode cX9_wheel 40 = .ok (.invokestatic 76, 3) := by decide +kernel
theorem dX9_wheel_43 : decode cX9_wheel 43 = .ok (.ifCond .eq 7, 3) := by decide +kernel
theorem dX9_wheel_46 : decode cX9_wheel 46 = .ok (.iconst 1, 1) := by decide +kernel
theorem dX9_wheel_47 : decode cX9_wheel 47 = .ok (.goto 4, 3) := by decide +kernel
theorem dX9_wheel_50 : decode cX9_wheel 50 = .ok (.iconst 0, 1) := by decide +kernel
theorem dX9_wheel_51 : decode cX9_wheel 51 = .ok (.istore 5, 2) := by decide +kernel
theorem dX9_wheel_53 : decode cX9_wheel 53 = .ok (.iload 5, 2) := by decide +kernel
theorem dX9_wheel_55 : decode cX9_wheel 55 = .ok (.ifCond .ne 6, 3) := by decide +kernel
theorem dX9_wheel_58 : decode cX9_wheel 58 = .ok (.bipush (-2), 2) := by decide +kernel
theorem dX9_wheel_60 : decode cX9_wheel 60 = .ok (.ireturn, 1) := by decide +kernel
theorem dX9_wheel_61 : decode cX9_wheel 61 = .ok (.aload_n 0, 1) := by decide +kernel
theorem dX9_wheel_62 : decode cX9_wheel 62 = .ok (.getfield 10, 3) := by decide +kernel
theorem dX9_wheel_65 : decode cX9_wheel 65 = .ok (.iload_n 1, 1) := by decide +kernel
theorem dX9_wheel_66 : decode cX9_wheel 66 = .ok (.putfield 80, 3) := by decide +kernel
theorem dX9_wheel_69 : decode cX9_wheel 69 = .ok (.aload_n 0, 1) := by decide +kernel
theorem dX9_wheel_70 : decode cX9_wheel 70 = .ok (.getfield 10, 3) := by decide +kernel
theorem dX9_wheel_73 : decode cX9_wheel 73 = .ok (.iload_n 2, 1) := by decide +kernel
theorem dX9_wheel_74 : decode cX9_wheel 74 = .ok (.putfield 84, 3) := by decide +kernel
theorem dX9_wheel_77 : decode cX9_wheel 77 = .ok (.aload_n 0, 1) := by decide +kernel
theorem dX9_wheel_78 : decode cX9_wheel 78 = .ok (.getfield 10, 3) := by decide +kernel
theorem dX9_wheel_81 : decode cX9_wheel 81 = .ok (.iload_n 3, 1) := by decide +kernel
theorem dX9_wheel_82 : decode cX9_wheel 82 = .ok (.putfield 87, 3) := by decide +kernel
theorem dX9_wheel_85 : decode cX9_wheel 85 = .ok (.aload_n 0, 1) := by decide +kernel
theorem dX9_wheel_86 : decode cX9_wheel 86 = .ok (.getfield 10, 3) := by decide +kernel
theorem dX9_wheel_89 : decode cX9_wheel 89 = .ok (.iload 4, 2) := by decide +kernel
theorem dX9_wheel_91 : decode cX9_wheel 91 = .ok (.putfield 90, 3) := by decide +kernel
theorem dX9_wheel_94 : decode cX9_wheel 94 = .ok (.iconst 1, 1) := by decide +kernel
theorem dX9_wheel_95 : decode cX9_wheel 95 = .ok (.ireturn, 1) := by decide +kernel
