theorem d_MO_may_0 : decode b_MO_may 0 = .ok (.aload_n 0, 1) := by decide +kernel
theorem d_MO_may_1 : decode b_MO_may 1 = .ok (.getfield 35, 3) := by decide +kernel
theorem d_MO_may_4 : decode b_MO_may 4 = .ok (.aload_n 0, 1) := by decide +kernel
theorem d_MO_may_5 : decode b_MO_may 5 = .ok (.getfield 44, 3) := by decide +kernel
theorem d_MO_may_8 : decode b_MO_may 8 = .ok (.iload_n 1, 1) := by decide +kernel
theorem d_MO_may_9 : decode b_MO_may 9 = .ok (.iaload, 1) := by decide +kernel
theorem d_MO_may_10 : decode b_MO_may 10 = .ok (.iaload, 1) := by decide +kernel
theorem d_MO_may_11 : decode b_MO_may 11 = .ok (.iload_n 2, 1) := by decide +kernel
theorem d_MO_may_12 : decode b_MO_may 12 = .ok (.ishr, 1) := by decide +kernel
theorem d_MO_may_13 : decode b_MO_may 13 = .ok (.iconst 1, 1) := by decide +kernel
theorem d_MO_may_14 : decode b_MO_may 14 = .ok (.iand, 1) := by decide +kernel
theorem d_MO_may_15 : decode b_MO_may 15 = .ok (.iconst 1, 1) := by decide +kernel
theorem d_MO_may_16 : decode b_MO_may 16 = .ok (.if_icmp .ne 7, 3) := by decide +kernel
theorem d_MO_may_19 : decode b_MO_may 19 = .ok (.iconst 1, 1) := by decide +kernel
theorem d_MO_may_20 : decode b_MO_may 20 = .ok (.goto 4, 3) := by decide +kernel
theorem d_MO_may_23 : decode b_MO_may 23 = .ok (.iconst 0, 1) := by decide +kernel
theorem d_MO_may_24 : decode b_MO_may 24 = .ok (.ireturn, 1) := by decide +kernel
theorem d_MO_lose_0 : decode b_MO_lose 0 = .ok (.iconst 0, 1) := by decide +kernel
theorem d_MO_lose_1 : decode b_MO_lose 1 = .ok (.istore_n 1, 1) := by decide +kernel
theorem d_MO_lose_2 : decode b_MO_lose 2 = .ok (.iload_n 1, 1) := by decide +kernel
theorem d_MO_lose_3 : decode b_MO_lose 3 = .ok (.aload_n 0, 1) := by decide +kernel
theorem d_MO_lose_4 : decode b_MO_lose 4 = .ok (.getfield 141, 3) := by decide +kernel
theorem d_MO_lose_7 : decode b_MO_lose 7 = .ok (.if_icmp .ge 43, 3) := by decide +kernel
theorem d_MO_lose_10 : decode b_MO_lose 10 = .ok (.aload_n 0, 1) := by decide +kernel
theorem d_MO_lose_11 : decode b_MO_lose 11 = .ok (.getfield 38, 3) := by decide +kernel
theorem d_MO_lose_14 : decode b_MO_lose 14 = .ok (.aload_n 0, 1) := by decide +kernel
theorem d_MO_lose_15 : decode b_MO_lose 15 = .ok (.getfield 44, 3) := by decide +kernel
theorem d_MO_lose_18 : decode b_MO_lose 18 = .ok (.iload_n 1, 1) := by decide +kernel
theorem d_MO_lose_19 : decode b_MO_lose 19 = .ok (.iaload, 1) := by decide +kernel
theorem d_MO_lose_20 : decode b_MO_lose 20 = .ok (.dup2, 1) := by decide +kernel
theorem d_MO_lose_21 : decode b_MO_lose 21 = .ok (.iaload, 1) := by decide +kernel
theorem d_MO_lose_22 : decode b_MO_lose 22 = .ok (.aload_n 0, 1) := by decide +kernel
theorem d_MO_lose_23 : decode b_MO_lose 23 = .ok (.getfield 35, 3) := by decide +kernel
theorem d_MO_lose_26 : decode b_MO_lose 26 = .ok (.aload_n 0, 1) := by decide +kernel
theorem d_MO_lose_27 : decode b_MO_lose 27 = .ok (.getfield 44, 3) := by decide +kernel
theorem d_MO_lose_30 : decode b_MO_lose 30 = .ok (.iload_n 1, 1) := by decide +kernel
theorem d_MO_lose_31 : decode b_MO_lose 31 = .ok (.iaload, 1) := by decide +kernel
theorem d_MO_lose_32 : decode b_MO_lose 32 = .ok (.iaload, 1) := by decide +kernel
theorem d_MO_lose_33 : decode b_MO_lose 33 = .ok (.aload_n 0, 1) := by decide +kernel
theorem d_MO_lose_34 : decode b_MO_lose 34 = .ok (.getfield 47, 3) := by decide +kernel
theorem d_MO_lose_37 : decode b_MO_lose 37 = .ok (.iload_n 1, 1) := by decide +kernel
theorem d_MO_lose_38 : decode b_MO_lose 38 = .ok (.iaload, 1) := by decide +kernel
theorem d_MO_lose_39 : decode b_MO_lose 39 = .ok (.iconst (-1), 1) := by decide +kernel
theorem d_MO_lose_40 : decode b_MO_lose 40 = .ok (.ixor, 1) := by decide +kernel
theorem d_MO_lose_41 : decode b_MO_lose 41 = .ok (.iand, 1) := by decide +kernel
theorem d_MO_lose_42 : decode b_MO_lose 42 = .ok (.ior, 1) := by decide +kernel
theorem d_MO_lose_43 : decode b_MO_lose 43 = .ok (.iastore, 1) := by decide +kernel
theorem d_MO_lose_44 : decode b_MO_lose 44 = .ok (.iinc 1 1, 3) := by decide +kernel
theorem d_MO_lose_47 : decode b_MO_lose 47 = .ok (.goto (-45), 3) := by decide +kernel
theorem d_MO_lose_50 : decode b_MO_lose 50 = .ok (.return_, 1) := by decide +kernel
theorem d_MO_beginUnit_0 : decode b_MO_beginUnit 0 = .ok (.aload_n 0, 1) := by decide +kernel
theorem d_MO_beginUnit_1 : decode b_MO_beginUnit 1 = .ok (.iconst 0, 1) := by decide +kernel
theorem d_MO_beginUnit_2 : decode b_MO_beginUnit 2 = .ok (.putfield 141, 3) := by decide +kernel
theorem d_MO_beginUnit_5 : decode b_MO_beginUnit 5 = .ok (.iconst 0, 1) := by decide +kernel
theorem d_MO_beginUnit_6 : decode b_MO_beginUnit 6 = .ok (.istore_n 1, 1) := by decide +kernel
theorem d_MO_beginUnit_7 : decode b_MO_beginUnit 7 = .ok (.iload_n 1, 1) := by decide +kernel
theorem d_MO_beginUnit_8 : decode b_MO_beginUnit 8 = .ok (.bipush 25, 2) := by decide +kernel
theorem d_MO_beginUnit_10 : decode b_MO_beginUnit 10 = .ok (.if_icmp .ge 16, 3) := by decide +kernel
theorem d_MO_beginUnit_13 : decode b_MO_beginUnit 13 = .ok (.aload_n 0, 1) := by decide +kernel
theorem d_MO_beginUnit_14 : decode b_MO_beginUnit 14 = .ok (.getfield 47, 3) := by decide +kernel
theorem d_MO_beginUnit_17 : decode b_MO_beginUnit 17 = .ok (.iload_n 1, 1) := by decide +kernel
theorem d_MO_beginUnit_18 : decode b_MO_beginUnit 18 = .ok (.iconst 0, 1) := by decide +kernel
theorem d_MO_beginUnit_19 : decode b_MO_beginUnit 19 = .ok (.iastore, 1) := by decide +kernel
theorem d_MO_beginUnit_20 : decode b_MO_beginUnit 20 = .ok (.iinc 1 1, 3) := by decide +kernel
theorem d_MO_beginUnit_23 : decode b_MO_beginUnit 23 = .ok (.goto (-16), 3) := by decide +kernel
theorem d_MO_beginUnit_26 : decode b_MO_beginUnit 26 = .ok (.return_, 1) := by decide +kernel
theorem d_MO_addCell_0 : decode b_MO_addCell 0 = .ok (.aload_n 0, 1) := by decide +kernel
theorem d_MO_addCell_1 : decode b_MO_addCell 1 = .ok (.getfield 44, 3) := by decide +kernel
theorem d_MO_addCell_4 : decode b_MO_addCell 4 = .ok (.aload_n 0, 1) := by decide +kernel
theorem d_MO_addCell_5 : decode b_MO_addCell 5 = .ok (.getfield 141, 3) := by decide +kernel
theorem d_MO_addCell_8 : decode b_MO_addCell 8 = .ok (.iload_n 1, 1) := by decide +kernel
theorem d_MO_addCell_9 : decode b_MO_addCell 9 = .ok (.iastore, 1) := by decide +kernel
theorem d_MO_addCell_10 : decode b_MO_addCell 10 = .ok (.aload_n 0, 1) := by decide +kernel
theorem d_MO_addCell_11 : decode b_MO_addCell 11 = .ok (.dup, 1) := by decide +kernel
theorem d_MO_addCell_12 : decode b_MO_addCell 12 = .ok (.getfield 141, 3) := by decide +kernel
theorem d_MO_addCell_15 : decode b_MO_addCell 15 = .ok (.iconst 1, 1) := by decide +kernel
theorem d_MO_addCell_16 : decode b_MO_addCell 16 = .ok (.iadd, 1) := by decide +kernel
theorem d_MO_addCell_17 : decode b_MO_addCell 17 = .ok (.putfield 141, 3) := by decide +kernel
theorem d_MO_addCell_20 : decode b_MO_addCell 20 = .ok (.return_, 1) := by decide +kernel
theorem d_MO_addLine_0 : decode b_MO_addLine 0 = .ok (.aload_n 0, 1) := by decide +kernel
theorem d_MO_addLine_1 : decode b_MO_addLine 1 = .ok (.invokevirtual 144, 3) := by decide +kernel
theorem d_MO_addLine_4 : decode b_MO_addLine 4 = .ok (.iconst 0, 1) := by decide +kernel
theorem d_MO_addLine_5 : decode b_MO_addLine 5 = .ok (.istore_n 2, 1) := by decide +kernel
theorem d_MO_addLine_6 : decode b_MO_addLine 6 = .ok (.iload_n 2, 1) := by decide +kernel
theorem d_MO_addLine_7 : decode b_MO_addLine 7 = .ok (.aload_n 0, 1) := by decide +kernel
theorem d_MO_addLine_8 : decode b_MO_addLine 8 = .ok (.getfield 13, 3) := by decide +kernel
theorem d_MO_addLine_11 : decode b_MO_addLine 11 = .ok (.if_icmp .ge 45, 3) := by decide +kernel
theorem d_MO_addLine_14 : decode b_MO_addLine 14 = .ok (.aload_n 0, 1) := by decide +kernel
theorem d_MO_addLine_15 : decode b_MO_addLine 15 = .ok (.iload_n 1, 1) := by decide +kernel
theorem d_MO_addLine_16 : decode b_MO_addLine 16 = .ok (.aload_n 0, 1) := by decide +kernel
theorem d_MO_addLine_17 : decode b_MO_addLine 17 = .ok (.getfield 13, 3) := by decide +kernel
theorem d_MO_addLine_20 : decode b_MO_addLine 20 = .ok (.if_icmp .ge 14, 3) := by decide +kernel
theorem d_MO_addLine_23 : decode b_MO_addLine 23 = .ok (.aload_n 0, 1) := by decide +kernel
theorem d_MO_addLine_24 : decode b_MO_addLine 24 = .ok (.getfield 13, 3) := by decide +kernel
theorem d_MO_addLine_27 : decode b_MO_addLine 27 = .ok (.iload_n 1, 1) := by decide +kernel
theorem d_MO_addLine_28 : decode b_MO_addLine 28 = .ok (.imul, 1) := by decide +kernel
theorem d_MO_addLine_29 : decode b_MO_addLine 29 = .ok (.iload_n 2, 1) := by decide +kernel
theorem d_MO_addLine_30 : decode b_MO_addLine 30 = .ok (.iadd, 1) := by decide +kernel
theorem d_MO_addLine_31 : decode b_MO_addLine 31 = .ok (.goto 16, 3) := by decide +kernel
theorem d_MO_addLine_34 : decode b_MO_addLine 34 = .ok (.aload_n 0, 1) := by decide +kernel
theorem d_MO_addLine_35 : decode b_MO_addLine 35 = .ok (.getfield 13, 3) := by decide +kernel
theorem d_MO_addLine_38 : decode b_MO_addLine 38 = .ok (.iload_n 2, 1) := by decide +kernel
theorem d_MO_addLine_39 : decode b_MO_addLine 39 = .ok (.imul, 1) := by decide +kernel
theorem d_MO_addLine_40 : decode b_MO_addLine 40 = .ok (.iload_n 1, 1) := by decide +kernel
theorem d_MO_addLine_41 : decode b_MO_addLine 41 = .ok (.iadd, 1) := by decide +kernel
theorem d_MO_addLine_42 : decode b_MO_addLine 42 = .ok (.aload_n 0, 1) := by decide +kernel
theorem d_MO_addLine_43 : decode b_MO_addLine 43 = .ok (.getfield 13, 3) := by decide +kernel
theorem d_MO_addLine_46 : decode b_MO_addLine 46 = .ok (.isub, 1) := by decide +kernel
theorem d_MO_addLine_47 : decode b_MO_addLine 47 = .ok (.invokevirtual 147, 3) := by decide +kernel
theorem d_MO_addLine_50 : decode b_MO_addLine 50 = .ok (.iinc 2 1, 3) := by decide +kernel
theorem d_MO_addLine_53 : decode b_MO_addLine 53 = .ok (.goto (-47), 3) := by decide +kernel
theorem d_MO_addLine_56 : decode b_MO_addLine 56 = .ok (.return_, 1) := by decide +kernel
theorem d_MO_tryPicture_0 : decode b_MO_tryPicture 0 = .ok (.aload_n 0, 1) := by decide +kernel
theorem d_MO_tryPicture_1 : decode b_MO_tryPicture 1 = .ok (.iload_n 1, 1) := by decide +kernel
theorem d_MO_tryPicture_2 : decode b_MO_tryPicture 2 = .ok (.invokevirtual 150, 3) := by decide +kernel
theorem d_MO_tryPicture_5 : decode b_MO_tryPicture 5 = .ok (.iconst 0, 1) := by decide +kernel
theorem d_MO_tryPicture_6 : decode b_MO_tryPicture 6 = .ok (.istore_n 2, 1) := by decide +kernel
theorem d_MO_tryPicture_7 : decode b_MO_tryPicture 7 = .ok (.iload_n 2, 1) := by decide +kernel
theorem d_MO_tryPicture_8 : decode b_MO_tryPicture 8 = .ok (.bipush 32, 2) := by decide +kernel
theorem d_MO_tryPicture_10 : decode b_MO_tryPicture 10 = .ok (.if_icmp .ge 103, 3) := by decide +kernel
theorem d_MO_tryPicture_13 : decode b_MO_tryPicture 13 = .ok (.aload_n 0, 1) := by decide +kernel
theorem d_MO_tryPicture_14 : decode b_MO_tryPicture 14 = .ok (.getfield 59, 3) := by decide +kernel
theorem d_MO_tryPicture_17 : decode b_MO_tryPicture 17 = .ok (.iload_n 2, 1) := by decide +kernel
theorem d_MO_tryPicture_18 : decode b_MO_tryPicture 18 = .ok (.iaload, 1) := by decide +kernel
theorem d_MO_tryPicture_19 : decode b_MO_tryPicture 19 = .ok (.aload_n 0, 1) := by decide +kernel
theorem d_MO_tryPicture_20 : decode b_MO_tryPicture 20 = .ok (.getfield 16, 3) := by decide +kernel
theorem d_MO_tryPicture_23 : decode b_MO_tryPicture 23 = .ok (.iload_n 1, 1) := by decide +kernel
theorem d_MO_tryPicture_24 : decode b_MO_tryPicture 24 = .ok (.iaload, 1) := by decide +kernel
theorem d_MO_tryPicture_25 : decode b_MO_tryPicture 25 = .ok (.if_icmp .ne 7, 3) := by decide +kernel
theorem d_MO_tryPicture_28 : decode b_MO_tryPicture 28 = .ok (.iconst 1, 1) := by decide +kernel
theorem d_MO_tryPicture_29 : decode b_MO_tryPicture 29 = .ok (.goto 4, 3) := by decide +kernel
theorem d_MO_tryPicture_32 : decode b_MO_tryPicture 32 = .ok (.iconst 0, 1) := by decide +kernel
theorem d_MO_tryPicture_33 : decode b_MO_tryPicture 33 = .ok (.istore_n 3, 1) := by decide +kernel
theorem d_MO_tryPicture_34 : decode b_MO_tryPicture 34 = .ok (.iconst 0, 1) := by decide +kernel
theorem d_MO_tryPicture_35 : decode b_MO_tryPicture 35 = .ok (.istore 4, 2) := by decide +kernel
theorem d_MO_tryPicture_37 : decode b_MO_tryPicture 37 = .ok (.iload 4, 2) := by decide +kernel
theorem d_MO_tryPicture_39 : decode b_MO_tryPicture 39 = .ok (.iconst 5, 1) := by decide +kernel
theorem d_MO_tryPicture_40 : decode b_MO_tryPicture 40 = .ok (.if_icmp .ge 28, 3) := by decide +kernel
theorem d_MO_tryPicture_43 : decode b_MO_tryPicture 43 = .ok (.iload_n 3, 1) := by decide +kernel
theorem d_MO_tryPicture_44 : decode b_MO_tryPicture 44 = .ok (.ifCond .eq 24, 3) := by decide +kernel
theorem d_MO_tryPicture_47 : decode b_MO_tryPicture 47 = .ok (.aload_n 0, 1) := by decide +kernel
theorem d_MO_tryPicture_48 : decode b_MO_tryPicture 48 = .ok (.iload 4, 2) := by decide +kernel
theorem d_MO_tryPicture_50 : decode b_MO_tryPicture 50 = .ok (.iload_n 2, 1) := by decide +kernel
theorem d_MO_tryPicture_51 : decode b_MO_tryPicture 51 = .ok (.iconst 4, 1) := by decide +kernel
theorem d_MO_tryPicture_52 : decode b_MO_tryPicture 52 = .ok (.iload 4, 2) := by decide +kernel
theorem d_MO_tryPicture_54 : decode b_MO_tryPicture 54 = .ok (.isub, 1) := by decide +kernel
theorem d_MO_tryPicture_55 : decode b_MO_tryPicture 55 = .ok (.ishr, 1) := by decide +kernel
theorem d_MO_tryPicture_56 : decode b_MO_tryPicture 56 = .ok (.iconst 1, 1) := by decide +kernel
theorem d_MO_tryPicture_57 : decode b_MO_tryPicture 57 = .ok (.iand, 1) := by decide +kernel
theorem d_MO_tryPicture_58 : decode b_MO_tryPicture 58 = .ok (.invokevirtual 153, 3) := by decide +kernel
theorem d_MO_tryPicture_61 : decode b_MO_tryPicture 61 = .ok (.istore_n 3, 1) := by decide +kernel
theorem d_MO_tryPicture_62 : decode b_MO_tryPicture 62 = .ok (.iinc 4 1, 3) := by decide +kernel
theorem d_MO_tryPicture_65 : decode b_MO_tryPicture 65 = .ok (.goto (-28), 3) := by decide +kernel
theorem d_MO_tryPicture_68 : decode b_MO_tryPicture 68 = .ok (.iconst 0, 1) := by decide +kernel
theorem d_MO_tryPicture_69 : decode b_MO_tryPicture 69 = .ok (.istore 4, 2) := by decide +kernel
theorem d_MO_tryPicture_71 : decode b_MO_tryPicture 71 = .ok (.iload 4, 2) := by decide +kernel
theorem d_MO_tryPicture_73 : decode b_MO_tryPicture 73 = .ok (.iconst 5, 1) := by decide +kernel
theorem d_MO_tryPicture_74 : decode b_MO_tryPicture 74 = .ok (.if_icmp .ge 33, 3) := by decide +kernel
theorem d_MO_tryPicture_77 : decode b_MO_tryPicture 77 = .ok (.iload_n 3, 1) := by decide +kernel
theorem d_MO_tryPicture_78 : decode b_MO_tryPicture 78 = .ok (.ifCond .eq 29, 3) := by decide +kernel
theorem d_MO_tryPicture_81 : decode b_MO_tryPicture 81 = .ok (.aload_n 0, 1) := by decide +kernel
theorem d_MO_tryPicture_82 : decode b_MO_tryPicture 82 = .ok (.getfield 47, 3) := by decide +kernel
theorem d_MO_tryPicture_85 : decode b_MO_tryPicture 85 = .ok (.iload 4, 2) := by decide +kernel
theorem d_MO_tryPicture_87 : decode b_MO_tryPicture 87 = .ok (.dup2, 1) := by decide +kernel
theorem d_MO_tryPicture_88 : decode b_MO_tryPicture 88 = .ok (.iaload, 1) := by decide +kernel
theorem d_MO_tryPicture_89 : decode b_MO_tryPicture 89 = .ok (.iconst 1, 1) := by decide +kernel
theorem d_MO_tryPicture_90 : decode b_MO_tryPicture 90 = .ok (.iload_n 2, 1) := by decide +kernel
theorem d_MO_tryPicture_91 : decode b_MO_tryPicture 91 = .ok (.iconst 4, 1) := by decide +kernel
theorem d_MO_tryPicture_92 : decode b_MO_tryPicture 92 = .ok (.iload 4, 2) := by decide +kernel
theorem d_MO_tryPicture_94 : decode b_MO_tryPicture 94 = .ok (.isub, 1) := by decide +kernel
theorem d_MO_tryPicture_95 : decode b_MO_tryPicture 95 = .ok (.ishr, 1) := by decide +kernel
theorem d_MO_tryPicture_96 : decode b_MO_tryPicture 96 = .ok (.iconst 1, 1) := by decide +kernel
theorem d_MO_tryPicture_97 : decode b_MO_tryPicture 97 = .ok (.iand, 1) := by decide +kernel
theorem d_MO_tryPicture_98 : decode b_MO_tryPicture 98 = .ok (.ishl, 1) := by decide +kernel
theorem d_MO_tryPicture_99 : decode b_MO_tryPicture 99 = .ok (.ior, 1) := by decide +kernel
theorem d_MO_tryPicture_100 : decode b_MO_tryPicture 100 = .ok (.iastore, 1) := by decide +kernel
theorem d_MO_tryPicture_101 : decode b_MO_tryPicture 101 = .ok (.iinc 4 1, 3) := by decide +kernel
theorem d_MO_tryPicture_104 : decode b_MO_tryPicture 104 = .ok (.goto (-33), 3) := by decide +kernel
theorem d_MO_tryPicture_107 : decode b_MO_tryPicture 107 = .ok (.iinc 2 1, 3) := by decide +kernel
theorem d_MO_tryPicture_110 : decode b_MO_tryPicture 110 = .ok (.goto (-103), 3) := by decide +kernel
theorem d_MO_tryPicture_113 : decode b_MO_tryPicture 113 = .ok (.aload_n 0, 1) := by decide +kernel
theorem d_MO_tryPicture_114 : decode b_MO_tryPicture 114 = .ok (.invokevirtual 156, 3) := by decide +kernel
theorem d_MO_tryPicture_117 : decode b_MO_tryPicture 117 = .ok (.return_, 1) := by decide +kernel
theorem d_MO_goes_0 : decode b_MO_goes 0 = .ok (.iload_n 1, 1) := by decide +kernel
theorem d_MO_goes_1 : decode b_MO_goes 1 = .ok (.aload_n 0, 1) := by decide +kernel
theorem d_MO_goes_2 : decode b_MO_goes 2 = .ok (.getfield 141, 3) := by decide +kernel
theorem d_MO_goes_5 : decode b_MO_goes 5 = .ok (.if_icmp .ge 32, 3) := by decide +kernel
theorem d_MO_goes_8 : decode b_MO_goes 8 = .ok (.iload_n 2, 1) := by decide +kernel
theorem d_MO_goes_9 : decode b_MO_goes 9 = .ok (.ifCond .le 24, 3) := by decide +kernel
theorem d_MO_goes_12 : decode b_MO_goes 12 = .ok (.aload_n 0, 1) := by decide +kernel
theorem d_MO_goes_13 : decode b_MO_goes 13 = .ok (.iload_n 1, 1) := by decide +kernel
theorem d_MO_goes_14 : decode b_MO_goes 14 = .ok (.iload_n 2, 1) := by decide +kernel
theorem d_MO_goes_15 : decode b_MO_goes 15 = .ok (.invokevirtual 153, 3) := by decide +kernel
theorem d_MO_goes_18 : decode b_MO_goes 18 = .ok (.ifCond .eq 15, 3) := by decide +kernel
theorem d_MO_goes_21 : decode b_MO_goes 21 = .ok (.iload_n 3, 1) := by decide +kernel
theorem d_MO_goes_22 : decode b_MO_goes 22 = .ok (.iload_n 2, 1) := by decide +kernel
theorem d_MO_goes_23 : decode b_MO_goes 23 = .ok (.ishr, 1) := by decide +kernel
theorem d_MO_goes_24 : decode b_MO_goes 24 = .ok (.iconst 1, 1) := by decide +kernel
theorem d_MO_goes_25 : decode b_MO_goes 25 = .ok (.iand, 1) := by decide +kernel
theorem d_MO_goes_26 : decode b_MO_goes 26 = .ok (.ifCond .ne 7, 3) := by decide +kernel
theorem d_MO_goes_29 : decode b_MO_goes 29 = .ok (.iconst 1, 1) := by decide +kernel
theorem d_MO_goes_30 : decode b_MO_goes 30 = .ok (.goto 16, 3) := by decide +kernel
theorem d_MO_goes_33 : decode b_MO_goes 33 = .ok (.iconst 0, 1) := by decide +kernel
theorem d_MO_goes_34 : decode b_MO_goes 34 = .ok (.goto 12, 3) := by decide +kernel
theorem d_MO_goes_37 : decode b_MO_goes 37 = .ok (.iload_n 2, 1) := by decide +kernel
theorem d_MO_goes_38 : decode b_MO_goes 38 = .ok (.ifCond .ne 7, 3) := by decide +kernel
theorem d_MO_goes_41 : decode b_MO_goes 41 = .ok (.iconst 1, 1) := by decide +kernel
theorem d_MO_goes_42 : decode b_MO_goes 42 = .ok (.goto 4, 3) := by decide +kernel
theorem d_MO_goes_45 : decode b_MO_goes 45 = .ok (.iconst 0, 1) := by decide +kernel
theorem d_MO_goes_46 : decode b_MO_goes 46 = .ok (.ireturn, 1) := by decide +kernel
theorem d_MO_note_0 : decode b_MO_note 0 = .ok (.iload_n 1, 1) := by decide +kernel
theorem d_MO_note_1 : decode b_MO_note 1 = .ok (.iload_n 2, 1) := by decide +kernel
theorem d_MO_note_2 : decode b_MO_note 2 = .ok (.ifCond .le 7, 3) := by decide +kernel
theorem d_MO_note_5 : decode b_MO_note 5 = .ok (.iload_n 2, 1) := by decide +kernel
theorem d_MO_note_6 : decode b_MO_note 6 = .ok (.goto 4, 3) := by decide +kernel
theorem d_MO_note_9 : decode b_MO_note 9 = .ok (.iconst 1, 1) := by decide +kernel
theorem d_MO_note_10 : decode b_MO_note 10 = .ok (.imul, 1) := by decide +kernel
theorem d_MO_note_11 : decode b_MO_note 11 = .ok (.iload_n 3, 1) := by decide +kernel
theorem d_MO_note_12 : decode b_MO_note 12 = .ok (.ifCond .le 7, 3) := by decide +kernel
theorem d_MO_note_15 : decode b_MO_note 15 = .ok (.iload_n 3, 1) := by decide +kernel
theorem d_MO_note_16 : decode b_MO_note 16 = .ok (.goto 4, 3) := by decide +kernel
theorem d_MO_note_19 : decode b_MO_note 19 = .ok (.iconst 1, 1) := by decide +kernel
theorem d_MO_note_20 : decode b_MO_note 20 = .ok (.imul, 1) := by decide +kernel
theorem d_MO_note_21 : decode b_MO_note 21 = .ok (.iload 4, 2) := by decide +kernel
theorem d_MO_note_23 : decode b_MO_note 23 = .ok (.ifCond .le 8, 3) := by decide +kernel
theorem d_MO_note_26 : decode b_MO_note 26 = .ok (.iload 4, 2) := by decide +kernel
theorem d_MO_note_28 : decode b_MO_note 28 = .ok (.goto 4, 3) := by decide +kernel
theorem d_MO_note_31 : decode b_MO_note 31 = .ok (.iconst 1, 1) := by decide +kernel
theorem d_MO_note_32 : decode b_MO_note 32 = .ok (.imul, 1) := by decide +kernel
theorem d_MO_note_33 : decode b_MO_note 33 = .ok (.istore 7, 2) := by decide +kernel
theorem d_MO_note_35 : decode b_MO_note 35 = .ok (.iload 5, 2) := by decide +kernel
theorem d_MO_note_37 : decode b_MO_note 37 = .ok (.iconst 1, 1) := by decide +kernel
theorem d_MO_note_38 : decode b_MO_note 38 = .ok (.if_icmp .ne 16, 3) := by decide +kernel
theorem d_MO_note_41 : decode b_MO_note 41 = .ok (.iload_n 1, 1) := by decide +kernel
theorem d_MO_note_42 : decode b_MO_note 42 = .ok (.iload_n 2, 1) := by decide +kernel
theorem d_MO_note_43 : decode b_MO_note 43 = .ok (.iadd, 1) := by decide +kernel
theorem d_MO_note_44 : decode b_MO_note 44 = .ok (.iload_n 3, 1) := by decide +kernel
theorem d_MO_note_45 : decode b_MO_note 45 = .ok (.iadd, 1) := by decide +kernel
theorem d_MO_note_46 : decode b_MO_note 46 = .ok (.iload 4, 2) := by decide +kernel
theorem d_MO_note_48 : decode b_MO_note 48 = .ok (.iadd, 1) := by decide +kernel
theorem d_MO_note_49 : decode b_MO_note 49 = .ok (.iload 6, 2) := by decide +kernel
theorem d_MO_note_51 : decode b_MO_note 51 = .ok (.if_icmp .ne 16, 3) := by decide +kernel
theorem d_MO_note_54 : decode b_MO_note 54 = .ok (.iload 5, 2) := by decide +kernel
theorem d_MO_note_56 : decode b_MO_note 56 = .ok (.iconst 2, 1) := by decide +kernel
theorem d_MO_note_57 : decode b_MO_note 57 = .ok (.if_icmp .ne 11, 3) := by decide +kernel
theorem d_MO_note_60 : decode b_MO_note 60 = .ok (.iload 7, 2) := by decide +kernel
theorem d_MO_note_62 : decode b_MO_note 62 = .ok (.iload 6, 2) := by decide +kernel
theorem d_MO_note_64 : decode b_MO_note 64 = .ok (.if_icmp .eq 4, 3) := by decide +kernel
theorem d_MO_note_67 : decode b_MO_note 67 = .ok (.return_, 1) := by decide +kernel
theorem d_MO_note_68 : decode b_MO_note 68 = .ok (.aload_n 0, 1) := by decide +kernel
theorem d_MO_note_69 : decode b_MO_note 69 = .ok (.getfield 47, 3) := by decide +kernel
theorem d_MO_note_72 : decode b_MO_note 72 = .ok (.iconst 0, 1) := by decide +kernel
theorem d_MO_note_73 : decode b_MO_note 73 = .ok (.dup2, 1) := by decide +kernel
theorem d_MO_note_74 : decode b_MO_note 74 = .ok (.iaload, 1) := by decide +kernel
theorem d_MO_note_75 : decode b_MO_note 75 = .ok (.iconst 1, 1) := by decide +kernel
theorem d_MO_note_76 : decode b_MO_note 76 = .ok (.iload_n 1, 1) := by decide +kernel
theorem d_MO_note_77 : decode b_MO_note 77 = .ok (.ishl, 1) := by decide +kernel
theorem d_MO_note_78 : decode b_MO_note 78 = .ok (.ior, 1) := by decide +kernel
theorem d_MO_note_79 : decode b_MO_note 79 = .ok (.iastore, 1) := by decide +kernel
theorem d_MO_note_80 : decode b_MO_note 80 = .ok (.aload_n 0, 1) := by decide +kernel
theorem d_MO_note_81 : decode b_MO_note 81 = .ok (.getfield 47, 3) := by decide +kernel
theorem d_MO_note_84 : decode b_MO_note 84 = .ok (.iconst 1, 1) := by decide +kernel
theorem d_MO_note_85 : decode b_MO_note 85 = .ok (.dup2, 1) := by decide +kernel
theorem d_MO_note_86 : decode b_MO_note 86 = .ok (.iaload, 1) := by decide +kernel
theorem d_MO_note_87 : decode b_MO_note 87 = .ok (.iconst 1, 1) := by decide +kernel
theorem d_MO_note_88 : decode b_MO_note 88 = .ok (.iload_n 2, 1) := by decide +kernel
theorem d_MO_note_89 : decode b_MO_note 89 = .ok (.ishl, 1) := by decide +kernel
theorem d_MO_note_90 : decode b_MO_note 90 = .ok (.ior, 1) := by decide +kernel
theorem d_MO_note_91 : decode b_MO_note 91 = .ok (.iastore, 1) := by decide +kernel
theorem d_MO_note_92 : decode b_MO_note 92 = .ok (.aload_n 0, 1) := by decide +kernel
theorem d_MO_note_93 : decode b_MO_note 93 = .ok (.getfield 47, 3) := by decide +kernel
theorem d_MO_note_96 : decode b_MO_note 96 = .ok (.iconst 2, 1) := by decide +kernel
theorem d_MO_note_97 : decode b_MO_note 97 = .ok (.dup2, 1) := by decide +kernel
theorem d_MO_note_98 : decode b_MO_note 98 = .ok (.iaload, 1) := by decide +kernel
theorem d_MO_note_99 : decode b_MO_note 99 = .ok (.iconst 1, 1) := by decide +kernel
theorem d_MO_note_100 : decode b_MO_note 100 = .ok (.iload_n 3, 1) := by decide +kernel
theorem d_MO_note_101 : decode b_MO_note 101 = .ok (.ishl, 1) := by decide +kernel
theorem d_MO_note_102 : decode b_MO_note 102 = .ok (.ior, 1) := by decide +kernel
theorem d_MO_note_103 : decode b_MO_note 103 = .ok (.iastore, 1) := by decide +kernel
theorem d_MO_note_104 : decode b_MO_note 104 = .ok (.aload_n 0, 1) := by decide +kernel
theorem d_MO_note_105 : decode b_MO_note 105 = .ok (.getfield 47, 3) := by decide +kernel
theorem d_MO_note_108 : decode b_MO_note 108 = .ok (.iconst 3, 1) := by decide +kernel
theorem d_MO_note_109 : decode b_MO_note 109 = .ok (.dup2, 1) := by decide +kernel
theorem d_MO_note_110 : decode b_MO_note 110 = .ok (.iaload, 1) := by decide +kernel
theorem d_MO_note_111 : decode b_MO_note 111 = .ok (.iconst 1, 1) := by decide +kernel
theorem d_MO_note_112 : decode b_MO_note 112 = .ok (.iload 4, 2) := by decide +kernel
theorem d_MO_note_114 : decode b_MO_note 114 = .ok (.ishl, 1) := by decide +kernel
theorem d_MO_note_115 : decode b_MO_note 115 = .ok (.ior, 1) := by decide +kernel
theorem d_MO_note_116 : decode b_MO_note 116 = .ok (.iastore, 1) := by decide +kernel
theorem d_MO_note_117 : decode b_MO_note 117 = .ok (.return_, 1) := by decide +kernel
theorem d_MO_trySquare_0 : decode b_MO_trySquare 0 = .ok (.iconst 1, 1) := by decide +kernel
theorem d_MO_trySquare_1 : decode b_MO_trySquare 1 = .ok (.istore_n 3, 1) := by decide +kernel
theorem d_MO_trySquare_2 : decode b_MO_trySquare 2 = .ok (.iload_n 3, 1) := by decide +kernel
theorem d_MO_trySquare_3 : decode b_MO_trySquare 3 = .ok (.iconst 5, 1) := by decide +kernel
theorem d_MO_trySquare_4 : decode b_MO_trySquare 4 = .ok (.if_icmp .ge 139, 3) := by decide +kernel
theorem d_MO_trySquare_7 : decode b_MO_trySquare 7 = .ok (.aload_n 0, 1) := by decide +kernel
theorem d_MO_trySquare_8 : decode b_MO_trySquare 8 = .ok (.iconst 0, 1) := by decide +kernel
theorem d_MO_trySquare_9 : decode b_MO_trySquare 9 = .ok (.iload_n 3, 1) := by decide +kernel
theorem d_MO_trySquare_10 : decode b_MO_trySquare 10 = .ok (.invokevirtual 153, 3) := by decide +kernel
theorem d_MO_trySquare_13 : decode b_MO_trySquare 13 = .ok (.ifCond .ne 6, 3) := by decide +kernel
theorem d_MO_trySquare_16 : decode b_MO_trySquare 16 = .ok (.goto 121, 3) := by decide +kernel
theorem d_MO_trySquare_19 : decode b_MO_trySquare 19 = .ok (.iconst 0, 1) := by decide +kernel
theorem d_MO_trySquare_20 : decode b_MO_trySquare 20 = .ok (.istore 4, 2) := by decide +kernel
theorem d_MO_trySquare_22 : decode b_MO_trySquare 22 = .ok (.iload 4, 2) := by decide +kernel
theorem d_MO_trySquare_24 : decode b_MO_trySquare 24 = .ok (.iconst 5, 1) := by decide +kernel
theorem d_MO_trySquare_25 : decode b_MO_trySquare 25 = .ok (.if_icmp .ge 112, 3) := by decide +kernel
theorem d_MO_trySquare_28 : decode b_MO_trySquare 28 = .ok (.aload_n 0, 1) := by decide +kernel
theorem d_MO_trySquare_29 : decode b_MO_trySquare 29 = .ok (.iconst 1, 1) := by decide +kernel
theorem d_MO_trySquare_30 : decode b_MO_trySquare 30 = .ok (.iload 4, 2) := by decide +kernel
theorem d_MO_trySquare_32 : decode b_MO_trySquare 32 = .ok (.iconst 1, 1) := by decide +kernel
theorem d_MO_trySquare_33 : decode b_MO_trySquare 33 = .ok (.iload_n 3, 1) := by decide +kernel
theorem d_MO_trySquare_34 : decode b_MO_trySquare 34 = .ok (.ishl, 1) := by decide +kernel
theorem d_MO_trySquare_35 : decode b_MO_trySquare 35 = .ok (.invokevirtual 159, 3) := by decide +kernel
theorem d_MO_trySquare_38 : decode b_MO_trySquare 38 = .ok (.ifCond .ne 6, 3) := by decide +kernel
theorem d_MO_trySquare_41 : decode b_MO_trySquare 41 = .ok (.goto 90, 3) := by decide +kernel
theorem d_MO_trySquare_44 : decode b_MO_trySquare 44 = .ok (.iconst 0, 1) := by decide +kernel
theorem d_MO_trySquare_45 : decode b_MO_trySquare 45 = .ok (.istore 5, 2) := by decide +kernel
theorem d_MO_trySquare_47 : decode b_MO_trySquare 47 = .ok (.iload 5, 2) := by decide +kernel
theorem d_MO_trySquare_49 : decode b_MO_trySquare 49 = .ok (.iconst 5, 1) := by decide +kernel
theorem d_MO_trySquare_50 : decode b_MO_trySquare 50 = .ok (.if_icmp .ge 81, 3) := by decide +kernel
theorem d_MO_trySquare_53 : decode b_MO_trySquare 53 = .ok (.aload_n 0, 1) := by decide +kernel
theorem d_MO_trySquare_54 : decode b_MO_trySquare 54 = .ok (.iconst 2, 1) := by decide +kernel
theorem d_MO_trySquare_55 : decode b_MO_trySquare 55 = .ok (.iload 5, 2) := by decide +kernel
theorem d_MO_trySquare_57 : decode b_MO_trySquare 57 = .ok (.iconst 1, 1) := by decide +kernel
theorem d_MO_trySquare_58 : decode b_MO_trySquare 58 = .ok (.iload_n 3, 1) := by decide +kernel
theorem d_MO_trySquare_59 : decode b_MO_trySquare 59 = .ok (.ishl, 1) := by decide +kernel
theorem d_MO_trySquare_60 : decode b_MO_trySquare 60 = .ok (.iconst 1, 1) := by decide +kernel
theorem d_MO_trySquare_61 : decode b_MO_trySquare 61 = .ok (.iload 4, 2) := by decide +kernel
theorem d_MO_trySquare_63 : decode b_MO_trySquare 63 = .ok (.ishl, 1) := by decide +kernel
theorem d_MO_trySquare_64 : decode b_MO_trySquare 64 = .ok (.ior, 1) := by decide +kernel
theorem d_MO_trySquare_65 : decode b_MO_trySquare 65 = .ok (.invokevirtual 159, 3) := by decide +kernel
theorem d_MO_trySquare_68 : decode b_MO_trySquare 68 = .ok (.ifCond .ne 6, 3) := by decide +kernel
theorem d_MO_trySquare_71 : decode b_MO_trySquare 71 = .ok (.goto 54, 3) := by decide +kernel
theorem d_MO_trySquare_74 : decode b_MO_trySquare 74 = .ok (.iconst 0, 1) := by decide +kernel
theorem d_MO_trySquare_75 : decode b_MO_trySquare 75 = .ok (.istore 6, 2) := by decide +kernel
theorem d_MO_trySquare_77 : decode b_MO_trySquare 77 = .ok (.iload 6, 2) := by decide +kernel
theorem d_MO_trySquare_79 : decode b_MO_trySquare 79 = .ok (.iconst 5, 1) := by decide +kernel
theorem d_MO_trySquare_80 : decode b_MO_trySquare 80 = .ok (.if_icmp .ge 45, 3) := by decide +kernel
theorem d_MO_trySquare_83 : decode b_MO_trySquare 83 = .ok (.aload_n 0, 1) := by decide +kernel
theorem d_MO_trySquare_84 : decode b_MO_trySquare 84 = .ok (.iconst 3, 1) := by decide +kernel
theorem d_MO_trySquare_85 : decode b_MO_trySquare 85 = .ok (.iload 6, 2) := by decide +kernel
theorem d_MO_trySquare_87 : decode b_MO_trySquare 87 = .ok (.iconst 1, 1) := by decide +kernel
theorem d_MO_trySquare_88 : decode b_MO_trySquare 88 = .ok (.iload_n 3, 1) := by decide +kernel
theorem d_MO_trySquare_89 : decode b_MO_trySquare 89 = .ok (.ishl, 1) := by decide +kernel
theorem d_MO_trySquare_90 : decode b_MO_trySquare 90 = .ok (.iconst 1, 1) := by decide +kernel
theorem d_MO_trySquare_91 : decode b_MO_trySquare 91 = .ok (.iload 4, 2) := by decide +kernel
theorem d_MO_trySquare_93 : decode b_MO_trySquare 93 = .ok (.ishl, 1) := by decide +kernel
theorem d_MO_trySquare_94 : decode b_MO_trySquare 94 = .ok (.ior, 1) := by decide +kernel
theorem d_MO_trySquare_95 : decode b_MO_trySquare 95 = .ok (.iconst 1, 1) := by decide +kernel
theorem d_MO_trySquare_96 : decode b_MO_trySquare 96 = .ok (.iload 5, 2) := by decide +kernel
theorem d_MO_trySquare_98 : decode b_MO_trySquare 98 = .ok (.ishl, 1) := by decide +kernel
theorem d_MO_trySquare_99 : decode b_MO_trySquare 99 = .ok (.ior, 1) := by decide +kernel
theorem d_MO_trySquare_100 : decode b_MO_trySquare 100 = .ok (.invokevirtual 159, 3) := by decide +kernel
theorem d_MO_trySquare_103 : decode b_MO_trySquare 103 = .ok (.ifCond .eq 16, 3) := by decide +kernel
theorem d_MO_trySquare_106 : decode b_MO_trySquare 106 = .ok (.aload_n 0, 1) := by decide +kernel
theorem d_MO_trySquare_107 : decode b_MO_trySquare 107 = .ok (.iload_n 3, 1) := by decide +kernel
theorem d_MO_trySquare_108 : decode b_MO_trySquare 108 = .ok (.iload 4, 2) := by decide +kernel
theorem d_MO_trySquare_110 : decode b_MO_trySquare 110 = .ok (.iload 5, 2) := by decide +kernel
theorem d_MO_trySquare_112 : decode b_MO_trySquare 112 = .ok (.iload 6, 2) := by decide +kernel
theorem d_MO_trySquare_114 : decode b_MO_trySquare 114 = .ok (.iload_n 1, 1) := by decide +kernel
theorem d_MO_trySquare_115 : decode b_MO_trySquare 115 = .ok (.iload_n 2, 1) := by decide +kernel
theorem d_MO_trySquare_116 : decode b_MO_trySquare 116 = .ok (.invokevirtual 163, 3) := by decide +kernel
theorem d_MO_trySquare_119 : decode b_MO_trySquare 119 = .ok (.iinc 6 1, 3) := by decide +kernel
theorem d_MO_trySquare_122 : decode b_MO_trySquare 122 = .ok (.goto (-45), 3) := by decide +kernel
theorem d_MO_trySquare_125 : decode b_MO_trySquare 125 = .ok (.iinc 5 1, 3) := by decide +kernel
theorem d_MO_trySquare_128 : decode b_MO_trySquare 128 = .ok (.goto (-81), 3) := by decide +kernel
theorem d_MO_trySquare_131 : decode b_MO_trySquare 131 = .ok (.iinc 4 1, 3) := by decide +kernel
theorem d_MO_trySquare_134 : decode b_MO_trySquare 134 = .ok (.goto (-112), 3) := by decide +kernel
theorem d_MO_trySquare_137 : decode b_MO_trySquare 137 = .ok (.iinc 3 1, 3) := by decide +kernel
theorem d_MO_trySquare_140 : decode b_MO_trySquare 140 = .ok (.goto (-138), 3) := by decide +kernel
theorem d_MO_trySquare_143 : decode b_MO_trySquare 143 = .ok (.aload_n 0, 1) := by decide +kernel
theorem d_MO_trySquare_144 : decode b_MO_trySquare 144 = .ok (.invokevirtual 156, 3) := by decide +kernel
theorem d_MO_trySquare_147 : decode b_MO_trySquare 147 = .ok (.return_, 1) := by decide +kernel
theorem d_MO_tryStar_0 : decode b_MO_tryStar 0 = .ok (.iconst 0, 1) := by decide +kernel
theorem d_MO_tryStar_1 : decode b_MO_tryStar 1 = .ok (.istore_n 1, 1) := by decide +kernel
theorem d_MO_tryStar_2 : decode b_MO_tryStar 2 = .ok (.iconst 0, 1) := by decide +kernel
theorem d_MO_tryStar_3 : decode b_MO_tryStar 3 = .ok (.istore_n 2, 1) := by decide +kernel
theorem d_MO_tryStar_4 : decode b_MO_tryStar 4 = .ok (.iconst (-1), 1) := by decide +kernel
theorem d_MO_tryStar_5 : decode b_MO_tryStar 5 = .ok (.istore_n 3, 1) := by decide +kernel
theorem d_MO_tryStar_6 : decode b_MO_tryStar 6 = .ok (.iconst (-1), 1) := by decide +kernel
theorem d_MO_tryStar_7 : decode b_MO_tryStar 7 = .ok (.istore 4, 2) := by decide +kernel
theorem d_MO_tryStar_9 : decode b_MO_tryStar 9 = .ok (.iconst 0, 1) := by decide +kernel
theorem d_MO_tryStar_10 : decode b_MO_tryStar 10 = .ok (.istore 5, 2) := by decide +kernel
theorem d_MO_tryStar_12 : decode b_MO_tryStar 12 = .ok (.iload 5, 2) := by decide +kernel
theorem d_MO_tryStar_14 : decode b_MO_tryStar 14 = .ok (.aload_n 0, 1) := by decide +kernel
theorem d_MO_tryStar_15 : decode b_MO_tryStar 15 = .ok (.getfield 141, 3) := by decide +kernel
theorem d_MO_tryStar_18 : decode b_MO_tryStar 18 = .ok (.if_icmp .ge 58, 3) := by decide +kernel
theorem d_MO_tryStar_21 : decode b_MO_tryStar 21 = .ok (.iload_n 2, 1) := by decide +kernel
theorem d_MO_tryStar_22 : decode b_MO_tryStar 22 = .ok (.aload_n 0, 1) := by decide +kernel
theorem d_MO_tryStar_23 : decode b_MO_tryStar 23 = .ok (.iload 5, 2) := by decide +kernel
theorem d_MO_tryStar_25 : decode b_MO_tryStar 25 = .ok (.iconst 1, 1) := by decide +kernel
theorem d_MO_tryStar_26 : decode b_MO_tryStar 26 = .ok (.invokevirtual 153, 3) := by decide +kernel
theorem d_MO_tryStar_29 : decode b_MO_tryStar 29 = .ok (.ifCond .eq 7, 3) := by decide +kernel
theorem d_MO_tryStar_32 : decode b_MO_tryStar 32 = .ok (.iconst 1, 1) := by decide +kernel
theorem d_MO_tryStar_33 : decode b_MO_tryStar 33 = .ok (.goto 4, 3) := by decide +kernel
theorem d_MO_tryStar_36 : decode b_MO_tryStar 36 = .ok (.iconst 0, 1) := by decide +kernel
theorem d_MO_tryStar_37 : decode b_MO_tryStar 37 = .ok (.iadd, 1) := by decide +kernel
theorem d_MO_tryStar_38 : decode b_MO_tryStar 38 = .ok (.istore_n 2, 1) := by decide +kernel
theorem d_MO_tryStar_39 : decode b_MO_tryStar 39 = .ok (.aload_n 0, 1) := by decide +kernel
theorem d_MO_tryStar_40 : decode b_MO_tryStar 40 = .ok (.iload 5, 2) := by decide +kernel
theorem d_MO_tryStar_42 : decode b_MO_tryStar 42 = .ok (.iconst 0, 1) := by decide +kernel
theorem d_MO_tryStar_43 : decode b_MO_tryStar 43 = .ok (.invokevirtual 153, 3) := by decide +kernel
theorem d_MO_tryStar_46 : decode b_MO_tryStar 46 = .ok (.ifCond .eq 6, 3) := by decide +kernel
theorem d_MO_tryStar_49 : decode b_MO_tryStar 49 = .ok (.goto 21, 3) := by decide +kernel
theorem d_MO_tryStar_52 : decode b_MO_tryStar 52 = .ok (.iinc 1 1, 3) := by decide +kernel
theorem d_MO_tryStar_55 : decode b_MO_tryStar 55 = .ok (.iload_n 3, 1) := by decide +kernel
theorem d_MO_tryStar_56 : decode b_MO_tryStar 56 = .ok (.ifCond .ge 8, 3) := by decide +kernel
theorem d_MO_tryStar_59 : decode b_MO_tryStar 59 = .ok (.iload 5, 2) := by decide +kernel
theorem d_MO_tryStar_61 : decode b_MO_tryStar 61 = .ok (.goto 4, 3) := by decide +kernel
theorem d_MO_tryStar_64 : decode b_MO_tryStar 64 = .ok (.iload_n 3, 1) := by decide +kernel
theorem d_MO_tryStar_65 : decode b_MO_tryStar 65 = .ok (.istore_n 3, 1) := by decide +kernel
theorem d_MO_tryStar_66 : decode b_MO_tryStar 66 = .ok (.iload 5, 2) := by decide +kernel
theorem d_MO_tryStar_68 : decode b_MO_tryStar 68 = .ok (.istore 4, 2) := by decide +kernel
theorem d_MO_tryStar_70 : decode b_MO_tryStar 70 = .ok (.iinc 5 1, 3) := by decide +kernel
theorem d_MO_tryStar_73 : decode b_MO_tryStar 73 = .ok (.goto (-61), 3) := by decide +kernel
theorem d_MO_tryStar_76 : decode b_MO_tryStar 76 = .ok (.iconst 0, 1) := by decide +kernel
theorem d_MO_tryStar_77 : decode b_MO_tryStar 77 = .ok (.istore 5, 2) := by decide +kernel
theorem d_MO_tryStar_79 : decode b_MO_tryStar 79 = .ok (.iload 5, 2) := by decide +kernel
theorem d_MO_tryStar_81 : decode b_MO_tryStar 81 = .ok (.aload_n 0, 1) := by decide +kernel
theorem d_MO_tryStar_82 : decode b_MO_tryStar 82 = .ok (.getfield 141, 3) := by decide +kernel
theorem d_MO_tryStar_85 : decode b_MO_tryStar 85 = .ok (.if_icmp .ge 124, 3) := by decide +kernel
theorem d_MO_tryStar_88 : decode b_MO_tryStar 88 = .ok (.iload_n 1, 1) := by decide +kernel
theorem d_MO_tryStar_89 : decode b_MO_tryStar 89 = .ok (.aload_n 0, 1) := by decide +kernel
theorem d_MO_tryStar_90 : decode b_MO_tryStar 90 = .ok (.iload 5, 2) := by decide +kernel
theorem d_MO_tryStar_92 : decode b_MO_tryStar 92 = .ok (.iconst 0, 1) := by decide +kernel
theorem d_MO_tryStar_93 : decode b_MO_tryStar 93 = .ok (.invokevirtual 153, 3) := by decide +kernel
theorem d_MO_tryStar_96 : decode b_MO_tryStar 96 = .ok (.ifCond .eq 7, 3) := by decide +kernel
theorem d_MO_tryStar_99 : decode b_MO_tryStar 99 = .ok (.iconst 0, 1) := by decide +kernel
theorem d_MO_tryStar_100 : decode b_MO_tryStar 100 = .ok (.goto 4, 3) := by decide +kernel
theorem d_MO_tryStar_103 : decode b_MO_tryStar 103 = .ok (.iconst 1, 1) := by decide +kernel
theorem d_MO_tryStar_104 : decode b_MO_tryStar 104 = .ok (.isub, 1) := by decide +kernel
theorem d_MO_tryStar_105 : decode b_MO_tryStar 105 = .ok (.istore 6, 2) := by decide +kernel
theorem d_MO_tryStar_107 : decode b_MO_tryStar 107 = .ok (.iload_n 2, 1) := by decide +kernel
theorem d_MO_tryStar_108 : decode b_MO_tryStar 108 = .ok (.aload_n 0, 1) := by decide +kernel
theorem d_MO_tryStar_109 : decode b_MO_tryStar 109 = .ok (.iload 5, 2) := by decide +kernel
theorem d_MO_tryStar_111 : decode b_MO_tryStar 111 = .ok (.iconst 1, 1) := by decide +kernel
theorem d_MO_tryStar_112 : decode b_MO_tryStar 112 = .ok (.invokevirtual 153, 3) := by decide +kernel
theorem d_MO_tryStar_115 : decode b_MO_tryStar 115 = .ok (.ifCond .eq 7, 3) := by decide +kernel
theorem d_MO_tryStar_118 : decode b_MO_tryStar 118 = .ok (.iconst 1, 1) := by decide +kernel
theorem d_MO_tryStar_119 : decode b_MO_tryStar 119 = .ok (.goto 4, 3) := by decide +kernel
theorem d_MO_tryStar_122 : decode b_MO_tryStar 122 = .ok (.iconst 0, 1) := by decide +kernel
theorem d_MO_tryStar_123 : decode b_MO_tryStar 123 = .ok (.isub, 1) := by decide +kernel
theorem d_MO_tryStar_124 : decode b_MO_tryStar 124 = .ok (.istore 7, 2) := by decide +kernel
theorem d_MO_tryStar_126 : decode b_MO_tryStar 126 = .ok (.iload 6, 2) := by decide +kernel
theorem d_MO_tryStar_128 : decode b_MO_tryStar 128 = .ok (.iconst 1, 1) := by decide +kernel
theorem d_MO_tryStar_129 : decode b_MO_tryStar 129 = .ok (.if_icmp .ne 27, 3) := by decide +kernel
theorem d_MO_tryStar_132 : decode b_MO_tryStar 132 = .ok (.aload_n 0, 1) := by decide +kernel
theorem d_MO_tryStar_133 : decode b_MO_tryStar 133 = .ok (.iload 5, 2) := by decide +kernel
theorem d_MO_tryStar_135 : decode b_MO_tryStar 135 = .ok (.iload_n 3, 1) := by decide +kernel
theorem d_MO_tryStar_136 : decode b_MO_tryStar 136 = .ok (.if_icmp .ne 8, 3) := by decide +kernel
theorem d_MO_tryStar_139 : decode b_MO_tryStar 139 = .ok (.iload 4, 2) := by decide +kernel
theorem d_MO_tryStar_141 : decode b_MO_tryStar 141 = .ok (.goto 4, 3) := by decide +kernel
theorem d_MO_tryStar_144 : decode b_MO_tryStar 144 = .ok (.iload_n 3, 1) := by decide +kernel
theorem d_MO_tryStar_145 : decode b_MO_tryStar 145 = .ok (.iconst 1, 1) := by decide +kernel
theorem d_MO_tryStar_146 : decode b_MO_tryStar 146 = .ok (.invokevirtual 153, 3) := by decide +kernel
theorem d_MO_tryStar_149 : decode b_MO_tryStar 149 = .ok (.ifCond .eq 7, 3) := by decide +kernel
theorem d_MO_tryStar_152 : decode b_MO_tryStar 152 = .ok (.iconst 1, 1) := by decide +kernel
theorem d_MO_tryStar_153 : decode b_MO_tryStar 153 = .ok (.goto 4, 3) := by decide +kernel
theorem d_MO_tryStar_156 : decode b_MO_tryStar 156 = .ok (.iconst 0, 1) := by decide +kernel
theorem d_MO_tryStar_157 : decode b_MO_tryStar 157 = .ok (.istore 8, 2) := by decide +kernel
theorem d_MO_tryStar_159 : decode b_MO_tryStar 159 = .ok (.aload_n 0, 1) := by decide +kernel
theorem d_MO_tryStar_160 : decode b_MO_tryStar 160 = .ok (.getfield 47, 3) := by decide +kernel
theorem d_MO_tryStar_163 : decode b_MO_tryStar 163 = .ok (.iload 5, 2) := by decide +kernel
theorem d_MO_tryStar_165 : decode b_MO_tryStar 165 = .ok (.iload 6, 2) := by decide +kernel
theorem d_MO_tryStar_167 : decode b_MO_tryStar 167 = .ok (.ifCond .ne 7, 3) := by decide +kernel
theorem d_MO_tryStar_170 : decode b_MO_tryStar 170 = .ok (.iconst 2, 1) := by decide +kernel
theorem d_MO_tryStar_171 : decode b_MO_tryStar 171 = .ok (.goto 4, 3) := by decide +kernel
theorem d_MO_tryStar_174 : decode b_MO_tryStar 174 = .ok (.iconst 0, 1) := by decide +kernel
theorem d_MO_tryStar_175 : decode b_MO_tryStar 175 = .ok (.iload 6, 2) := by decide +kernel
theorem d_MO_tryStar_177 : decode b_MO_tryStar 177 = .ok (.ifCond .ne 8, 3) := by decide +kernel
theorem d_MO_tryStar_180 : decode b_MO_tryStar 180 = .ok (.iload 7, 2) := by decide +kernel
theorem d_MO_tryStar_182 : decode b_MO_tryStar 182 = .ok (.ifCond .gt 14, 3) := by decide +kernel
theorem d_MO_tryStar_185 : decode b_MO_tryStar 185 = .ok (.iload 6, 2) := by decide +kernel
theorem d_MO_tryStar_187 : decode b_MO_tryStar 187 = .ok (.iconst 1, 1) := by decide +kernel
theorem d_MO_tryStar_188 : decode b_MO_tryStar 188 = .ok (.if_icmp .ne 12, 3) := by decide +kernel
theorem d_MO_tryStar_191 : decode b_MO_tryStar 191 = .ok (.iload 8, 2) := by decide +kernel
theorem d_MO_tryStar_193 : decode b_MO_tryStar 193 = .ok (.ifCond .eq 7, 3) := by decide +kernel
theorem d_MO_tryStar_196 : decode b_MO_tryStar 196 = .ok (.iconst 1, 1) := by decide +kernel
theorem d_MO_tryStar_197 : decode b_MO_tryStar 197 = .ok (.goto 4, 3) := by decide +kernel
theorem d_MO_tryStar_200 : decode b_MO_tryStar 200 = .ok (.iconst 0, 1) := by decide +kernel
theorem d_MO_tryStar_201 : decode b_MO_tryStar 201 = .ok (.ior, 1) := by decide +kernel
theorem d_MO_tryStar_202 : decode b_MO_tryStar 202 = .ok (.iastore, 1) := by decide +kernel
theorem d_MO_tryStar_203 : decode b_MO_tryStar 203 = .ok (.iinc 5 1, 3) := by decide +kernel
theorem d_MO_tryStar_206 : decode b_MO_tryStar 206 = .ok (.goto (-127), 3) := by decide +kernel
theorem d_MO_tryStar_209 : decode b_MO_tryStar 209 = .ok (.aload_n 0, 1) := by decide +kernel
theorem d_MO_tryStar_210 : decode b_MO_tryStar 210 = .ok (.invokevirtual 156, 3) := by decide +kernel
theorem d_MO_tryStar_213 : decode b_MO_tryStar 213 = .ok (.return_, 1) := by decide +kernel
theorem d_MO_tryPairs_0 : decode b_MO_tryPairs 0 = .ok (.iconst 0, 1) := by decide +kernel
theorem d_MO_tryPairs_1 : decode b_MO_tryPairs 1 = .ok (.istore_n 1, 1) := by decide +kernel
theorem d_MO_tryPairs_2 : decode b_MO_tryPairs 2 = .ok (.iload_n 1, 1) := by decide +kernel
theorem d_MO_tryPairs_3 : decode b_MO_tryPairs 3 = .ok (.bipush 25, 2) := by decide +kernel
theorem d_MO_tryPairs_5 : decode b_MO_tryPairs 5 = .ok (.if_icmp .ge 85, 3) := by decide +kernel
theorem d_MO_tryPairs_8 : decode b_MO_tryPairs 8 = .ok (.bipush 8, 2) := by decide +kernel
theorem d_MO_tryPairs_10 : decode b_MO_tryPairs 10 = .ok (.iload_n 1, 1) := by decide +kernel
theorem d_MO_tryPairs_11 : decode b_MO_tryPairs 11 = .ok (.imul, 1) := by decide +kernel
theorem d_MO_tryPairs_12 : decode b_MO_tryPairs 12 = .ok (.istore_n 2, 1) := by decide +kernel
theorem d_MO_tryPairs_13 : decode b_MO_tryPairs 13 = .ok (.iload_n 2, 1) := by decide +kernel
theorem d_MO_tryPairs_14 : decode b_MO_tryPairs 14 = .ok (.bipush 8, 2) := by decide +kernel
theorem d_MO_tryPairs_16 : decode b_MO_tryPairs 16 = .ok (.iload_n 1, 1) := by decide +kernel
theorem d_MO_tryPairs_17 : decode b_MO_tryPairs 17 = .ok (.imul, 1) := by decide +kernel
theorem d_MO_tryPairs_18 : decode b_MO_tryPairs 18 = .ok (.aload_n 0, 1) := by decide +kernel
theorem d_MO_tryPairs_19 : decode b_MO_tryPairs 19 = .ok (.getfield 65, 3) := by decide +kernel
theorem d_MO_tryPairs_22 : decode b_MO_tryPairs 22 = .ok (.iload_n 1, 1) := by decide +kernel
theorem d_MO_tryPairs_23 : decode b_MO_tryPairs 23 = .ok (.iaload, 1) := by decide +kernel
theorem d_MO_tryPairs_24 : decode b_MO_tryPairs 24 = .ok (.iadd, 1) := by decide +kernel
theorem d_MO_tryPairs_25 : decode b_MO_tryPairs 25 = .ok (.if_icmp .ge 59, 3) := by decide +kernel
theorem d_MO_tryPairs_28 : decode b_MO_tryPairs 28 = .ok (.aload_n 0, 1) := by decide +kernel
theorem d_MO_tryPairs_29 : decode b_MO_tryPairs 29 = .ok (.getfield 35, 3) := by decide +kernel
theorem d_MO_tryPairs_32 : decode b_MO_tryPairs 32 = .ok (.aload_n 0, 1) := by decide +kernel
theorem d_MO_tryPairs_33 : decode b_MO_tryPairs 33 = .ok (.getfield 68, 3) := by decide +kernel
theorem d_MO_tryPairs_36 : decode b_MO_tryPairs 36 = .ok (.iload_n 2, 1) := by decide +kernel
theorem d_MO_tryPairs_37 : decode b_MO_tryPairs 37 = .ok (.iaload, 1) := by decide +kernel
theorem d_MO_tryPairs_38 : decode b_MO_tryPairs 38 = .ok (.iaload, 1) := by decide +kernel
theorem d_MO_tryPairs_39 : decode b_MO_tryPairs 39 = .ok (.istore_n 3, 1) := by decide +kernel
theorem d_MO_tryPairs_40 : decode b_MO_tryPairs 40 = .ok (.aload_n 0, 1) := by decide +kernel
theorem d_MO_tryPairs_41 : decode b_MO_tryPairs 41 = .ok (.getfield 38, 3) := by decide +kernel
theorem d_MO_tryPairs_44 : decode b_MO_tryPairs 44 = .ok (.iload_n 1, 1) := by decide +kernel
theorem d_MO_tryPairs_45 : decode b_MO_tryPairs 45 = .ok (.dup2, 1) := by decide +kernel
theorem d_MO_tryPairs_46 : decode b_MO_tryPairs 46 = .ok (.iaload, 1) := by decide +kernel
theorem d_MO_tryPairs_47 : decode b_MO_tryPairs 47 = .ok (.aload_n 0, 1) := by decide +kernel
theorem d_MO_tryPairs_48 : decode b_MO_tryPairs 48 = .ok (.getfield 35, 3) := by decide +kernel
theorem d_MO_tryPairs_51 : decode b_MO_tryPairs 51 = .ok (.iload_n 1, 1) := by decide +kernel
theorem d_MO_tryPairs_52 : decode b_MO_tryPairs 52 = .ok (.iaload, 1) := by decide +kernel
theorem d_MO_tryPairs_53 : decode b_MO_tryPairs 53 = .ok (.iload_n 3, 1) := by decide +kernel
theorem d_MO_tryPairs_54 : decode b_MO_tryPairs 54 = .ok (.iconst 1, 1) := by decide +kernel
theorem d_MO_tryPairs_55 : decode b_MO_tryPairs 55 = .ok (.iand, 1) := by decide +kernel
theorem d_MO_tryPairs_56 : decode b_MO_tryPairs 56 = .ok (.iconst 1, 1) := by decide +kernel
theorem d_MO_tryPairs_57 : decode b_MO_tryPairs 57 = .ok (.if_icmp .ne 7, 3) := by decide +kernel
theorem d_MO_tryPairs_60 : decode b_MO_tryPairs 60 = .ok (.iconst 3, 1) := by decide +kernel
theorem d_MO_tryPairs_61 : decode b_MO_tryPairs 61 = .ok (.goto 12, 3) := by decide +kernel
theorem d_MO_tryPairs_64 : decode b_MO_tryPairs 64 = .ok (.iload_n 3, 1) := by decide +kernel
theorem d_MO_tryPairs_65 : decode b_MO_tryPairs 65 = .ok (.ifCond .eq 7, 3) := by decide +kernel
theorem d_MO_tryPairs_68 : decode b_MO_tryPairs 68 = .ok (.iconst 1, 1) := by decide +kernel
theorem d_MO_tryPairs_69 : decode b_MO_tryPairs 69 = .ok (.goto 4, 3) := by decide +kernel
theorem d_MO_tryPairs_72 : decode b_MO_tryPairs 72 = .ok (.iconst 0, 1) := by decide +kernel
theorem d_MO_tryPairs_73 : decode b_MO_tryPairs 73 = .ok (.iconst (-1), 1) := by decide +kernel
theorem d_MO_tryPairs_74 : decode b_MO_tryPairs 74 = .ok (.ixor, 1) := by decide +kernel
theorem d_MO_tryPairs_75 : decode b_MO_tryPairs 75 = .ok (.iand, 1) := by decide +kernel
theorem d_MO_tryPairs_76 : decode b_MO_tryPairs 76 = .ok (.ior, 1) := by decide +kernel
theorem d_MO_tryPairs_77 : decode b_MO_tryPairs 77 = .ok (.iastore, 1) := by decide +kernel
theorem d_MO_tryPairs_78 : decode b_MO_tryPairs 78 = .ok (.iinc 2 1, 3) := by decide +kernel
theorem d_MO_tryPairs_81 : decode b_MO_tryPairs 81 = .ok (.goto (-68), 3) := by decide +kernel
theorem d_MO_tryPairs_84 : decode b_MO_tryPairs 84 = .ok (.iinc 1 1, 3) := by decide +kernel
theorem d_MO_tryPairs_87 : decode b_MO_tryPairs 87 = .ok (.goto (-85), 3) := by decide +kernel
theorem d_MO_tryPairs_90 : decode b_MO_tryPairs 90 = .ok (.return_, 1) := by decide +kernel
theorem d_MO_addGroup_0 : decode b_MO_addGroup 0 = .ok (.aload_n 0, 1) := by decide +kernel
theorem d_MO_addGroup_1 : decode b_MO_addGroup 1 = .ok (.invokevirtual 144, 3) := by decide +kernel
theorem d_MO_addGroup_4 : decode b_MO_addGroup 4 = .ok (.iconst 0, 1) := by decide +kernel
theorem d_MO_addGroup_5 : decode b_MO_addGroup 5 = .ok (.istore_n 2, 1) := by decide +kernel
theorem d_MO_addGroup_6 : decode b_MO_addGroup 6 = .ok (.iload_n 2, 1) := by decide +kernel
theorem d_MO_addGroup_7 : decode b_MO_addGroup 7 = .ok (.aload_n 0, 1) := by decide +kernel
theorem d_MO_addGroup_8 : decode b_MO_addGroup 8 = .ok (.getfield 7, 3) := by decide +kernel
theorem d_MO_addGroup_11 : decode b_MO_addGroup 11 = .ok (.if_icmp .ge 24, 3) := by decide +kernel
theorem d_MO_addGroup_14 : decode b_MO_addGroup 14 = .ok (.aload_n 0, 1) := by decide +kernel
theorem d_MO_addGroup_15 : decode b_MO_addGroup 15 = .ok (.getfield 20, 3) := by decide +kernel
theorem d_MO_addGroup_18 : decode b_MO_addGroup 18 = .ok (.iload_n 2, 1) := by decide +kernel
theorem d_MO_addGroup_19 : decode b_MO_addGroup 19 = .ok (.iaload, 1) := by decide +kernel
theorem d_MO_addGroup_20 : decode b_MO_addGroup 20 = .ok (.iload_n 1, 1) := by decide +kernel
theorem d_MO_addGroup_21 : decode b_MO_addGroup 21 = .ok (.if_icmp .ne 8, 3) := by decide +kernel
theorem d_MO_addGroup_24 : decode b_MO_addGroup 24 = .ok (.aload_n 0, 1) := by decide +kernel
theorem d_MO_addGroup_25 : decode b_MO_addGroup 25 = .ok (.iload_n 2, 1) := by decide +kernel
theorem d_MO_addGroup_26 : decode b_MO_addGroup 26 = .ok (.invokevirtual 147, 3) := by decide +kernel
theorem d_MO_addGroup_29 : decode b_MO_addGroup 29 = .ok (.iinc 2 1, 3) := by decide +kernel
theorem d_MO_addGroup_32 : decode b_MO_addGroup 32 = .ok (.goto (-26), 3) := by decide +kernel
theorem d_MO_addGroup_35 : decode b_MO_addGroup 35 = .ok (.return_, 1) := by decide +kernel
theorem d_MO_look_0 : decode b_MO_look 0 = .ok (.iconst 0, 1) := by decide +kernel
theorem d_MO_look_1 : decode b_MO_look 1 = .ok (.istore_n 1, 1) := by decide +kernel
theorem d_MO_look_2 : decode b_MO_look 2 = .ok (.iload_n 1, 1) := by decide +kernel
theorem d_MO_look_3 : decode b_MO_look 3 = .ok (.bipush 25, 2) := by decide +kernel
theorem d_MO_look_5 : decode b_MO_look 5 = .ok (.if_icmp .ge 16, 3) := by decide +kernel
theorem d_MO_look_8 : decode b_MO_look 8 = .ok (.aload_n 0, 1) := by decide +kernel
theorem d_MO_look_9 : decode b_MO_look 9 = .ok (.getfield 38, 3) := by decide +kernel
theorem d_MO_look_12 : decode b_MO_look 12 = .ok (.iload_n 1, 1) := by decide +kernel
theorem d_MO_look_13 : decode b_MO_look 13 = .ok (.iconst 0, 1) := by decide +kernel
theorem d_MO_look_14 : decode b_MO_look 14 = .ok (.iastore, 1) := by decide +kernel
theorem d_MO_look_15 : decode b_MO_look 15 = .ok (.iinc 1 1, 3) := by decide +kernel
theorem d_MO_look_18 : decode b_MO_look 18 = .ok (.goto (-16), 3) := by decide +kernel
theorem d_MO_look_21 : decode b_MO_look 21 = .ok (.iconst 0, 1) := by decide +kernel
theorem d_MO_look_22 : decode b_MO_look 22 = .ok (.istore_n 1, 1) := by decide +kernel
theorem d_MO_look_23 : decode b_MO_look 23 = .ok (.iload_n 1, 1) := by decide +kernel
theorem d_MO_look_24 : decode b_MO_look 24 = .ok (.iconst 2, 1) := by decide +kernel
theorem d_MO_look_25 : decode b_MO_look 25 = .ok (.aload_n 0, 1) := by decide +kernel
theorem d_MO_look_26 : decode b_MO_look 26 = .ok (.getfield 13, 3) := by decide +kernel
theorem d_MO_look_29 : decode b_MO_look 29 = .ok (.imul, 1) := by decide +kernel
theorem d_MO_look_30 : decode b_MO_look 30 = .ok (.if_icmp .ge 50, 3) := by decide +kernel
theorem d_MO_look_33 : decode b_MO_look 33 = .ok (.aload_n 0, 1) := by decide +kernel
theorem d_MO_look_34 : decode b_MO_look 34 = .ok (.getfield 86, 3) := by decide +kernel
theorem d_MO_look_37 : decode b_MO_look 37 = .ok (.ifCond .ne 11, 3) := by decide +kernel
theorem d_MO_look_40 : decode b_MO_look 40 = .ok (.aload_n 0, 1) := by decide +kernel
theorem d_MO_look_41 : decode b_MO_look 41 = .ok (.iload_n 1, 1) := by decide +kernel
theorem d_MO_look_42 : decode b_MO_look 42 = .ok (.invokevirtual 167, 3) := by decide +kernel
theorem d_MO_look_45 : decode b_MO_look 45 = .ok (.goto 29, 3) := by decide +kernel
theorem d_MO_look_48 : decode b_MO_look 48 = .ok (.aload_n 0, 1) := by decide +kernel
theorem d_MO_look_49 : decode b_MO_look 49 = .ok (.iload_n 1, 1) := by decide +kernel
theorem d_MO_look_50 : decode b_MO_look 50 = .ok (.invokevirtual 150, 3) := by decide +kernel
theorem d_MO_look_53 : decode b_MO_look 53 = .ok (.aload_n 0, 1) := by decide +kernel
theorem d_MO_look_54 : decode b_MO_look 54 = .ok (.getfield 86, 3) := by decide +kernel
theorem d_MO_look_57 : decode b_MO_look 57 = .ok (.iconst 1, 1) := by decide +kernel
theorem d_MO_look_58 : decode b_MO_look 58 = .ok (.if_icmp .ne 12, 3) := by decide +kernel
theorem d_MO_look_61 : decode b_MO_look 61 = .ok (.aload_n 0, 1) := by decide +kernel
theorem d_MO_look_62 : decode b_MO_look 62 = .ok (.iconst 0, 1) := by decide +kernel
theorem d_MO_look_63 : decode b_MO_look 63 = .ok (.iconst 0, 1) := by decide +kernel
theorem d_MO_look_64 : decode b_MO_look 64 = .ok (.invokevirtual 170, 3) := by decide +kernel
theorem d_MO_look_67 : decode b_MO_look 67 = .ok (.goto 7, 3) := by decide +kernel
theorem d_MO_look_70 : decode b_MO_look 70 = .ok (.aload_n 0, 1) := by decide +kernel
theorem d_MO_look_71 : decode b_MO_look 71 = .ok (.invokevirtual 174, 3) := by decide +kernel
theorem d_MO_look_74 : decode b_MO_look 74 = .ok (.iinc 1 1, 3) := by decide +kernel
theorem d_MO_look_77 : decode b_MO_look 77 = .ok (.goto (-54), 3) := by decide +kernel
theorem d_MO_look_80 : decode b_MO_look 80 = .ok (.iconst 0, 1) := by decide +kernel
theorem d_MO_look_81 : decode b_MO_look 81 = .ok (.istore_n 1, 1) := by decide +kernel
theorem d_MO_look_82 : decode b_MO_look 82 = .ok (.iload_n 1, 1) := by decide +kernel
theorem d_MO_look_83 : decode b_MO_look 83 = .ok (.bipush 16, 2) := by decide +kernel
theorem d_MO_look_85 : decode b_MO_look 85 = .ok (.if_icmp .ge 62, 3) := by decide +kernel
theorem d_MO_look_88 : decode b_MO_look 88 = .ok (.aload_n 0, 1) := by decide +kernel
theorem d_MO_look_89 : decode b_MO_look 89 = .ok (.getfield 86, 3) := by decide +kernel
theorem d_MO_look_92 : decode b_MO_look 92 = .ok (.ifCond .eq 55, 3) := by decide +kernel
theorem d_MO_look_95 : decode b_MO_look 95 = .ok (.aload_n 0, 1) := by decide +kernel
theorem d_MO_look_96 : decode b_MO_look 96 = .ok (.iload_n 1, 1) := by decide +kernel
theorem d_MO_look_97 : decode b_MO_look 97 = .ok (.invokevirtual 177, 3) := by decide +kernel
theorem d_MO_look_100 : decode b_MO_look 100 = .ok (.aload_n 0, 1) := by decide +kernel
theorem d_MO_look_101 : decode b_MO_look 101 = .ok (.getfield 141, 3) := by decide +kernel
theorem d_MO_look_104 : decode b_MO_look 104 = .ok (.ifCond .ne 6, 3) := by decide +kernel
theorem d_MO_look_107 : decode b_MO_look 107 = .ok (.goto 34, 3) := by decide +kernel
theorem d_MO_look_110 : decode b_MO_look 110 = .ok (.aload_n 0, 1) := by decide +kernel
theorem d_MO_look_111 : decode b_MO_look 111 = .ok (.getfield 86, 3) := by decide +kernel
theorem d_MO_look_114 : decode b_MO_look 114 = .ok (.iconst 1, 1) := by decide +kernel
theorem d_MO_look_115 : decode b_MO_look 115 = .ok (.if_icmp .ne 22, 3) := by decide +kernel
theorem d_MO_look_118 : decode b_MO_look 118 = .ok (.aload_n 0, 1) := by decide +kernel
theorem d_MO_look_119 : decode b_MO_look 119 = .ok (.aload_n 0, 1) := by decide +kernel
theorem d_MO_look_120 : decode b_MO_look 120 = .ok (.getfield 23, 3) := by decide +kernel
theorem d_MO_look_123 : decode b_MO_look 123 = .ok (.iload_n 1, 1) := by decide +kernel
theorem d_MO_look_124 : decode b_MO_look 124 = .ok (.iaload, 1) := by decide +kernel
theorem d_MO_look_125 : decode b_MO_look 125 = .ok (.aload_n 0, 1) := by decide +kernel
theorem d_MO_look_126 : decode b_MO_look 126 = .ok (.getfield 26, 3) := by decide +kernel
theorem d_MO_look_129 : decode b_MO_look 129 = .ok (.iload_n 1, 1) := by decide +kernel
theorem d_MO_look_130 : decode b_MO_look 130 = .ok (.iaload, 1) := by decide +kernel
theorem d_MO_look_131 : decode b_MO_look 131 = .ok (.invokevirtual 170, 3) := by decide +kernel
theorem d_MO_look_134 : decode b_MO_look 134 = .ok (.goto 7, 3) := by decide +kernel
theorem d_MO_look_137 : decode b_MO_look 137 = .ok (.aload_n 0, 1) := by decide +kernel
theorem d_MO_look_138 : decode b_MO_look 138 = .ok (.invokevirtual 174, 3) := by decide +kernel
theorem d_MO_look_141 : decode b_MO_look 141 = .ok (.iinc 1 1, 3) := by decide +kernel
theorem d_MO_look_144 : decode b_MO_look 144 = .ok (.goto (-62), 3) := by decide +kernel
theorem d_MO_look_147 : decode b_MO_look 147 = .ok (.aload_n 0, 1) := by decide +kernel
theorem d_MO_look_148 : decode b_MO_look 148 = .ok (.getfield 86, 3) := by decide +kernel
theorem d_MO_look_151 : decode b_MO_look 151 = .ok (.iconst 2, 1) := by decide +kernel
theorem d_MO_look_152 : decode b_MO_look 152 = .ok (.if_icmp .ne 7, 3) := by decide +kernel
theorem d_MO_look_155 : decode b_MO_look 155 = .ok (.aload_n 0, 1) := by decide +kernel
theorem d_MO_look_156 : decode b_MO_look 156 = .ok (.invokevirtual 180, 3) := by decide +kernel
theorem d_MO_look_159 : decode b_MO_look 159 = .ok (.iconst 0, 1) := by decide +kernel
theorem d_MO_look_160 : decode b_MO_look 160 = .ok (.istore_n 1, 1) := by decide +kernel
theorem d_MO_look_161 : decode b_MO_look 161 = .ok (.iconst 0, 1) := by decide +kernel
theorem d_MO_look_162 : decode b_MO_look 162 = .ok (.istore_n 2, 1) := by decide +kernel
theorem d_MO_look_163 : decode b_MO_look 163 = .ok (.iload_n 2, 1) := by decide +kernel
theorem d_MO_look_164 : decode b_MO_look 164 = .ok (.aload_n 0, 1) := by decide +kernel
theorem d_MO_look_165 : decode b_MO_look 165 = .ok (.getfield 7, 3) := by decide +kernel
theorem d_MO_look_168 : decode b_MO_look 168 = .ok (.if_icmp .ge 28, 3) := by decide +kernel
theorem d_MO_look_171 : decode b_MO_look 171 = .ok (.iload_n 1, 1) := by decide +kernel
theorem d_MO_look_172 : decode b_MO_look 172 = .ok (.ifCond .ne 12, 3) := by decide +kernel
theorem d_MO_look_175 : decode b_MO_look 175 = .ok (.aload_n 0, 1) := by decide +kernel
theorem d_MO_look_176 : decode b_MO_look 176 = .ok (.getfield 38, 3) := by decide +kernel
theorem d_MO_look_179 : decode b_MO_look 179 = .ok (.iload_n 2, 1) := by decide +kernel
theorem d_MO_look_180 : decode b_MO_look 180 = .ok (.iaload, 1) := by decide +kernel
theorem d_MO_look_181 : decode b_MO_look 181 = .ok (.ifCond .eq 7, 3) := by decide +kernel
theorem d_MO_look_184 : decode b_MO_look 184 = .ok (.iconst 1, 1) := by decide +kernel
theorem d_MO_look_185 : decode b_MO_look 185 = .ok (.goto 4, 3) := by decide +kernel
theorem d_MO_look_188 : decode b_MO_look 188 = .ok (.iconst 0, 1) := by decide +kernel
theorem d_MO_look_189 : decode b_MO_look 189 = .ok (.istore_n 1, 1) := by decide +kernel
theorem d_MO_look_190 : decode b_MO_look 190 = .ok (.iinc 2 1, 3) := by decide +kernel
theorem d_MO_look_193 : decode b_MO_look 193 = .ok (.goto (-30), 3) := by decide +kernel
theorem d_MO_look_196 : decode b_MO_look 196 = .ok (.iload_n 1, 1) := by decide +kernel
theorem d_MO_look_197 : decode b_MO_look 197 = .ok (.ireturn, 1) := by decide +kernel
theorem d_MO_reasonByOne_0 : decode b_MO_reasonByOne 0 = .ok (.aload_n 0, 1) := by decide +kernel
theorem d_MO_reasonByOne_1 : decode b_MO_reasonByOne 1 = .ok (.invokevirtual 183, 3) := by decide +kernel
theorem d_MO_reasonByOne_4 : decode b_MO_reasonByOne 4 = .ok (.ifCond .eq 39, 3) := by decide +kernel
theorem d_MO_reasonByOne_7 : decode b_MO_reasonByOne 7 = .ok (.iconst 0, 1) := by decide +kernel
theorem d_MO_reasonByOne_8 : decode b_MO_reasonByOne 8 = .ok (.istore_n 1, 1) := by decide +kernel
theorem d_MO_reasonByOne_9 : decode b_MO_reasonByOne 9 = .ok (.iload_n 1, 1) := by decide +kernel
theorem d_MO_reasonByOne_10 : decode b_MO_reasonByOne 10 = .ok (.aload_n 0, 1) := by decide +kernel
theorem d_MO_reasonByOne_11 : decode b_MO_reasonByOne 11 = .ok (.getfield 7, 3) := by decide +kernel
theorem d_MO_reasonByOne_14 : decode b_MO_reasonByOne 14 = .ok (.if_icmp .ge 26, 3) := by decide +kernel
theorem d_MO_reasonByOne_17 : decode b_MO_reasonByOne 17 = .ok (.aload_n 0, 1) := by decide +kernel
theorem d_MO_reasonByOne_18 : decode b_MO_reasonByOne 18 = .ok (.getfield 35, 3) := by decide +kernel
theorem d_MO_reasonByOne_21 : decode b_MO_reasonByOne 21 = .ok (.iload_n 1, 1) := by decide +kernel
theorem d_MO_reasonByOne_22 : decode b_MO_reasonByOne 22 = .ok (.dup2, 1) := by decide +kernel
theorem d_MO_reasonByOne_23 : decode b_MO_reasonByOne 23 = .ok (.iaload, 1) := by decide +kernel
theorem d_MO_reasonByOne_24 : decode b_MO_reasonByOne 24 = .ok (.aload_n 0, 1) := by decide +kernel
theorem d_MO_reasonByOne_25 : decode b_MO_reasonByOne 25 = .ok (.getfield 38, 3) := by decide +kernel
theorem d_MO_reasonByOne_28 : decode b_MO_reasonByOne 28 = .ok (.iload_n 1, 1) := by decide +kernel
theorem d_MO_reasonByOne_29 : decode b_MO_reasonByOne 29 = .ok (.iaload, 1) := by decide +kernel
theorem d_MO_reasonByOne_30 : decode b_MO_reasonByOne 30 = .ok (.iconst (-1), 1) := by decide +kernel
theorem d_MO_reasonByOne_31 : decode b_MO_reasonByOne 31 = .ok (.ixor, 1) := by decide +kernel
theorem d_MO_reasonByOne_32 : decode b_MO_reasonByOne 32 = .ok (.iand, 1) := by decide +kernel
theorem d_MO_reasonByOne_33 : decode b_MO_reasonByOne 33 = .ok (.iastore, 1) := by decide +kernel
theorem d_MO_reasonByOne_34 : decode b_MO_reasonByOne 34 = .ok (.iinc 1 1, 3) := by decide +kernel
theorem d_MO_reasonByOne_37 : decode b_MO_reasonByOne 37 = .ok (.goto (-28), 3) := by decide +kernel
theorem d_MO_reasonByOne_40 : decode b_MO_reasonByOne 40 = .ok (.goto (-40), 3) := by decide +kernel
theorem d_MO_reasonByOne_43 : decode b_MO_reasonByOne 43 = .ok (.return_, 1) := by decide +kernel
theorem d_MO_isEmpty_0 : decode b_MO_isEmpty 0 = .ok (.iconst 0, 1) := by decide +kernel
theorem d_MO_isEmpty_1 : decode b_MO_isEmpty 1 = .ok (.istore_n 1, 1) := by decide +kernel
theorem d_MO_isEmpty_2 : decode b_MO_isEmpty 2 = .ok (.iconst 0, 1) := by decide +kernel
theorem d_MO_isEmpty_3 : decode b_MO_isEmpty 3 = .ok (.istore_n 2, 1) := by decide +kernel
theorem d_MO_isEmpty_4 : decode b_MO_isEmpty 4 = .ok (.iload_n 2, 1) := by decide +kernel
theorem d_MO_isEmpty_5 : decode b_MO_isEmpty 5 = .ok (.aload_n 0, 1) := by decide +kernel
theorem d_MO_isEmpty_6 : decode b_MO_isEmpty 6 = .ok (.getfield 7, 3) := by decide +kernel
theorem d_MO_isEmpty_9 : decode b_MO_isEmpty 9 = .ok (.if_icmp .ge 28, 3) := by decide +kernel
theorem d_MO_isEmpty_12 : decode b_MO_isEmpty 12 = .ok (.iload_n 1, 1) := by decide +kernel
theorem d_MO_isEmpty_13 : decode b_MO_isEmpty 13 = .ok (.ifCond .ne 12, 3) := by decide +kernel
theorem d_MO_isEmpty_16 : decode b_MO_isEmpty 16 = .ok (.aload_n 0, 1) := by decide +kernel
theorem d_MO_isEmpty_17 : decode b_MO_isEmpty 17 = .ok (.getfield 35, 3) := by decide +kernel
theorem d_MO_isEmpty_20 : decode b_MO_isEmpty 20 = .ok (.iload_n 2, 1) := by decide +kernel
theorem d_MO_isEmpty_21 : decode b_MO_isEmpty 21 = .ok (.iaload, 1) := by decide +kernel
theorem d_MO_isEmpty_22 : decode b_MO_isEmpty 22 = .ok (.ifCond .ne 7, 3) := by decide +kernel
theorem d_MO_isEmpty_25 : decode b_MO_isEmpty 25 = .ok (.iconst 1, 1) := by decide +kernel
theorem d_MO_isEmpty_26 : decode b_MO_isEmpty 26 = .ok (.goto 4, 3) := by decide +kernel
theorem d_MO_isEmpty_29 : decode b_MO_isEmpty 29 = .ok (.iconst 0, 1) := by decide +kernel
theorem d_MO_isEmpty_30 : decode b_MO_isEmpty 30 = .ok (.istore_n 1, 1) := by decide +kernel
theorem d_MO_isEmpty_31 : decode b_MO_isEmpty 31 = .ok (.iinc 2 1, 3) := by decide +kernel
theorem d_MO_isEmpty_34 : decode b_MO_isEmpty 34 = .ok (.goto (-30), 3) := by decide +kernel
theorem d_MO_isEmpty_37 : decode b_MO_isEmpty 37 = .ok (.iload_n 1, 1) := by decide +kernel
theorem d_MO_isEmpty_38 : decode b_MO_isEmpty 38 = .ok (.ireturn, 1) := by decide +kernel
theorem d_MO_fails_0 : decode b_MO_fails 0 = .ok (.iconst 0, 1) := by decide +kernel
theorem d_MO_fails_1 : decode b_MO_fails 1 = .ok (.istore_n 3, 1) := by decide +kernel
theorem d_MO_fails_2 : decode b_MO_fails 2 = .ok (.iload_n 3, 1) := by decide +kernel
theorem d_MO_fails_3 : decode b_MO_fails 3 = .ok (.aload_n 0, 1) := by decide +kernel
theorem d_MO_fails_4 : decode b_MO_fails 4 = .ok (.getfield 7, 3) := by decide +kernel
theorem d_MO_fails_7 : decode b_MO_fails 7 = .ok (.if_icmp .ge 21, 3) := by decide +kernel
theorem d_MO_fails_10 : decode b_MO_fails 10 = .ok (.aload_n 0, 1) := by decide +kernel
theorem d_MO_fails_11 : decode b_MO_fails 11 = .ok (.getfield 41, 3) := by decide +kernel
theorem d_MO_fails_14 : decode b_MO_fails 14 = .ok (.iload_n 3, 1) := by decide +kernel
theorem d_MO_fails_15 : decode b_MO_fails 15 = .ok (.aload_n 0, 1) := by decide +kernel
theorem d_MO_fails_16 : decode b_MO_fails 16 = .ok (.getfield 35, 3) := by decide +kernel
theorem d_MO_fails_19 : decode b_MO_fails 19 = .ok (.iload_n 3, 1) := by decide +kernel
theorem d_MO_fails_20 : decode b_MO_fails 20 = .ok (.iaload, 1) := by decide +kernel
theorem d_MO_fails_21 : decode b_MO_fails 21 = .ok (.iastore, 1) := by decide +kernel
theorem d_MO_fails_22 : decode b_MO_fails 22 = .ok (.iinc 3 1, 3) := by decide +kernel
theorem d_MO_fails_25 : decode b_MO_fails 25 = .ok (.goto (-23), 3) := by decide +kernel
theorem d_MO_fails_28 : decode b_MO_fails 28 = .ok (.aload_n 0, 1) := by decide +kernel
theorem d_MO_fails_29 : decode b_MO_fails 29 = .ok (.getfield 35, 3) := by decide +kernel
theorem d_MO_fails_32 : decode b_MO_fails 32 = .ok (.iload_n 1, 1) := by decide +kernel
theorem d_MO_fails_33 : decode b_MO_fails 33 = .ok (.iconst 1, 1) := by decide +kernel
theorem d_MO_fails_34 : decode b_MO_fails 34 = .ok (.iload_n 2, 1) := by decide +kernel
theorem d_MO_fails_35 : decode b_MO_fails 35 = .ok (.ishl, 1) := by decide +kernel
theorem d_MO_fails_36 : decode b_MO_fails 36 = .ok (.iastore, 1) := by decide +kernel
theorem d_MO_fails_37 : decode b_MO_fails 37 = .ok (.aload_n 0, 1) := by decide +kernel
theorem d_MO_fails_38 : decode b_MO_fails 38 = .ok (.invokevirtual 186, 3) := by decide +kernel
theorem d_MO_fails_41 : decode b_MO_fails 41 = .ok (.aload_n 0, 1) := by decide +kernel
theorem d_MO_fails_42 : decode b_MO_fails 42 = .ok (.invokevirtual 189, 3) := by decide +kernel
theorem d_MO_fails_45 : decode b_MO_fails 45 = .ok (.istore_n 3, 1) := by decide +kernel
theorem d_MO_fails_46 : decode b_MO_fails 46 = .ok (.iconst 0, 1) := by decide +kernel
theorem d_MO_fails_47 : decode b_MO_fails 47 = .ok (.istore 4, 2) := by decide +kernel
theorem d_MO_fails_49 : decode b_MO_fails 49 = .ok (.iload 4, 2) := by decide +kernel
theorem d_MO_fails_51 : decode b_MO_fails 51 = .ok (.aload_n 0, 1) := by decide +kernel
theorem d_MO_fails_52 : decode b_MO_fails 52 = .ok (.getfield 7, 3) := by decide +kernel
theorem d_MO_fails_55 : decode b_MO_fails 55 = .ok (.if_icmp .ge 23, 3) := by decide +kernel
theorem d_MO_fails_58 : decode b_MO_fails 58 = .ok (.aload_n 0, 1) := by decide +kernel
theorem d_MO_fails_59 : decode b_MO_fails 59 = .ok (.getfield 35, 3) := by decide +kernel
theorem d_MO_fails_62 : decode b_MO_fails 62 = .ok (.iload 4, 2) := by decide +kernel
theorem d_MO_fails_64 : decode b_MO_fails 64 = .ok (.aload_n 0, 1) := by decide +kernel
theorem d_MO_fails_65 : decode b_MO_fails 65 = .ok (.getfield 41, 3) := by decide +kernel
theorem d_MO_fails_68 : decode b_MO_fails 68 = .ok (.iload 4, 2) := by decide +kernel
theorem d_MO_fails_70 : decode b_MO_fails 70 = .ok (.iaload, 1) := by decide +kernel
theorem d_MO_fails_71 : decode b_MO_fails 71 = .ok (.iastore, 1) := by decide +kernel
theorem d_MO_fails_72 : decode b_MO_fails 72 = .ok (.iinc 4 1, 3) := by decide +kernel
theorem d_MO_fails_75 : decode b_MO_fails 75 = .ok (.goto (-26), 3) := by decide +kernel
theorem d_MO_fails_78 : decode b_MO_fails 78 = .ok (.iload_n 3, 1) := by decide +kernel
theorem d_MO_fails_79 : decode b_MO_fails 79 = .ok (.ireturn, 1) := by decide +kernel
theorem d_MO_reasonByBoth_0 : decode b_MO_reasonByBoth 0 = .ok (.iconst 1, 1) := by decide +kernel
theorem d_MO_reasonByBoth_1 : decode b_MO_reasonByBoth 1 = .ok (.istore_n 1, 1) := by decide +kernel
theorem d_MO_reasonByBoth_2 : decode b_MO_reasonByBoth 2 = .ok (.aload_n 0, 1) := by decide +kernel
theorem d_MO_reasonByBoth_3 : decode b_MO_reasonByBoth 3 = .ok (.invokevirtual 186, 3) := by decide +kernel
theorem d_MO_reasonByBoth_6 : decode b_MO_reasonByBoth 6 = .ok (.iload_n 1, 1) := by decide +kernel
theorem d_MO_reasonByBoth_7 : decode b_MO_reasonByBoth 7 = .ok (.ifCond .eq 80, 3) := by decide +kernel
theorem d_MO_reasonByBoth_10 : decode b_MO_reasonByBoth 10 = .ok (.iconst 0, 1) := by decide +kernel
theorem d_MO_reasonByBoth_11 : decode b_MO_reasonByBoth 11 = .ok (.istore_n 1, 1) := by decide +kernel
theorem d_MO_reasonByBoth_12 : decode b_MO_reasonByBoth 12 = .ok (.iconst 0, 1) := by decide +kernel
theorem d_MO_reasonByBoth_13 : decode b_MO_reasonByBoth 13 = .ok (.istore_n 2, 1) := by decide +kernel
theorem d_MO_reasonByBoth_14 : decode b_MO_reasonByBoth 14 = .ok (.iload_n 2, 1) := by decide +kernel
theorem d_MO_reasonByBoth_15 : decode b_MO_reasonByBoth 15 = .ok (.aload_n 0, 1) := by decide +kernel
theorem d_MO_reasonByBoth_16 : decode b_MO_reasonByBoth 16 = .ok (.getfield 7, 3) := by decide +kernel
theorem d_MO_reasonByBoth_19 : decode b_MO_reasonByBoth 19 = .ok (.if_icmp .ge 65, 3) := by decide +kernel
theorem d_MO_reasonByBoth_22 : decode b_MO_reasonByBoth 22 = .ok (.iconst 0, 1) := by decide +kernel
theorem d_MO_reasonByBoth_23 : decode b_MO_reasonByBoth 23 = .ok (.istore_n 3, 1) := by decide +kernel
theorem d_MO_reasonByBoth_24 : decode b_MO_reasonByBoth 24 = .ok (.iload_n 3, 1) := by decide +kernel
theorem d_MO_reasonByBoth_25 : decode b_MO_reasonByBoth 25 = .ok (.iconst 5, 1) := by decide +kernel
theorem d_MO_reasonByBoth_26 : decode b_MO_reasonByBoth 26 = .ok (.if_icmp .ge 52, 3) := by decide +kernel
theorem d_MO_reasonByBoth_29 : decode b_MO_reasonByBoth 29 = .ok (.aload_n 0, 1) := by decide +kernel
theorem d_MO_reasonByBoth_30 : decode b_MO_reasonByBoth 30 = .ok (.getfield 35, 3) := by decide +kernel
theorem d_MO_reasonByBoth_33 : decode b_MO_reasonByBoth 33 = .ok (.iload_n 2, 1) := by decide +kernel
theorem d_MO_reasonByBoth_34 : decode b_MO_reasonByBoth 34 = .ok (.iaload, 1) := by decide +kernel
theorem d_MO_reasonByBoth_35 : decode b_MO_reasonByBoth 35 = .ok (.iload_n 3, 1) := by decide +kernel
theorem d_MO_reasonByBoth_36 : decode b_MO_reasonByBoth 36 = .ok (.ishr, 1) := by decide +kernel
theorem d_MO_reasonByBoth_37 : decode b_MO_reasonByBoth 37 = .ok (.iconst 1, 1) := by decide +kernel
theorem d_MO_reasonByBoth_38 : decode b_MO_reasonByBoth 38 = .ok (.iand, 1) := by decide +kernel
theorem d_MO_reasonByBoth_39 : decode b_MO_reasonByBoth 39 = .ok (.iconst 1, 1) := by decide +kernel
theorem d_MO_reasonByBoth_40 : decode b_MO_reasonByBoth 40 = .ok (.if_icmp .ne 32, 3) := by decide +kernel
theorem d_MO_reasonByBoth_43 : decode b_MO_reasonByBoth 43 = .ok (.aload_n 0, 1) := by decide +kernel
theorem d_MO_reasonByBoth_44 : decode b_MO_reasonByBoth 44 = .ok (.iload_n 2, 1) := by decide +kernel
theorem d_MO_reasonByBoth_45 : decode b_MO_reasonByBoth 45 = .ok (.iload_n 3, 1) := by decide +kernel
theorem d_MO_reasonByBoth_46 : decode b_MO_reasonByBoth 46 = .ok (.invokevirtual 192, 3) := by decide +kernel
theorem d_MO_reasonByBoth_49 : decode b_MO_reasonByBoth 49 = .ok (.ifCond .eq 23, 3) := by decide +kernel
theorem d_MO_reasonByBoth_52 : decode b_MO_reasonByBoth 52 = .ok (.aload_n 0, 1) := by decide +kernel
theorem d_MO_reasonByBoth_53 : decode b_MO_reasonByBoth 53 = .ok (.getfield 35, 3) := by decide +kernel
theorem d_MO_reasonByBoth_56 : decode b_MO_reasonByBoth 56 = .ok (.iload_n 2, 1) := by decide +kernel
theorem d_MO_reasonByBoth_57 : decode b_MO_reasonByBoth 57 = .ok (.dup2, 1) := by decide +kernel
theorem d_MO_reasonByBoth_58 : decode b_MO_reasonByBoth 58 = .ok (.iaload, 1) := by decide +kernel
theorem d_MO_reasonByBoth_59 : decode b_MO_reasonByBoth 59 = .ok (.iconst 1, 1) := by decide +kernel
theorem d_MO_reasonByBoth_60 : decode b_MO_reasonByBoth 60 = .ok (.iload_n 3, 1) := by decide +kernel
theorem d_MO_reasonByBoth_61 : decode b_MO_reasonByBoth 61 = .ok (.ishl, 1) := by decide +kernel
theorem d_MO_reasonByBoth_62 : decode b_MO_reasonByBoth 62 = .ok (.iconst (-1), 1) := by decide +kernel
theorem d_MO_reasonByBoth_63 : decode b_MO_reasonByBoth 63 = .ok (.ixor, 1) := by decide +kernel
theorem d_MO_reasonByBoth_64 : decode b_MO_reasonByBoth 64 = .ok (.iand, 1) := by decide +kernel
theorem d_MO_reasonByBoth_65 : decode b_MO_reasonByBoth 65 = .ok (.iastore, 1) := by decide +kernel
theorem d_MO_reasonByBoth_66 : decode b_MO_reasonByBoth 66 = .ok (.aload_n 0, 1) := by decide +kernel
theorem d_MO_reasonByBoth_67 : decode b_MO_reasonByBoth 67 = .ok (.invokevirtual 186, 3) := by decide +kernel
theorem d_MO_reasonByBoth_70 : decode b_MO_reasonByBoth 70 = .ok (.iconst 1, 1) := by decide +kernel
theorem d_MO_reasonByBoth_71 : decode b_MO_reasonByBoth 71 = .ok (.istore_n 1, 1) := by decide +kernel
theorem d_MO_reasonByBoth_72 : decode b_MO_reasonByBoth 72 = .ok (.iinc 3 1, 3) := by decide +kernel
theorem d_MO_reasonByBoth_75 : decode b_MO_reasonByBoth 75 = .ok (.goto (-51), 3) := by decide +kernel
theorem d_MO_reasonByBoth_78 : decode b_MO_reasonByBoth 78 = .ok (.iinc 2 1, 3) := by decide +kernel
theorem d_MO_reasonByBoth_81 : decode b_MO_reasonByBoth 81 = .ok (.goto (-67), 3) := by decide +kernel
theorem d_MO_reasonByBoth_84 : decode b_MO_reasonByBoth 84 = .ok (.goto (-78), 3) := by decide +kernel
theorem d_MO_reasonByBoth_87 : decode b_MO_reasonByBoth 87 = .ok (.return_, 1) := by decide +kernel
set_option maxHeartbeats 4000000 in
set_option maxRecDepth 100000 in
theorem ct_MO_may (l : Launch) (D : va_G) (ad : Nat → Nat) (cI cL : ClassId) (N : Nat) (th : Int32) (ki : Int32) (ce : Int32) (wi : Int32) (ma : Int32) (fo : Int32) (cu : Nat → Int32) (gr : Nat → Int32) (ru : Nat → Int32) (nu : Nat → Int32) (gv : Nat → Int32) (ca : Nat → Int32) (nw : Nat → Int32) (lo : Nat → Int32) (ke : Nat → Int32) (un : Nat → Int32) (cn : Nat → Int32) (fi : Nat → Int32) (fl : Nat → Int32) (pa : Nat → Int32) (sh : Nat → Int32) (od : Nat → Int32) (bd : Nat → Int32) (bs : Nat → Int32) (u1 : Int32) (u2 : Int32) (out : Int32) (h : mi_MO_may N nw un u1 u2 = some out) : fw_C l y_MO_may (.code y_MO_may b_MO_may 3 (some .boolean) :: Gw) (fr 0 0) D vwCl (tyA cI cL) [.ref (ad 0), .int u1, .int u2] (wM ad cI cL th ki ce wi ma fo cu gr ru nu gv ca nw lo ke un cn fi fl pa sh od bd bs) (some (.int out)) (wM ad cI cL th ki ce wi ma fo cu gr ru nu gv ca nw lo ke un cn fi fl pa sh od bd bs) := by
  refine fw_of (by decide) (Nat.le_of_ble_eq_true rfl) ?_
  intro p e s m args below meth c ls A R Q hR hQ S hr hlk hX hA hl hw
  have hK := hX.1
  have hx := S.1
  have hb := S.2.1
  have hown := S.2.2.2.1
  have hg := S.2.2.2.2
  have hl : lv_has ls 3 [(0, .ref (ad 0)), (1, .int u1), (2, .int u2)] := hl
  unfold mi_MO_may at h
  refine lv_aload_n hx hb d_MO_may_0 rfl (lv_at hl 0 rfl) ?_
  refine va_get (ci := 6) (v := .ref (ad 7)) (C := R_MO) (T := F_MO) (N := 24) hx hb hg in_MO hown hK hw.1 0 rfl rfl 10 (by decide) (hg _ q_759) (fun _ h9 => h9) rfl d_MO_may_1 ?_
  refine lv_aload_n hx hb d_MO_may_4 rfl (lv_at hl 0 rfl) ?_
  refine va_get (ci := 6) (v := .ref (ad 10)) (C := R_MO) (T := F_MO) (N := 24) hx hb hg in_MO hown hK hw.1 0 rfl rfl 14 (by decide) (hg _ q_763) (fun _ h9 => h9) rfl d_MO_may_5 ?_
  refine lv_iload_n hx hb d_MO_may_8 rfl (lv_at hl 1 rfl) ?_
  refine oc h (fun hc1 h => ?_)
  refine va_iald hx hb hK hw.1 10 0 rfl rfl hc1 d_MO_may_9 ?_
  refine oc h (fun hc2 h => ?_)
  refine va_iald hx hb hK hw.1 7 0 rfl rfl hc2 d_MO_may_10 ?_
  refine lv_iload_n hx hb d_MO_may_11 rfl (lv_at hl 2 rfl) ?_
  refine lv_ishr hx hb d_MO_may_12 ?_
  refine lv_iconst (v := 1) hx hb d_MO_may_13 (by decide) ?_
  refine lv_iand hx hb d_MO_may_14 ?_
  refine lv_iconst (v := 1) hx hb d_MO_may_15 (by decide) ?_
  refine lv_icmp_ne (tgt := 23) hx hb d_MO_may_16 (by decide) (fun hc => ?_) (fun hc => ?_)
  · have h := oe h hc
    refine lv_iconst (v := 0) hx hb d_MO_may_23 (by decide) ?_
    have q := Option.some.inj h
    subst q
    exact fw_zret hQ S hr rfl hlk hX hw d_MO_may_24
  · have h := oi h hc
    refine lv_iconst (v := 1) hx hb d_MO_may_19 (by decide) ?_
    refine lv_goto (tgt := 24) hx hb d_MO_may_20 (by decide) ?_
    have q := Option.some.inj h
    subst q
    exact fw_zret hQ S hr rfl hlk hX hw d_MO_may_24
set_option maxHeartbeats 4000000 in
set_option maxRecDepth 100000 in
theorem ct_MO_lose (l : Launch) (D : va_G) (ad : Nat → Nat) (cI cL : ClassId) (N : Nat) (th : Int32) (ki : Int32) (ce : Int32) (wi : Int32) (ma : Int32) (fo : Int32) (cu : Nat → Int32) (gr : Nat → Int32) (ru : Nat → Int32) (nu : Nat → Int32) (gv : Nat → Int32) (ca : Nat → Int32) (nw : Nat → Int32) (lo : Nat → Int32) (ke : Nat → Int32) (un : Nat → Int32) (cn : Nat → Int32) (fi : Nat → Int32) (fl : Nat → Int32) (pa : Nat → Int32) (sh : Nat → Int32) (od : Nat → Int32) (bd : Nat → Int32) (bs : Nat → Int32)  (out : (Nat → Int32)) (h : mi_MO_lose N ma nw lo un cn = some out) : fw_C l y_MO_lose (.code y_MO_lose b_MO_lose 2 (none) :: Gw) (fr 0 0) D vwCl (tyA cI cL) [.ref (ad 0)] (wM ad cI cL th ki ce wi ma fo cu gr ru nu gv ca nw lo ke un cn fi fl pa sh od bd bs) none (wM ad cI cL th ki ce wi ma fo cu gr ru nu gv ca nw out ke un cn fi fl pa sh od bd bs) := by
  refine fw_of (by decide) (Nat.le_of_ble_eq_true rfl) ?_
  intro p e s m args below meth c ls A R Q hR hQ S hr hlk hX hA hl hw
  have hK := hX.1
  have hx := S.1
  have hb := S.2.1
  have hown := S.2.2.2.1
  have hg := S.2.2.2.2
  have hl : lv_has ls 2 [(0, .ref (ad 0))] := hl
  unfold mi_MO_lose at h
  refine lv_iconst (v := 0) hx hb d_MO_lose_0 (by decide) ?_
  refine lv_istore_n (lv' := [(1, .int (0 : Int32)), (0, .ref (ad 0))]) hx hb d_MO_lose_1 rfl hl (by decide) rfl (fun ls hl => ?_)
  have X2 : ∀ (y2 : Int32 × (Nat → Int32)), mr_MO_lose_2 y2 = some out → ∀ (ls : Array Slot) (H : Heap) (locs : List Loc), lv_has ls 2 [] → fw_H D vwCl A s.heap (wM ad cI cL th ki ce wi ma fo cu gr ru nu gv ca nw y2.2 ke un cn fi fl pa sh od bd bs) H locs → W p l e R s m args below meth c H locs 0 0 Q (F0 m 50 ls []) := by
    intro y2 h ls H locs hl hw
    unfold mr_MO_lose_2 at h
    have q := Option.some.inj h
    subst q
    exact fw_vret hQ S hr hlk hX hw d_MO_lose_50
  have L2 : ∀ (n2 : Nat) (x2 : Int32 × (Nat → Int32)) (e2 : Int32 × (Nat → Int32)), lp (mb_MO_lose_2 ma nw un cn) n2 x2 = some e2 → (mr_MO_lose_2) e2 = some out → ∀ (ls : Array Slot) (H : Heap) (locs : List Loc), lv_has ls 2 [(0, .ref (ad 0)), (1, .int x2.1)] → fw_H D vwCl A s.heap (wM ad cI cL th ki ce wi ma fo cu gr ru nu gv ca nw x2.2 ke un cn fi fl pa sh od bd bs) H locs → W p l e R s m args below meth c H locs 0 0 Q (F0 m 2 ls []) := by
    intro n2
    induction n2 with
    | zero => intro x2 e2 h1; exact absurd h1 lp_0
    | succ n2 ih2 =>
      intro x2 e2 h1 hr2 ls H locs hl hw
      rw [lp_s] at h1
      refine ob h1 (fun r2 h hk2 => ?_)
      unfold mb_MO_lose_2 at h
      refine lv_iload_n hx hb d_MO_lose_2 rfl (lv_at hl 1 rfl) ?_
      refine lv_aload_n hx hb d_MO_lose_3 rfl (lv_at hl 0 rfl) ?_
      refine va_get (ci := 6) (v := .int ma) (C := R_MO) (T := F_MO) (N := 24) hx hb hg in_MO hown hK hw.1 0 rfl rfl 13 (by decide) (hg _ q_762) (fun _ h9 => h9) rfl d_MO_lose_4 ?_
      refine lv_icmp_ge (tgt := 50) hx hb d_MO_lose_7 (by decide) (fun hc => ?_) (fun hc => ?_)
      · have h := oi h hc
        have q := Option.some.inj h
        subst q
        have q := Option.some.inj hk2
        subst q
        exact X2 (x2.1, x2.2) hr2 _ _ _ (lv_sub hl [] rfl) hw
      · have h := oe h hc
        refine lv_aload_n hx hb d_MO_lose_10 rfl (lv_at hl 0 rfl) ?_
        refine va_get (ci := 6) (v := .ref (ad 8)) (C := R_MO) (T := F_MO) (N := 24) hx hb hg in_MO hown hK hw.1 0 rfl rfl 11 (by decide) (hg _ q_760) (fun _ h9 => h9) rfl d_MO_lose_11 ?_
        refine lv_aload_n hx hb d_MO_lose_14 rfl (lv_at hl 0 rfl) ?_
        refine va_get (ci := 6) (v := .ref (ad 10)) (C := R_MO) (T := F_MO) (N := 24) hx hb hg in_MO hown hK hw.1 0 rfl rfl 14 (by decide) (hg _ q_763) (fun _ h9 => h9) rfl d_MO_lose_15 ?_
        refine lv_iload_n hx hb d_MO_lose_18 rfl (lv_at hl 1 rfl) ?_
        refine oc h (fun hc1 h => ?_)
        refine va_iald hx hb hK hw.1 10 0 rfl rfl hc1 d_MO_lose_19 ?_
        refine lv_dup2_11 hx hb d_MO_lose_20 rfl rfl ?_
        refine oc h (fun hc2 h => ?_)
        refine va_iald hx hb hK hw.1 8 0 rfl rfl hc2 d_MO_lose_21 ?_
        refine lv_aload_n hx hb d_MO_lose_22 rfl (lv_at hl 0 rfl) ?_
        refine va_get (ci := 6) (v := .ref (ad 7)) (C := R_MO) (T := F_MO) (N := 24) hx hb hg in_MO hown hK hw.1 0 rfl rfl 10 (by decide) (hg _ q_759) (fun _ h9 => h9) rfl d_MO_lose_23 ?_
        refine lv_aload_n hx hb d_MO_lose_26 rfl (lv_at hl 0 rfl) ?_
        refine va_get (ci := 6) (v := .ref (ad 10)) (C := R_MO) (T := F_MO) (N := 24) hx hb hg in_MO hown hK hw.1 0 rfl rfl 14 (by decide) (hg _ q_763) (fun _ h9 => h9) rfl d_MO_lose_27 ?_
        refine lv_iload_n hx hb d_MO_lose_30 rfl (lv_at hl 1 rfl) ?_
        refine va_iald hx hb hK hw.1 10 0 rfl rfl hc1 d_MO_lose_31 ?_
        refine va_iald hx hb hK hw.1 7 0 rfl rfl hc2 d_MO_lose_32 ?_
        refine lv_aload_n hx hb d_MO_lose_33 rfl (lv_at hl 0 rfl) ?_
        refine va_get (ci := 6) (v := .ref (ad 11)) (C := R_MO) (T := F_MO) (N := 24) hx hb hg in_MO hown hK hw.1 0 rfl rfl 15 (by decide) (hg _ q_764) (fun _ h9 => h9) rfl d_MO_lose_34 ?_
        refine lv_iload_n hx hb d_MO_lose_37 rfl (lv_at hl 1 rfl) ?_
        refine va_iald hx hb hK hw.1 11 0 rfl rfl hc1 d_MO_lose_38 ?_
        refine lv_iconst (v := (-1)) hx hb d_MO_lose_39 (by decide) ?_
        refine lv_ixor hx hb d_MO_lose_40 ?_
        refine lv_iand hx hb d_MO_lose_41 ?_
        refine lv_ior hx hb d_MO_lose_42 ?_
        refine va_iast hx hb hK hw.1 hw.2.1 hw.2.2 8 0 rfl rfl hc2 d_MO_lose_43 (fun H locs hP hD hS => ?_)
        have hw : fw_H D vwCl A s.heap (wM ad cI cL th ki ce wi ma fo cu gr ru nu gv ca nw (upd x2.2 (un x2.1.toNatClampNeg).toNatClampNeg ((x2.2 (un x2.1.toNatClampNeg).toNatClampNeg) ||| ((nw (un x2.1.toNatClampNeg).toNatClampNeg) &&& ((cn x2.1.toNatClampNeg) ^^^ (-1 : Int32))))) ke un cn fi fl pa sh od bd bs) H locs := ⟨hP, hD, hS⟩
        refine lv_iinc (k := 1) (v := x2.1 + 1) (lv' := [(1, .int (x2.1 + 1)), (0, .ref (ad 0))]) hx hb d_MO_lose_44 hl rfl (by rw [lit1]) (by decide) rfl (fun ls hl => ?_)
        refine lv_goto (tgt := 2) hx hb d_MO_lose_47 (by decide) ?_
        have q := Option.some.inj h
        subst q
        exact ih2 (x2.1 + 1, upd x2.2 (un x2.1.toNatClampNeg).toNatClampNeg ((x2.2 (un x2.1.toNatClampNeg).toNatClampNeg) ||| ((nw (un x2.1.toNatClampNeg).toNatClampNeg) &&& ((cn x2.1.toNatClampNeg) ^^^ (-1 : Int32))))) e2 hk2 hr2 _ _ _ (lv_sub hl [1, 0] rfl) hw
  refine ob h (fun e2 h1 h2 => ?_)
  exact L2 N ((0 : Int32), lo) e2 h1 h2 _ _ _ (lv_sub hl [1, 0] rfl) hw
set_option maxHeartbeats 4000000 in
set_option maxRecDepth 100000 in
theorem ct_MO_beginUnit (l : Launch) (D : va_G) (ad : Nat → Nat) (cI cL : ClassId) (N : Nat) (th : Int32) (ki : Int32) (ce : Int32) (wi : Int32) (ma : Int32) (fo : Int32) (cu : Nat → Int32) (gr : Nat → Int32) (ru : Nat → Int32) (nu : Nat → Int32) (gv : Nat → Int32) (ca : Nat → Int32) (nw : Nat → Int32) (lo : Nat → Int32) (ke : Nat → Int32) (un : Nat → Int32) (cn : Nat → Int32) (fi : Nat → Int32) (fl : Nat → Int32) (pa : Nat → Int32) (sh : Nat → Int32) (od : Nat → Int32) (bd : Nat → Int32) (bs : Nat → Int32)  (out : Int32 × (Nat → Int32)) (h : mi_MO_beginUnit N ma cn = some out) : fw_C l y_MO_beginUnit (.code y_MO_beginUnit b_MO_beginUnit 2 (none) :: Gw) (fr 0 0) D vwCl (tyA cI cL) [.ref (ad 0)] (wM ad cI cL th ki ce wi ma fo cu gr ru nu gv ca nw lo ke un cn fi fl pa sh od bd bs) none (wM ad cI cL th ki ce wi out.1 fo cu gr ru nu gv ca nw lo ke un out.2 fi fl pa sh od bd bs) := by
  refine fw_of (by decide) (Nat.le_of_ble_eq_true rfl) ?_
  intro p e s m args below meth c ls A R Q hR hQ S hr hlk hX hA hl hw
  have hK := hX.1
  have hx := S.1
  have hb := S.2.1
  have hown := S.2.2.2.1
  have hg := S.2.2.2.2
  have hl : lv_has ls 2 [(0, .ref (ad 0))] := hl
  unfold mi_MO_beginUnit at h
  refine lv_aload_n hx hb d_MO_beginUnit_0 rfl (lv_at hl 0 rfl) ?_
  refine lv_iconst (v := 0) hx hb d_MO_beginUnit_1 (by decide) ?_
  refine va_put (ci := 6) (v := .int (0 : Int32)) (ty := .int) (C := R_MO) (T := F_MO) (N := 24) hx hb hg in_MO t_MO t_MO_ok n_MO hown hK hw.1 hw.2.1 hw.2.2 0 rfl rfl 13 (by decide) (hg _ q_762) (fun _ h9 => h9) rfl (by decide +kernel) rfl rfl (Nat.le_of_ble_eq_true rfl) d_MO_beginUnit_2 (fun H locs hP hD hS => ?_)
  have hw : fw_H D vwCl A s.heap (wM ad cI cL th ki ce wi (0 : Int32) fo cu gr ru nu gv ca nw lo ke un cn fi fl pa sh od bd bs) H locs := ⟨hP, hD, hS⟩
  refine lv_iconst (v := 0) hx hb d_MO_beginUnit_5 (by decide) ?_
  refine lv_istore_n (lv' := [(1, .int (0 : Int32)), (0, .ref (ad 0))]) hx hb d_MO_beginUnit_6 rfl hl (by decide) rfl (fun ls hl => ?_)
  have X7 : ∀ (y7 : Int32 × (Nat → Int32)), mr_MO_beginUnit_7 y7 = some out → ∀ (ls : Array Slot) (H : Heap) (locs : List Loc), lv_has ls 2 [] → fw_H D vwCl A s.heap (wM ad cI cL th ki ce wi (0 : Int32) fo cu gr ru nu gv ca nw lo ke un y7.2 fi fl pa sh od bd bs) H locs → W p l e R s m args below meth c H locs 0 0 Q (F0 m 26 ls []) := by
    intro y7 h ls H locs hl hw
    unfold mr_MO_beginUnit_7 at h
    have q := Option.some.inj h
    subst q
    exact fw_vret hQ S hr hlk hX hw d_MO_beginUnit_26
  have L7 : ∀ (n7 : Nat) (x7 : Int32 × (Nat → Int32)) (e7 : Int32 × (Nat → Int32)), lp (mb_MO_beginUnit_7) n7 x7 = some e7 → (mr_MO_beginUnit_7) e7 = some out → ∀ (ls : Array Slot) (H : Heap) (locs : List Loc), lv_has ls 2 [(0, .ref (ad 0)), (1, .int x7.1)] → fw_H D vwCl A s.heap (wM ad cI cL th ki ce wi (0 : Int32) fo cu gr ru nu gv ca nw lo ke un x7.2 fi fl pa sh od bd bs) H locs → W p l e R s m args below meth c H locs 0 0 Q (F0 m 7 ls []) := by
    intro n7
    induction n7 with
    | zero => intro x7 e7 h1; exact absurd h1 lp_0
    | succ n7 ih7 =>
      intro x7 e7 h1 hr7 ls H locs hl hw
      rw [lp_s] at h1
      refine ob h1 (fun r7 h hk7 => ?_)
      unfold mb_MO_beginUnit_7 at h
      refine lv_iload_n hx hb d_MO_beginUnit_7 rfl (lv_at hl 1 rfl) ?_
      refine lv_bipush (v := 25) hx hb d_MO_beginUnit_8 (by decide) ?_
      refine lv_icmp_ge (tgt := 26) hx hb d_MO_beginUnit_10 (by decide) (fun hc => ?_) (fun hc => ?_)
      · have h := oi h hc
        have q := Option.some.inj h
        subst q
        have q := Option.some.inj hk7
        subst q
        exact X7 (x7.1, x7.2) hr7 _ _ _ (lv_sub hl [] rfl) hw
      · have h := oe h hc
        refine lv_aload_n hx hb d_MO_beginUnit_13 rfl (lv_at hl 0 rfl) ?_
        refine va_get (ci := 6) (v := .ref (ad 11)) (C := R_MO) (T := F_MO) (N := 24) hx hb hg in_MO hown hK hw.1 0 rfl rfl 15 (by decide) (hg _ q_764) (fun _ h9 => h9) rfl d_MO_beginUnit_14 ?_
        refine lv_iload_n hx hb d_MO_beginUnit_17 rfl (lv_at hl 1 rfl) ?_
        refine lv_iconst (v := 0) hx hb d_MO_beginUnit_18 (by decide) ?_
        refine oc h (fun hc1 h => ?_)
        refine va_iast hx hb hK hw.1 hw.2.1 hw.2.2 11 0 rfl rfl hc1 d_MO_beginUnit_19 (fun H locs hP hD hS => ?_)
        have hw : fw_H D vwCl A s.heap (wM ad cI cL th ki ce wi (0 : Int32) fo cu gr ru nu gv ca nw lo ke un (upd x7.2 x7.1.toNatClampNeg (0 : Int32)) fi fl pa sh od bd bs) H locs := ⟨hP, hD, hS⟩
        refine lv_iinc (k := 1) (v := x7.1 + 1) (lv' := [(1, .int (x7.1 + 1)), (0, .ref (ad 0))]) hx hb d_MO_beginUnit_20 hl rfl (by rw [lit1]) (by decide) rfl (fun ls hl => ?_)
        refine lv_goto (tgt := 7) hx hb d_MO_beginUnit_23 (by decide) ?_
        have q := Option.some.inj h
        subst q
        exact ih7 (x7.1 + 1, upd x7.2 x7.1.toNatClampNeg (0 : Int32)) e7 hk7 hr7 _ _ _ (lv_sub hl [1, 0] rfl) hw
  refine ob h (fun e7 h1 h2 => ?_)
  exact L7 N ((0 : Int32), cn) e7 h1 h2 _ _ _ (lv_sub hl [1, 0] rfl) hw
set_option maxHeartbeats 4000000 in
set_option maxRecDepth 100000 in
theorem ct_MO_addCell (l : Launch) (D : va_G) (ad : Nat → Nat) (cI cL : ClassId) (N : Nat) (th : Int32) (ki : Int32) (ce : Int32) (wi : Int32) (ma : Int32) (fo : Int32) (cu : Nat → Int32) (gr : Nat → Int32) (ru : Nat → Int32) (nu : Nat → Int32) (gv : Nat → Int32) (ca : Nat → Int32) (nw : Nat → Int32) (lo : Nat → Int32) (ke : Nat → Int32) (un : Nat → Int32) (cn : Nat → Int32) (fi : Nat → Int32) (fl : Nat → Int32) (pa : Nat → Int32) (sh : Nat → Int32) (od : Nat → Int32) (bd : Nat → Int32) (bs : Nat → Int32) (u1 : Int32) (out : Int32 × (Nat → Int32)) (h : mi_MO_addCell N ma un u1 = some out) : fw_C l y_MO_addCell (.code y_MO_addCell b_MO_addCell 2 (none) :: Gw) (fr 0 0) D vwCl (tyA cI cL) [.ref (ad 0), .int u1] (wM ad cI cL th ki ce wi ma fo cu gr ru nu gv ca nw lo ke un cn fi fl pa sh od bd bs) none (wM ad cI cL th ki ce wi out.1 fo cu gr ru nu gv ca nw lo ke out.2 cn fi fl pa sh od bd bs) := by
  refine fw_of (by decide) (Nat.le_of_ble_eq_true rfl) ?_
  intro p e s m args below meth c ls A R Q hR hQ S hr hlk hX hA hl hw
  have hK := hX.1
  have hx := S.1
  have hb := S.2.1
  have hown := S.2.2.2.1
  have hg := S.2.2.2.2
  have hl : lv_has ls 2 [(0, .ref (ad 0)), (1, .int u1)] := hl
  unfold mi_MO_addCell at h
  refine lv_aload_n hx hb d_MO_addCell_0 rfl (lv_at hl 0 rfl) ?_
  refine va_get (ci := 6) (v := .ref (ad 10)) (C := R_MO) (T := F_MO) (N := 24) hx hb hg in_MO hown hK hw.1 0 rfl rfl 14 (by decide) (hg _ q_763) (fun _ h9 => h9) rfl d_MO_addCell_1 ?_
  refine lv_aload_n hx hb d_MO_addCell_4 rfl (lv_at hl 0 rfl) ?_
  refine va_get (ci := 6) (v := .int ma) (C := R_MO) (T := F_MO) (N := 24) hx hb hg in_MO hown hK hw.1 0 rfl rfl 13 (by decide) (hg _ q_762) (fun _ h9 => h9) rfl d_MO_addCell_5 ?_
  refine lv_iload_n hx hb d_MO_addCell_8 rfl (lv_at hl 1 rfl) ?_
  refine oc h (fun hc1 h => ?_)
  refine va_iast hx hb hK hw.1 hw.2.1 hw.2.2 10 0 rfl rfl hc1 d_MO_addCell_9 (fun H locs hP hD hS => ?_)
  have hw : fw_H D vwCl A s.heap (wM ad cI cL th ki ce wi ma fo cu gr ru nu gv ca nw lo ke (upd un ma.toNatClampNeg u1) cn fi fl pa sh od bd bs) H locs := ⟨hP, hD, hS⟩
  refine lv_aload_n hx hb d_MO_addCell_10 rfl (lv_at hl 0 rfl) ?_
  refine lv_dup hx hb d_MO_addCell_11 rfl ?_
  refine va_get (ci := 6) (v := .int ma) (C := R_MO) (T := F_MO) (N := 24) hx hb hg in_MO hown hK hw.1 0 rfl rfl 13 (by decide) (hg _ q_762) (fun _ h9 => h9) rfl d_MO_addCell_12 ?_
  refine lv_iconst (v := 1) hx hb d_MO_addCell_15 (by decide) ?_
  refine lv_iadd hx hb d_MO_addCell_16 ?_
  refine va_put (ci := 6) (v := .int (ma + (1 : Int32))) (ty := .int) (C := R_MO) (T := F_MO) (N := 24) hx hb hg in_MO t_MO t_MO_ok n_MO hown hK hw.1 hw.2.1 hw.2.2 0 rfl rfl 13 (by decide) (hg _ q_762) (fun _ h9 => h9) rfl (by decide +kernel) rfl rfl (Nat.le_of_ble_eq_true rfl) d_MO_addCell_17 (fun H locs hP hD hS => ?_)
  have hw : fw_H D vwCl A s.heap (wM ad cI cL th ki ce wi (ma + (1 : Int32)) fo cu gr ru nu gv ca nw lo ke (upd un ma.toNatClampNeg u1) cn fi fl pa sh od bd bs) H locs := ⟨hP, hD, hS⟩
  have q := Option.some.inj h
  subst q
  exact fw_vret hQ S hr hlk hX hw d_MO_addCell_20
set_option maxHeartbeats 4000000 in
set_option maxRecDepth 100000 in
theorem ct_MO_addLine (l : Launch) (D : va_G) (ad : Nat → Nat) (cI cL : ClassId) (N : Nat) (th : Int32) (ki : Int32) (ce : Int32) (wi : Int32) (ma : Int32) (fo : Int32) (cu : Nat → Int32) (gr : Nat → Int32) (ru : Nat → Int32) (nu : Nat → Int32) (gv : Nat → Int32) (ca : Nat → Int32) (nw : Nat → Int32) (lo : Nat → Int32) (ke : Nat → Int32) (un : Nat → Int32) (cn : Nat → Int32) (fi : Nat → Int32) (fl : Nat → Int32) (pa : Nat → Int32) (sh : Nat → Int32) (od : Nat → Int32) (bd : Nat → Int32) (bs : Nat → Int32) (u1 : Int32) (out : Int32 × (Nat → Int32) × (Nat → Int32)) (h : mi_MO_addLine N wi ma un cn u1 = some out) : fw_C l y_MO_addLine (.code y_MO_addLine b_MO_addLine 3 (none) :: Gw) (fr 1 21) D vwCl (tyA cI cL) [.ref (ad 0), .int u1] (wM ad cI cL th ki ce wi ma fo cu gr ru nu gv ca nw lo ke un cn fi fl pa sh od bd bs) none (wM ad cI cL th ki ce wi out.1 fo cu gr ru nu gv ca nw lo ke out.2.1 out.2.2 fi fl pa sh od bd bs) := by
  refine fw_of (by decide) (Nat.le_of_ble_eq_true rfl) ?_
  intro p e s m args below meth c ls A R Q hR hQ S hr hlk hX hA hl hw
  have hK := hX.1
  have hx := S.1
  have hb := S.2.1
  have hown := S.2.2.2.1
  have hg := S.2.2.2.2
  have hl : lv_has ls 3 [(0, .ref (ad 0)), (1, .int u1)] := hl
  unfold mi_MO_addLine at h
  refine lv_aload_n hx hb d_MO_addLine_0 rfl (lv_at hl 0 rfl) ?_
  refine ob h (fun r1 h1 h => ?_)
  refine fw_callV (As := []) (rest := []) (st1 := []) S (ct_MO_beginUnit l D ad cI cL N th ki ce wi ma fo cu gr ru nu gv ca nw lo ke un cn fi fl pa sh od bd bs r1 h1) q_936 q_938 s_35 q_10 k_MO_beginUnit hd_MO_beginUnit ⟨by rw [hR]; decide, by rw [hR]; decide⟩ rfl rfl hX hw hA 0 (ci := 6) rfl rfl hl.1 rfl rfl (Nat.le_of_ble_eq_true rfl) d_MO_addLine_1 ⟨Nat.zero_le _, Nat.zero_le _⟩ rfl (fun H locs hw => ?_)
  refine lv_iconst (v := 0) hx hb d_MO_addLine_4 (by decide) ?_
  refine lv_istore_n (lv' := [(2, .int (0 : Int32)), (0, .ref (ad 0)), (1, .int u1)]) hx hb d_MO_addLine_5 rfl hl (by decide) rfl (fun ls hl => ?_)
  have X6 : ∀ (y6 : Int32 × Int32 × (Nat → Int32)), mr_MO_addLine_6 r1 y6 = some out → ∀ (ls : Array Slot) (H : Heap) (locs : List Loc), lv_has ls 3 [] → fw_H D vwCl A s.heap (wM ad cI cL th ki ce wi y6.2.1 fo cu gr ru nu gv ca nw lo ke y6.2.2 r1.2 fi fl pa sh od bd bs) H locs → W p l e R s m args below meth c H locs 0 0 Q (F0 m 56 ls []) := by
    intro y6 h ls H locs hl hw
    unfold mr_MO_addLine_6 at h
    have q := Option.some.inj h
    subst q
    exact fw_vret hQ S hr hlk hX hw d_MO_addLine_56
  have L6 : ∀ (n6 : Nat) (x6 : Int32 × Int32 × (Nat → Int32)) (e6 : Int32 × Int32 × (Nat → Int32)), lp (mb_MO_addLine_6 N wi u1) n6 x6 = some e6 → (mr_MO_addLine_6 r1) e6 = some out → ∀ (ls : Array Slot) (H : Heap) (locs : List Loc), lv_has ls 3 [(0, .ref (ad 0)), (1, .int u1), (2, .int x6.1)] → fw_H D vwCl A s.heap (wM ad cI cL th ki ce wi x6.2.1 fo cu gr ru nu gv ca nw lo ke x6.2.2 r1.2 fi fl pa sh od bd bs) H locs → W p l e R s m args below meth c H locs 0 0 Q (F0 m 6 ls []) := by
    intro n6
    induction n6 with
    | zero => intro x6 e6 h1; exact absurd h1 lp_0
    | succ n6 ih6 =>
      intro x6 e6 h1 hr6 ls H locs hl hw
      rw [lp_s] at h1
      refine ob h1 (fun r6 h hk6 => ?_)
      unfold mb_MO_addLine_6 at h
      refine lv_iload_n hx hb d_MO_addLine_6 rfl (lv_at hl 2 rfl) ?_
      refine lv_aload_n hx hb d_MO_addLine_7 rfl (lv_at hl 0 rfl) ?_
      refine va_get (ci := 6) (v := .int wi) (C := R_MO) (T := F_MO) (N := 24) hx hb hg in_MO hown hK hw.1 0 rfl rfl 3 (by decide) (hg _ q_752) (fun _ h9 => h9) rfl d_MO_addLine_8 ?_
      refine lv_icmp_ge (tgt := 56) hx hb d_MO_addLine_11 (by decide) (fun hc => ?_) (fun hc => ?_)
      · have h := oi h hc
        have q := Option.some.inj h
        subst q
        have q := Option.some.inj hk6
        subst q
        exact X6 (x6.1, x6.2.1, x6.2.2) hr6 _ _ _ (lv_sub hl [] rfl) hw
      · have h := oe h hc
        refine lv_aload_n hx hb d_MO_addLine_14 rfl (lv_at hl 0 rfl) ?_
        refine lv_iload_n hx hb d_MO_addLine_15 rfl (lv_at hl 1 rfl) ?_
        refine lv_aload_n hx hb d_MO_addLine_16 rfl (lv_at hl 0 rfl) ?_
        refine va_get (ci := 6) (v := .int wi) (C := R_MO) (T := F_MO) (N := 24) hx hb hg in_MO hown hK hw.1 0 rfl rfl 3 (by decide) (hg _ q_752) (fun _ h9 => h9) rfl d_MO_addLine_17 ?_
        have J47 : ∀ (j47s1 : Int32), mj_MO_addLine_47 N x6 j47s1 = some r6 → ∀ (ls : Array Slot) (H : Heap) (locs : List Loc), lv_has ls 3 [(0, .ref (ad 0)), (1, .int u1), (2, .int x6.1)] → fw_H D vwCl A s.heap (wM ad cI cL th ki ce wi x6.2.1 fo cu gr ru nu gv ca nw lo ke x6.2.2 r1.2 fi fl pa sh od bd bs) H locs → W p l e R s m args below meth c H locs 0 0 Q (F0 m 47 ls [.int j47s1, .ref (ad 0)]) := by
          intro j47s1 h ls H locs hl hw
          unfold mj_MO_addLine_47 at h
          refine ob h (fun r47 h47 h => ?_)
          refine fw_callV (As := [.int j47s1]) (rest := []) (st1 := []) S (ct_MO_addCell l D ad cI cL N th ki ce wi x6.2.1 fo cu gr ru nu gv ca nw lo ke x6.2.2 r1.2 fi fl pa sh od bd bs j47s1 r47 h47) q_940 q_942 s_36 q_10 k_MO_addCell hd_MO_addCell ⟨by rw [hR]; decide, by rw [hR]; decide⟩ rfl rfl hX hw hA 0 (ci := 6) rfl rfl hl.1 rfl rfl (Nat.le_of_ble_eq_true rfl) d_MO_addLine_47 ⟨Nat.zero_le _, Nat.zero_le _⟩ rfl (fun H locs hw => ?_)
          refine lv_iinc (k := 2) (v := x6.1 + 1) (lv' := [(2, .int (x6.1 + 1)), (0, .ref (ad 0)), (1, .int u1)]) hx hb d_MO_addLine_50 hl rfl (by rw [lit1]) (by decide) rfl (fun ls hl => ?_)
          refine lv_goto (tgt := 6) hx hb d_MO_addLine_53 (by decide) ?_
          have q := Option.some.inj h
          subst q
          exact ih6 (x6.1 + 1, r47.1, r47.2) e6 hk6 hr6 _ _ _ (lv_sub hl [1, 2, 0] rfl) hw
        refine lv_icmp_ge (tgt := 34) hx hb d_MO_addLine_20 (by decide) (fun hc => ?_) (fun hc => ?_)
        · have h := oi h hc
          refine lv_aload_n hx hb d_MO_addLine_34 rfl (lv_at hl 0 rfl) ?_
          refine va_get (ci := 6) (v := .int wi) (C := R_MO) (T := F_MO) (N := 24) hx hb hg in_MO hown hK hw.1 0 rfl rfl 3 (by decide) (hg _ q_752) (fun _ h9 => h9) rfl d_MO_addLine_35 ?_
          refine lv_iload_n hx hb d_MO_addLine_38 rfl (lv_at hl 2 rfl) ?_
          refine lv_imul hx hb d_MO_addLine_39 ?_
          refine lv_iload_n hx hb d_MO_addLine_40 rfl (lv_at hl 1 rfl) ?_
          refine lv_iadd hx hb d_MO_addLine_41 ?_
          refine lv_aload_n hx hb d_MO_addLine_42 rfl (lv_at hl 0 rfl) ?_
          refine va_get (ci := 6) (v := .int wi) (C := R_MO) (T := F_MO) (N := 24) hx hb hg in_MO hown hK hw.1 0 rfl rfl 3 (by decide) (hg _ q_752) (fun _ h9 => h9) rfl d_MO_addLine_43 ?_
          refine lv_isub hx hb d_MO_addLine_46 ?_
          exact J47 (((wi * x6.1) + u1) - wi) h _ _ _ hl hw
        · have h := oe h hc
          refine lv_aload_n hx hb d_MO_addLine_23 rfl (lv_at hl 0 rfl) ?_
          refine va_get (ci := 6) (v := .int wi) (C := R_MO) (T := F_MO) (N := 24) hx hb hg in_MO hown hK hw.1 0 rfl rfl 3 (by decide) (hg _ q_752) (fun _ h9 => h9) rfl d_MO_addLine_24 ?_
          refine lv_iload_n hx hb d_MO_addLine_27 rfl (lv_at hl 1 rfl) ?_
          refine lv_imul hx hb d_MO_addLine_28 ?_
          refine lv_iload_n hx hb d_MO_addLine_29 rfl (lv_at hl 2 rfl) ?_
          refine lv_iadd hx hb d_MO_addLine_30 ?_
          refine lv_goto (tgt := 47) hx hb d_MO_addLine_31 (by decide) ?_
          exact J47 ((wi * u1) + x6.1) h _ _ _ hl hw
  refine ob h (fun e6 h1 h2 => ?_)
  exact L6 N ((0 : Int32), r1.1, un) e6 h1 h2 _ _ _ (lv_sub hl [1, 2, 0] rfl) hw
set_option maxHeartbeats 4000000 in
set_option maxRecDepth 100000 in
theorem ct_MO_tryPicture (l : Launch) (D : va_G) (ad : Nat → Nat) (cI cL : ClassId) (N : Nat) (th : Int32) (ki : Int32) (ce : Int32) (wi : Int32) (ma : Int32) (fo : Int32) (cu : Nat → Int32) (gr : Nat → Int32) (ru : Nat → Int32) (nu : Nat → Int32) (gv : Nat → Int32) (ca : Nat → Int32) (nw : Nat → Int32) (lo : Nat → Int32) (ke : Nat → Int32) (un : Nat → Int32) (cn : Nat → Int32) (fi : Nat → Int32) (fl : Nat → Int32) (pa : Nat → Int32) (sh : Nat → Int32) (od : Nat → Int32) (bd : Nat → Int32) (bs : Nat → Int32) (u1 : Int32) (out : Int32 × (Nat → Int32) × (Nat → Int32) × (Nat → Int32)) (h : mi_MO_tryPicture N wi ma cu nw lo un cn sh u1 = some out) : fw_C l y_MO_tryPicture (.code y_MO_tryPicture b_MO_tryPicture 5 (none) :: Gw) (fr 2 43) D vwCl (tyA cI cL) [.ref (ad 0), .int u1] (wM ad cI cL th ki ce wi ma fo cu gr ru nu gv ca nw lo ke un cn fi fl pa sh od bd bs) none (wM ad cI cL th ki ce wi out.1 fo cu gr ru nu gv ca nw out.2.1 ke out.2.2.1 out.2.2.2 fi fl pa sh od bd bs) := by
  refine fw_of (by decide) (Nat.le_of_ble_eq_true rfl) ?_
  intro p e s m args below meth c ls A R Q hR hQ S hr hlk hX hA hl hw
  have hK := hX.1
  have hx := S.1
  have hb := S.2.1
  have hown := S.2.2.2.1
  have hg := S.2.2.2.2
  have hl : lv_has ls 5 [(0, .ref (ad 0)), (1, .int u1)] := hl
  unfold mi_MO_tryPicture at h
  refine lv_aload_n hx hb d_MO_tryPicture_0 rfl (lv_at hl 0 rfl) ?_
  refine lv_iload_n hx hb d_MO_tryPicture_1 rfl (lv_at hl 1 rfl) ?_
  refine ob h (fun r2 h2 h => ?_)
  refine fw_callV (As := [.int u1]) (rest := []) (st1 := []) S (ct_MO_addLine l D ad cI cL N th ki ce wi ma fo cu gr ru nu gv ca nw lo ke un cn fi fl pa sh od bd bs u1 r2 h2) q_932 q_934 s_34 q_10 k_MO_addLine hd_MO_addLine ⟨by rw [hR]; decide, by rw [hR]; decide⟩ rfl rfl hX hw hA 0 (ci := 6) rfl rfl hl.1 rfl rfl (Nat.le_of_ble_eq_true rfl) d_MO_tryPicture_2 ⟨Nat.zero_le _, Nat.zero_le _⟩ rfl (fun H locs hw => ?_)
  refine lv_iconst (v := 0) hx hb d_MO_tryPicture_5 (by decide) ?_
  refine lv_istore_n (lv' := [(2, .int (0 : Int32)), (0, .ref (ad 0)), (1, .int u1)]) hx hb d_MO_tryPicture_6 rfl hl (by decide) rfl (fun ls hl => ?_)
  have X7 : ∀ (y7 : Int32 × (Nat → Int32)), mr_MO_tryPicture_7 N nw lo r2 y7 = some out → ∀ (ls : Array Slot) (H : Heap) (locs : List Loc), lv_has ls 5 [(0, .ref (ad 0))] → fw_H D vwCl A s.heap (wM ad cI cL th ki ce wi r2.1 fo cu gr ru nu gv ca nw lo ke r2.2.1 y7.2 fi fl pa sh od bd bs) H locs → W p l e R s m args below meth c H locs 0 0 Q (F0 m 113 ls []) := by
    intro y7 h ls H locs hl hw
    unfold mr_MO_tryPicture_7 at h
    refine lv_aload_n hx hb d_MO_tryPicture_113 rfl (lv_at hl 0 rfl) ?_
    refine ob h (fun r114 h114 h => ?_)
    refine fw_callV (As := []) (rest := []) (st1 := []) S (ct_MO_lose l D ad cI cL N th ki ce wi r2.1 fo cu gr ru nu gv ca nw lo ke r2.2.1 y7.2 fi fl pa sh od bd bs r114 h114) q_948 q_950 s_38 q_10 k_MO_lose hd_MO_lose ⟨by rw [hR]; decide, by rw [hR]; decide⟩ rfl rfl hX hw hA 0 (ci := 6) rfl rfl hl.1 rfl rfl (Nat.le_of_ble_eq_true rfl) d_MO_tryPicture_114 ⟨Nat.zero_le _, Nat.zero_le _⟩ rfl (fun H locs hw => ?_)
    have q := Option.some.inj h
    subst q
    exact fw_vret hQ S hr hlk hX hw d_MO_tryPicture_117
  have L7 : ∀ (n7 : Nat) (x7 : Int32 × (Nat → Int32)) (e7 : Int32 × (Nat → Int32)), lp (mb_MO_tryPicture_7 N cu nw sh u1 r2) n7 x7 = some e7 → (mr_MO_tryPicture_7 N nw lo r2) e7 = some out → ∀ (ls : Array Slot) (H : Heap) (locs : List Loc), lv_has ls 5 [(0, .ref (ad 0)), (1, .int u1), (2, .int x7.1)] → fw_H D vwCl A s.heap (wM ad cI cL th ki ce wi r2.1 fo cu gr ru nu gv ca nw lo ke r2.2.1 x7.2 fi fl pa sh od bd bs) H locs → W p l e R s m args below meth c H locs 0 0 Q (F0 m 7 ls []) := by
    intro n7
    induction n7 with
    | zero => intro x7 e7 h1; exact absurd h1 lp_0
    | succ n7 ih7 =>
      intro x7 e7 h1 hr7 ls H locs hl hw
      rw [lp_s] at h1
      refine ob h1 (fun r7 h hk7 => ?_)
      unfold mb_MO_tryPicture_7 at h
      refine lv_iload_n hx hb d_MO_tryPicture_7 rfl (lv_at hl 2 rfl) ?_
      refine lv_bipush (v := 32) hx hb d_MO_tryPicture_8 (by decide) ?_
      refine lv_icmp_ge (tgt := 113) hx hb d_MO_tryPicture_10 (by decide) (fun hc => ?_) (fun hc => ?_)
      · have h := oi h hc
        have q := Option.some.inj h
        subst q
        have q := Option.some.inj hk7
        subst q
        exact X7 (x7.1, x7.2) hr7 _ _ _ (lv_sub hl [0] rfl) hw
      · have h := oe h hc
        refine lv_aload_n hx hb d_MO_tryPicture_13 rfl (lv_at hl 0 rfl) ?_
        refine va_get (ci := 6) (v := .ref (ad 15)) (C := R_MO) (T := F_MO) (N := 24) hx hb hg in_MO hown hK hw.1 0 rfl rfl 20 (by decide) (hg _ q_769) (fun _ h9 => h9) rfl d_MO_tryPicture_14 ?_
        refine lv_iload_n hx hb d_MO_tryPicture_17 rfl (lv_at hl 2 rfl) ?_
        refine oc h (fun hc1 h => ?_)
        refine va_iald hx hb hK hw.1 15 0 rfl rfl hc1 d_MO_tryPicture_18 ?_
        refine lv_aload_n hx hb d_MO_tryPicture_19 rfl (lv_at hl 0 rfl) ?_
        refine va_get (ci := 6) (v := .ref (ad 1)) (C := R_MO) (T := F_MO) (N := 24) hx hb hg in_MO hown hK hw.1 0 rfl rfl 4 (by decide) (hg _ q_753) (fun _ h9 => h9) rfl d_MO_tryPicture_20 ?_
        refine lv_iload_n hx hb d_MO_tryPicture_23 rfl (lv_at hl 1 rfl) ?_
        refine oc h (fun hc2 h => ?_)
        refine va_iald hx hb hK hw.1 1 0 rfl rfl hc2 d_MO_tryPicture_24 ?_
        have J33 : ∀ (j33s0 : Int32), mj_MO_tryPicture_33 N nw r2 x7 j33s0 = some r7 → ∀ (ls : Array Slot) (H : Heap) (locs : List Loc), lv_has ls 5 [(0, .ref (ad 0)), (1, .int u1), (2, .int x7.1)] → fw_H D vwCl A s.heap (wM ad cI cL th ki ce wi r2.1 fo cu gr ru nu gv ca nw lo ke r2.2.1 x7.2 fi fl pa sh od bd bs) H locs → W p l e R s m args below meth c H locs 0 0 Q (F0 m 33 ls [.int j33s0]) := by
          intro j33s0 h ls H locs hl hw
          unfold mj_MO_tryPicture_33 at h
          refine lv_istore_n (lv' := [(3, .int j33s0), (0, .ref (ad 0)), (1, .int u1), (2, .int x7.1)]) hx hb d_MO_tryPicture_33 rfl hl (by decide) rfl (fun ls hl => ?_)
          refine lv_iconst (v := 0) hx hb d_MO_tryPicture_34 (by decide) ?_
          refine lv_istore (lv' := [(4, .int (0 : Int32)), (3, .int j33s0), (0, .ref (ad 0)), (1, .int u1), (2, .int x7.1)]) hx hb d_MO_tryPicture_35 hl (by decide) rfl (fun ls hl => ?_)
          have X37 : ∀ (y37 : Int32 × Int32), mr_MO_tryPicture_37 N x7 y37 = some r7 → ∀ (ls : Array Slot) (H : Heap) (locs : List Loc), lv_has ls 5 [(0, .ref (ad 0)), (1, .int u1), (2, .int x7.1), (3, .int y37.1)] → fw_H D vwCl A s.heap (wM ad cI cL th ki ce wi r2.1 fo cu gr ru nu gv ca nw lo ke r2.2.1 x7.2 fi fl pa sh od bd bs) H locs → W p l e R s m args below meth c H locs 0 0 Q (F0 m 68 ls []) := by
            intro y37 h ls H locs hl hw
            unfold mr_MO_tryPicture_37 at h
            refine lv_iconst (v := 0) hx hb d_MO_tryPicture_68 (by decide) ?_
            refine lv_istore (lv' := [(4, .int (0 : Int32)), (0, .ref (ad 0)), (1, .int u1), (2, .int x7.1), (3, .int y37.1)]) hx hb d_MO_tryPicture_69 hl (by decide) rfl (fun ls hl => ?_)
            have X71 : ∀ (y71 : Int32 × (Nat → Int32)), mr_MO_tryPicture_71 x7 y71 = some r7 → ∀ (ls : Array Slot) (H : Heap) (locs : List Loc), lv_has ls 5 [(0, .ref (ad 0)), (1, .int u1), (2, .int x7.1)] → fw_H D vwCl A s.heap (wM ad cI cL th ki ce wi r2.1 fo cu gr ru nu gv ca nw lo ke r2.2.1 y71.2 fi fl pa sh od bd bs) H locs → W p l e R s m args below meth c H locs 0 0 Q (F0 m 107 ls []) := by
              intro y71 h ls H locs hl hw
              unfold mr_MO_tryPicture_71 at h
              refine lv_iinc (k := 2) (v := x7.1 + 1) (lv' := [(2, .int (x7.1 + 1)), (0, .ref (ad 0)), (1, .int u1)]) hx hb d_MO_tryPicture_107 hl rfl (by rw [lit1]) (by decide) rfl (fun ls hl => ?_)
              refine lv_goto (tgt := 7) hx hb d_MO_tryPicture_110 (by decide) ?_
              have q := Option.some.inj h
              subst q
              exact ih7 (x7.1 + 1, y71.2) e7 hk7 hr7 _ _ _ (lv_sub hl [1, 2, 0] rfl) hw
            have L71 : ∀ (n71 : Nat) (x71 : Int32 × (Nat → Int32)) (e71 : Int32 × (Nat → Int32)), lp (mb_MO_tryPicture_71 x7 y37) n71 x71 = some e71 → (mr_MO_tryPicture_71 x7) e71 = some r7 → ∀ (ls : Array Slot) (H : Heap) (locs : List Loc), lv_has ls 5 [(0, .ref (ad 0)), (1, .int u1), (2, .int x7.1), (3, .int y37.1), (4, .int x71.1)] → fw_H D vwCl A s.heap (wM ad cI cL th ki ce wi r2.1 fo cu gr ru nu gv ca nw lo ke r2.2.1 x71.2 fi fl pa sh od bd bs) H locs → W p l e R s m args below meth c H locs 0 0 Q (F0 m 71 ls []) := by
              intro n71
              induction n71 with
              | zero => intro x71 e71 h1; exact absurd h1 lp_0
              | succ n71 ih71 =>
                intro x71 e71 h1 hr71 ls H locs hl hw
                rw [lp_s] at h1
                refine ob h1 (fun r71 h hk71 => ?_)
                unfold mb_MO_tryPicture_71 at h
                refine lv_iload hx hb d_MO_tryPicture_71 (lv_at hl 4 rfl) ?_
                refine lv_iconst (v := 5) hx hb d_MO_tryPicture_73 (by decide) ?_
                refine lv_icmp_ge (tgt := 107) hx hb d_MO_tryPicture_74 (by decide) (fun hc => ?_) (fun hc => ?_)
                · have h := oi h hc
                  have q := Option.some.inj h
                  subst q
                  have q := Option.some.inj hk71
                  subst q
                  exact X71 (x71.1, x71.2) hr71 _ _ _ (lv_sub hl [0, 1, 2] rfl) hw
                · have h := oe h hc
                  refine lv_iload_n hx hb d_MO_tryPicture_77 rfl (lv_at hl 3 rfl) ?_
                  refine lv_if_eq (tgt := 107) hx hb d_MO_tryPicture_78 (by decide) (fun hc => ?_) (fun hc => ?_)
                  · have h := oi h hc
                    have q := Option.some.inj h
                    subst q
                    have q := Option.some.inj hk71
                    subst q
                    exact X71 (x71.1, x71.2) hr71 _ _ _ (lv_sub hl [0, 1, 2] rfl) hw
                  · have h := oe h hc
                    refine lv_aload_n hx hb d_MO_tryPicture_81 rfl (lv_at hl 0 rfl) ?_
                    refine va_get (ci := 6) (v := .ref (ad 11)) (C := R_MO) (T := F_MO) (N := 24) hx hb hg in_MO hown hK hw.1 0 rfl rfl 15 (by decide) (hg _ q_764) (fun _ h9 => h9) rfl d_MO_tryPicture_82 ?_
                    refine lv_iload hx hb d_MO_tryPicture_85 (lv_at hl 4 rfl) ?_
                    refine lv_dup2_11 hx hb d_MO_tryPicture_87 rfl rfl ?_
                    refine oc h (fun hc3 h => ?_)
                    refine va_iald hx hb hK hw.1 11 0 rfl rfl hc3 d_MO_tryPicture_88 ?_
                    refine lv_iconst (v := 1) hx hb d_MO_tryPicture_89 (by decide) ?_
                    refine lv_iload_n hx hb d_MO_tryPicture_90 rfl (lv_at hl 2 rfl) ?_
                    refine lv_iconst (v := 4) hx hb d_MO_tryPicture_91 (by decide) ?_
                    refine lv_iload hx hb d_MO_tryPicture_92 (lv_at hl 4 rfl) ?_
                    refine lv_isub hx hb d_MO_tryPicture_94 ?_
                    refine lv_ishr hx hb d_MO_tryPicture_95 ?_
                    refine lv_iconst (v := 1) hx hb d_MO_tryPicture_96 (by decide) ?_
                    refine lv_iand hx hb d_MO_tryPicture_97 ?_
                    refine lv_ishl hx hb d_MO_tryPicture_98 ?_
                    refine lv_ior hx hb d_MO_tryPicture_99 ?_
                    refine va_iast hx hb hK hw.1 hw.2.1 hw.2.2 11 0 rfl rfl hc3 d_MO_tryPicture_100 (fun H locs hP hD hS => ?_)
                    have hw : fw_H D vwCl A s.heap (wM ad cI cL th ki ce wi r2.1 fo cu gr ru nu gv ca nw lo ke r2.2.1 (upd x71.2 x71.1.toNatClampNeg ((x71.2 x71.1.toNatClampNeg) ||| ((1 : Int32) <<< (((x7.1 >>> (((4 : Int32) - x71.1) &&& 31)) &&& (1 : Int32)) &&& 31)))) fi fl pa sh od bd bs) H locs := ⟨hP, hD, hS⟩
                    refine lv_iinc (k := 4) (v := x71.1 + 1) (lv' := [(4, .int (x71.1 + 1)), (0, .ref (ad 0)), (1, .int u1), (2, .int x7.1), (3, .int y37.1)]) hx hb d_MO_tryPicture_101 hl rfl (by rw [lit1]) (by decide) rfl (fun ls hl => ?_)
                    refine lv_goto (tgt := 71) hx hb d_MO_tryPicture_104 (by decide) ?_
                    have q := Option.some.inj h
                    subst q
                    exact ih71 (x71.1 + 1, upd x71.2 x71.1.toNatClampNeg ((x71.2 x71.1.toNatClampNeg) ||| ((1 : Int32) <<< (((x7.1 >>> (((4 : Int32) - x71.1) &&& 31)) &&& (1 : Int32)) &&& 31)))) e71 hk71 hr71 _ _ _ (lv_sub hl [1, 2, 3, 4, 0] rfl) hw
            refine ob h (fun e71 h1 h2 => ?_)
            exact L71 N ((0 : Int32), x7.2) e71 h1 h2 _ _ _ (lv_sub hl [1, 2, 3, 4, 0] rfl) hw
          have L37 : ∀ (n37 : Nat) (x37 : Int32 × Int32) (e37 : Int32 × Int32), lp (mb_MO_tryPicture_37 N nw r2 x7) n37 x37 = some e37 → (mr_MO_tryPicture_37 N x7) e37 = some r7 → ∀ (ls : Array Slot) (H : Heap) (locs : List Loc), lv_has ls 5 [(0, .ref (ad 0)), (1, .int u1), (2, .int x7.1), (3, .int x37.1), (4, .int x37.2)] → fw_H D vwCl A s.heap (wM ad cI cL th ki ce wi r2.1 fo cu gr ru nu gv ca nw lo ke r2.2.1 x7.2 fi fl pa sh od bd bs) H locs → W p l e R s m args below meth c H locs 0 0 Q (F0 m 37 ls []) := by
            intro n37
            induction n37 with
            | zero => intro x37 e37 h1; exact absurd h1 lp_0
            | succ n37 ih37 =>
              intro x37 e37 h1 hr37 ls H locs hl hw
              rw [lp_s] at h1
              refine ob h1 (fun r37 h hk37 => ?_)
              unfold mb_MO_tryPicture_37 at h
              refine lv_iload hx hb d_MO_tryPicture_37 (lv_at hl 4 rfl) ?_
              refine lv_iconst (v := 5) hx hb d_MO_tryPicture_39 (by decide) ?_
              refine lv_icmp_ge (tgt := 68) hx hb d_MO_tryPicture_40 (by decide) (fun hc => ?_) (fun hc => ?_)
              · have h := oi h hc
                have q := Option.some.inj h
                subst q
                have q := Option.some.inj hk37
                subst q
                exact X37 (x37.1, x37.2) hr37 _ _ _ (lv_sub hl [0, 1, 2, 3] rfl) hw
              · have h := oe h hc
                refine lv_iload_n hx hb d_MO_tryPicture_43 rfl (lv_at hl 3 rfl) ?_
                refine lv_if_eq (tgt := 68) hx hb d_MO_tryPicture_44 (by decide) (fun hc => ?_) (fun hc => ?_)
                · have h := oi h hc
                  have q := Option.some.inj h
                  subst q
                  have q := Option.some.inj hk37
                  subst q
                  exact X37 (x37.1, x37.2) hr37 _ _ _ (lv_sub hl [0, 1, 2, 3] rfl) hw
                · have h := oe h hc
                  refine lv_aload_n hx hb d_MO_tryPicture_47 rfl (lv_at hl 0 rfl) ?_
                  refine lv_iload hx hb d_MO_tryPicture_48 (lv_at hl 4 rfl) ?_
                  refine lv_iload_n hx hb d_MO_tryPicture_50 rfl (lv_at hl 2 rfl) ?_
                  refine lv_iconst (v := 4) hx hb d_MO_tryPicture_51 (by decide) ?_
                  refine lv_iload hx hb d_MO_tryPicture_52 (lv_at hl 4 rfl) ?_
                  refine lv_isub hx hb d_MO_tryPicture_54 ?_
                  refine lv_ishr hx hb d_MO_tryPicture_55 ?_
                  refine lv_iconst (v := 1) hx hb d_MO_tryPicture_56 (by decide) ?_
                  refine lv_iand hx hb d_MO_tryPicture_57 ?_
                  refine ob h (fun r58 h58 h => ?_)
                  refine fw_callV (As := [.int x37.2, .int ((x7.1 >>> (((4 : Int32) - x37.2) &&& 31)) &&& (1 : Int32))]) (rest := []) (st1 := [.int r58]) S (ct_MO_may l D ad cI cL N th ki ce wi r2.1 fo cu gr ru nu gv ca nw lo ke r2.2.1 x7.2 fi fl pa sh od bd bs x37.2 ((x7.1 >>> (((4 : Int32) - x37.2) &&& 31)) &&& (1 : Int32)) r58 h58) q_944 q_946 s_37 q_10 k_MO_may hd_MO_may ⟨by rw [hR]; decide, by rw [hR]; decide⟩ rfl rfl hX hw hA 0 (ci := 6) rfl rfl hl.1 rfl rfl (Nat.le_of_ble_eq_true rfl) d_MO_tryPicture_58 ⟨Nat.zero_le _, Nat.zero_le _⟩ rfl (fun H locs hw => ?_)
                  refine lv_istore_n (lv' := [(3, .int r58), (0, .ref (ad 0)), (1, .int u1), (2, .int x7.1), (4, .int x37.2)]) hx hb d_MO_tryPicture_61 rfl hl (by decide) rfl (fun ls hl => ?_)
                  refine lv_iinc (k := 4) (v := x37.2 + 1) (lv' := [(4, .int (x37.2 + 1)), (3, .int r58), (0, .ref (ad 0)), (1, .int u1), (2, .int x7.1)]) hx hb d_MO_tryPicture_62 hl rfl (by rw [lit1]) (by decide) rfl (fun ls hl => ?_)
                  refine lv_goto (tgt := 37) hx hb d_MO_tryPicture_65 (by decide) ?_
                  have q := Option.some.inj h
                  subst q
                  exact ih37 (r58, x37.2 + 1) e37 hk37 hr37 _ _ _ (lv_sub hl [2, 3, 4, 1, 0] rfl) hw
          refine ob h (fun e37 h1 h2 => ?_)
          exact L37 N (j33s0, (0 : Int32)) e37 h1 h2 _ _ _ (lv_sub hl [2, 3, 4, 1, 0] rfl) hw
        refine lv_icmp_ne (tgt := 32) hx hb d_MO_tryPicture_25 (by decide) (fun hc => ?_) (fun hc => ?_)
        · have h := oe h hc
          refine lv_iconst (v := 0) hx hb d_MO_tryPicture_32 (by decide) ?_
          exact J33 (0 : Int32) h _ _ _ hl hw
        · have h := oi h hc
          refine lv_iconst (v := 1) hx hb d_MO_tryPicture_28 (by decide) ?_
          refine lv_goto (tgt := 33) hx hb d_MO_tryPicture_29 (by decide) ?_
          exact J33 (1 : Int32) h _ _ _ hl hw
  refine ob h (fun e7 h1 h2 => ?_)
  exact L7 N ((0 : Int32), r2.2.2) e7 h1 h2 _ _ _ (lv_sub hl [1, 2, 0] rfl) hw
set_option maxHeartbeats 4000000 in
set_option maxRecDepth 100000 in
theorem ct_MO_goes (l : Launch) (D : va_G) (ad : Nat → Nat) (cI cL : ClassId) (N : Nat) (th : Int32) (ki : Int32) (ce : Int32) (wi : Int32) (ma : Int32) (fo : Int32) (cu : Nat → Int32) (gr : Nat → Int32) (ru : Nat → Int32) (nu : Nat → Int32) (gv : Nat → Int32) (ca : Nat → Int32) (nw : Nat → Int32) (lo : Nat → Int32) (ke : Nat → Int32) (un : Nat → Int32) (cn : Nat → Int32) (fi : Nat → Int32) (fl : Nat → Int32) (pa : Nat → Int32) (sh : Nat → Int32) (od : Nat → Int32) (bd : Nat → Int32) (bs : Nat → Int32) (u1 : Int32) (u2 : Int32) (u3 : Int32) (out : Int32) (h : mi_MO_goes N ma nw un u1 u2 u3 = some out) : fw_C l y_MO_goes (.code y_MO_goes b_MO_goes 4 (some .boolean) :: Gw) (fr 1 22) D vwCl (tyA cI cL) [.ref (ad 0), .int u1, .int u2, .int u3] (wM ad cI cL th ki ce wi ma fo cu gr ru nu gv ca nw lo ke un cn fi fl pa sh od bd bs) (some (.int out)) (wM ad cI cL th ki ce wi ma fo cu gr ru nu gv ca nw lo ke un cn fi fl pa sh od bd bs) := by
  refine fw_of (by decide) (Nat.le_of_ble_eq_true rfl) ?_
  intro p e s m args below meth c ls A R Q hR hQ S hr hlk hX hA hl hw
  have hK := hX.1
  have hx := S.1
  have hb := S.2.1
  have hown := S.2.2.2.1
  have hg := S.2.2.2.2
  have hl : lv_has ls 4 [(0, .ref (ad 0)), (1, .int u1), (2, .int u2), (3, .int u3)] := hl
  unfold mi_MO_goes at h
  refine lv_iload_n hx hb d_MO_goes_0 rfl (lv_at hl 1 rfl) ?_
  refine lv_aload_n hx hb d_MO_goes_1 rfl (lv_at hl 0 rfl) ?_
  refine va_get (ci := 6) (v := .int ma) (C := R_MO) (T := F_MO) (N := 24) hx hb hg in_MO hown hK hw.1 0 rfl rfl 13 (by decide) (hg _ q_762) (fun _ h9 => h9) rfl d_MO_goes_2 ?_
  refine lv_icmp_ge (tgt := 37) hx hb d_MO_goes_5 (by decide) (fun hc => ?_) (fun hc => ?_)
  · have h := oi h hc
    refine lv_iload_n hx hb d_MO_goes_37 rfl (lv_at hl 2 rfl) ?_
    refine lv_if_ne (tgt := 45) hx hb d_MO_goes_38 (by decide) (fun hc => ?_) (fun hc => ?_)
    · have h := oe h hc
      refine lv_iconst (v := 0) hx hb d_MO_goes_45 (by decide) ?_
      have q := Option.some.inj h
      subst q
      exact fw_zret hQ S hr rfl hlk hX hw d_MO_goes_46
    · have h := oi h hc
      refine lv_iconst (v := 1) hx hb d_MO_goes_41 (by decide) ?_
      refine lv_goto (tgt := 46) hx hb d_MO_goes_42 (by decide) ?_
      have q := Option.some.inj h
      subst q
      exact fw_zret hQ S hr rfl hlk hX hw d_MO_goes_46
  · have h := oe h hc
    refine lv_iload_n hx hb d_MO_goes_8 rfl (lv_at hl 2 rfl) ?_
    refine lv_if_le (tgt := 33) hx hb d_MO_goes_9 (by decide) (fun hc => ?_) (fun hc => ?_)
    · have h := oi h hc
      refine lv_iconst (v := 0) hx hb d_MO_goes_33 (by decide) ?_
      refine lv_goto (tgt := 46) hx hb d_MO_goes_34 (by decide) ?_
      have q := Option.some.inj h
      subst q
      exact fw_zret hQ S hr rfl hlk hX hw d_MO_goes_46
    · have h := oe h hc
      refine lv_aload_n hx hb d_MO_goes_12 rfl (lv_at hl 0 rfl) ?_
      refine lv_iload_n hx hb d_MO_goes_13 rfl (lv_at hl 1 rfl) ?_
      refine lv_iload_n hx hb d_MO_goes_14 rfl (lv_at hl 2 rfl) ?_
      refine ob h (fun r15 h15 h => ?_)
      refine fw_callV (As := [.int u1, .int u2]) (rest := []) (st1 := [.int r15]) S (ct_MO_may l D ad cI cL N th ki ce wi ma fo cu gr ru nu gv ca nw lo ke un cn fi fl pa sh od bd bs u1 u2 r15 h15) q_944 q_946 s_37 q_10 k_MO_may hd_MO_may ⟨by rw [hR]; decide, by rw [hR]; decide⟩ rfl rfl hX hw hA 0 (ci := 6) rfl rfl hl.1 rfl rfl (Nat.le_of_ble_eq_true rfl) d_MO_goes_15 ⟨Nat.zero_le _, Nat.zero_le _⟩ rfl (fun H locs hw => ?_)
      refine lv_if_eq (tgt := 33) hx hb d_MO_goes_18 (by decide) (fun hc => ?_) (fun hc => ?_)
      · have h := oi h hc
        refine lv_iconst (v := 0) hx hb d_MO_goes_33 (by decide) ?_
        refine lv_goto (tgt := 46) hx hb d_MO_goes_34 (by decide) ?_
        have q := Option.some.inj h
        subst q
        exact fw_zret hQ S hr rfl hlk hX hw d_MO_goes_46
      · have h := oe h hc
        refine lv_iload_n hx hb d_MO_goes_21 rfl (lv_at hl 3 rfl) ?_
        refine lv_iload_n hx hb d_MO_goes_22 rfl (lv_at hl 2 rfl) ?_
        refine lv_ishr hx hb d_MO_goes_23 ?_
        refine lv_iconst (v := 1) hx hb d_MO_goes_24 (by decide) ?_
        refine lv_iand hx hb d_MO_goes_25 ?_
        refine lv_if_ne (tgt := 33) hx hb d_MO_goes_26 (by decide) (fun hc => ?_) (fun hc => ?_)
        · have h := oe h hc
          refine lv_iconst (v := 0) hx hb d_MO_goes_33 (by decide) ?_
          refine lv_goto (tgt := 46) hx hb d_MO_goes_34 (by decide) ?_
          have q := Option.some.inj h
          subst q
          exact fw_zret hQ S hr rfl hlk hX hw d_MO_goes_46
        · have h := oi h hc
          refine lv_iconst (v := 1) hx hb d_MO_goes_29 (by decide) ?_
          refine lv_goto (tgt := 46) hx hb d_MO_goes_30 (by decide) ?_
          have q := Option.some.inj h
          subst q
          exact fw_zret hQ S hr rfl hlk hX hw d_MO_goes_46
set_option maxHeartbeats 4000000 in
set_option maxRecDepth 100000 in
theorem ct_MO_note (l : Launch) (D : va_G) (ad : Nat → Nat) (cI cL : ClassId) (N : Nat) (th : Int32) (ki : Int32) (ce : Int32) (wi : Int32) (ma : Int32) (fo : Int32) (cu : Nat → Int32) (gr : Nat → Int32) (ru : Nat → Int32) (nu : Nat → Int32) (gv : Nat → Int32) (ca : Nat → Int32) (nw : Nat → Int32) (lo : Nat → Int32) (ke : Nat → Int32) (un : Nat → Int32) (cn : Nat → Int32) (fi : Nat → Int32) (fl : Nat → Int32) (pa : Nat → Int32) (sh : Nat → Int32) (od : Nat → Int32) (bd : Nat → Int32) (bs : Nat → Int32) (u1 : Int32) (u2 : Int32) (u3 : Int32) (u4 : Int32) (u5 : Int32) (u6 : Int32) (out : (Nat → Int32)) (h : mi_MO_note N cn u1 u2 u3 u4 u5 u6 = some out) : fw_C l y_MO_note (.code y_MO_note b_MO_note 8 (none) :: Gw) (fr 0 0) D vwCl (tyA cI cL) [.ref (ad 0), .int u1, .int u2, .int u3, .int u4, .int u5, .int u6] (wM ad cI cL th ki ce wi ma fo cu gr ru nu gv ca nw lo ke un cn fi fl pa sh od bd bs) none (wM ad cI cL th ki ce wi ma fo cu gr ru nu gv ca nw lo ke un out fi fl pa sh od bd bs) := by
  refine fw_of (by decide) (Nat.le_of_ble_eq_true rfl) ?_
  intro p e s m args below meth c ls A R Q hR hQ S hr hlk hX hA hl hw
  have hK := hX.1
  have hx := S.1
  have hb := S.2.1
  have hown := S.2.2.2.1
  have hg := S.2.2.2.2
  have hl : lv_has ls 8 [(0, .ref (ad 0)), (1, .int u1), (2, .int u2), (3, .int u3), (4, .int u4), (5, .int u5), (6, .int u6)] := hl
  unfold mi_MO_note at h
  refine lv_iload_n hx hb d_MO_note_0 rfl (lv_at hl 1 rfl) ?_
  refine lv_iload_n hx hb d_MO_note_1 rfl (lv_at hl 2 rfl) ?_
  have J10 : ∀ (j10s1 : Int32), mj_MO_note_10 cn u1 u2 u3 u4 u5 u6 j10s1 = some out → ∀ (ls : Array Slot) (H : Heap) (locs : List Loc), lv_has ls 8 [(0, .ref (ad 0)), (1, .int u1), (2, .int u2), (3, .int u3), (4, .int u4), (5, .int u5), (6, .int u6)] → fw_H D vwCl A s.heap (wM ad cI cL th ki ce wi ma fo cu gr ru nu gv ca nw lo ke un cn fi fl pa sh od bd bs) H locs → W p l e R s m args below meth c H locs 0 0 Q (F0 m 10 ls [.int j10s1, .int u1]) := by
    intro j10s1 h ls H locs hl hw
    unfold mj_MO_note_10 at h
    refine lv_imul hx hb d_MO_note_10 ?_
    refine lv_iload_n hx hb d_MO_note_11 rfl (lv_at hl 3 rfl) ?_
    refine lv_if_le (tgt := 19) hx hb d_MO_note_12 (by decide) (fun hc => ?_) (fun hc => ?_)
    · have h := oi h hc
      refine lv_iconst (v := 1) hx hb d_MO_note_19 (by decide) ?_
      refine lv_imul hx hb d_MO_note_20 ?_
      refine lv_iload hx hb d_MO_note_21 (lv_at hl 4 rfl) ?_
      have J32 : ∀ (j32s1 : Int32), mj_MO_note_32 cn u1 u2 u3 u4 u5 u6 j10s1 j32s1 = some out → ∀ (ls : Array Slot) (H : Heap) (locs : List Loc), lv_has ls 8 [(0, .ref (ad 0)), (1, .int u1), (2, .int u2), (3, .int u3), (4, .int u4), (5, .int u5), (6, .int u6)] → fw_H D vwCl A s.heap (wM ad cI cL th ki ce wi ma fo cu gr ru nu gv ca nw lo ke un cn fi fl pa sh od bd bs) H locs → W p l e R s m args below meth c H locs 0 0 Q (F0 m 32 ls [.int j32s1, .int ((u1 * j10s1) * (1 : Int32))]) := by
        intro j32s1 h ls H locs hl hw
        unfold mj_MO_note_32 at h
        refine lv_imul hx hb d_MO_note_32 ?_
        refine lv_istore (lv' := [(7, .int (((u1 * j10s1) * (1 : Int32)) * j32s1)), (0, .ref (ad 0)), (1, .int u1), (2, .int u2), (3, .int u3), (4, .int u4), (5, .int u5), (6, .int u6)]) hx hb d_MO_note_33 hl (by decide) rfl (fun ls hl => ?_)
        refine lv_iload hx hb d_MO_note_35 (lv_at hl 6 rfl) ?_
        refine lv_iconst (v := 1) hx hb d_MO_note_37 (by decide) ?_
        have J54 : mj_MO_note_54 cn u1 u2 u3 u4 u5 u6 j10s1 j32s1 = some out → ∀ (ls : Array Slot) (H : Heap) (locs : List Loc), lv_has ls 8 [(0, .ref (ad 0)), (1, .int u1), (2, .int u2), (3, .int u3), (4, .int u4), (5, .int u5), (6, .int u6), (7, .int (((u1 * j10s1) * (1 : Int32)) * j32s1))] → fw_H D vwCl A s.heap (wM ad cI cL th ki ce wi ma fo cu gr ru nu gv ca nw lo ke un cn fi fl pa sh od bd bs) H locs → W p l e R s m args below meth c H locs 0 0 Q (F0 m 54 ls []) := by
          intro h ls H locs hl hw
          unfold mj_MO_note_54 at h
          refine lv_iload hx hb d_MO_note_54 (lv_at hl 5 rfl) ?_
          refine lv_iconst (v := 2) hx hb d_MO_note_56 (by decide) ?_
          have J68 : mj_MO_note_68 cn u1 u2 u3 u4 = some out → ∀ (ls : Array Slot) (H : Heap) (locs : List Loc), lv_has ls 8 [(0, .ref (ad 0)), (1, .int u1), (2, .int u2), (3, .int u3), (4, .int u4)] → fw_H D vwCl A s.heap (wM ad cI cL th ki ce wi ma fo cu gr ru nu gv ca nw lo ke un cn fi fl pa sh od bd bs) H locs → W p l e R s m args below meth c H locs 0 0 Q (F0 m 68 ls []) := by
            intro h ls H locs hl hw
            unfold mj_MO_note_68 at h
            refine lv_aload_n hx hb d_MO_note_68 rfl (lv_at hl 0 rfl) ?_
            refine va_get (ci := 6) (v := .ref (ad 11)) (C := R_MO) (T := F_MO) (N := 24) hx hb hg in_MO hown hK hw.1 0 rfl rfl 15 (by decide) (hg _ q_764) (fun _ h9 => h9) rfl d_MO_note_69 ?_
            refine lv_iconst (v := 0) hx hb d_MO_note_72 (by decide) ?_
            refine lv_dup2_11 hx hb d_MO_note_73 rfl rfl ?_
            refine oc h (fun hc1 h => ?_)
            refine va_iald hx hb hK hw.1 11 0 rfl rfl hc1 d_MO_note_74 ?_
            refine lv_iconst (v := 1) hx hb d_MO_note_75 (by decide) ?_
            refine lv_iload_n hx hb d_MO_note_76 rfl (lv_at hl 1 rfl) ?_
            refine lv_ishl hx hb d_MO_note_77 ?_
            refine lv_ior hx hb d_MO_note_78 ?_
            refine va_iast hx hb hK hw.1 hw.2.1 hw.2.2 11 0 rfl rfl hc1 d_MO_note_79 (fun H locs hP hD hS => ?_)
            have hw : fw_H D vwCl A s.heap (wM ad cI cL th ki ce wi ma fo cu gr ru nu gv ca nw lo ke un (upd cn (0 : Int32).toNatClampNeg ((cn (0 : Int32).toNatClampNeg) ||| ((1 : Int32) <<< (u1 &&& 31)))) fi fl pa sh od bd bs) H locs := ⟨hP, hD, hS⟩
            refine lv_aload_n hx hb d_MO_note_80 rfl (lv_at hl 0 rfl) ?_
            refine va_get (ci := 6) (v := .ref (ad 11)) (C := R_MO) (T := F_MO) (N := 24) hx hb hg in_MO hown hK hw.1 0 rfl rfl 15 (by decide) (hg _ q_764) (fun _ h9 => h9) rfl d_MO_note_81 ?_
            refine lv_iconst (v := 1) hx hb d_MO_note_84 (by decide) ?_
            refine lv_dup2_11 hx hb d_MO_note_85 rfl rfl ?_
            refine oc h (fun hc2 h => ?_)
            refine va_iald hx hb hK hw.1 11 0 rfl rfl hc2 d_MO_note_86 ?_
            refine lv_iconst (v := 1) hx hb d_MO_note_87 (by decide) ?_
            refine lv_iload_n hx hb d_MO_note_88 rfl (lv_at hl 2 rfl) ?_
            refine lv_ishl hx hb d_MO_note_89 ?_
            refine lv_ior hx hb d_MO_note_90 ?_
            refine va_iast hx hb hK hw.1 hw.2.1 hw.2.2 11 0 rfl rfl hc2 d_MO_note_91 (fun H locs hP hD hS => ?_)
            have hw : fw_H D vwCl A s.heap (wM ad cI cL th ki ce wi ma fo cu gr ru nu gv ca nw lo ke un (upd (upd cn (0 : Int32).toNatClampNeg ((cn (0 : Int32).toNatClampNeg) ||| ((1 : Int32) <<< (u1 &&& 31)))) (1 : Int32).toNatClampNeg (((upd cn (0 : Int32).toNatClampNeg ((cn (0 : Int32).toNatClampNeg) ||| ((1 : Int32) <<< (u1 &&& 31)))) (1 : Int32).toNatClampNeg) ||| ((1 : Int32) <<< (u2 &&& 31)))) fi fl pa sh od bd bs) H locs := ⟨hP, hD, hS⟩
            refine lv_aload_n hx hb d_MO_note_92 rfl (lv_at hl 0 rfl) ?_
            refine va_get (ci := 6) (v := .ref (ad 11)) (C := R_MO) (T := F_MO) (N := 24) hx hb hg in_MO hown hK hw.1 0 rfl rfl 15 (by decide) (hg _ q_764) (fun _ h9 => h9) rfl d_MO_note_93 ?_
            refine lv_iconst (v := 2) hx hb d_MO_note_96 (by decide) ?_
            refine lv_dup2_11 hx hb d_MO_note_97 rfl rfl ?_
            refine oc h (fun hc3 h => ?_)
            refine va_iald hx hb hK hw.1 11 0 rfl rfl hc3 d_MO_note_98 ?_
            refine lv_iconst (v := 1) hx hb d_MO_note_99 (by decide) ?_
            refine lv_iload_n hx hb d_MO_note_100 rfl (lv_at hl 3 rfl) ?_
            refine lv_ishl hx hb d_MO_note_101 ?_
            refine lv_ior hx hb d_MO_note_102 ?_
            refine va_iast hx hb hK hw.1 hw.2.1 hw.2.2 11 0 rfl rfl hc3 d_MO_note_103 (fun H locs hP hD hS => ?_)
            have hw : fw_H D vwCl A s.heap (wM ad cI cL th ki ce wi ma fo cu gr ru nu gv ca nw lo ke un (upd (upd (upd cn (0 : Int32).toNatClampNeg ((cn (0 : Int32).toNatClampNeg) ||| ((1 : Int32) <<< (u1 &&& 31)))) (1 : Int32).toNatClampNeg (((upd cn (0 : Int32).toNatClampNeg ((cn (0 : Int32).toNatClampNeg) ||| ((1 : Int32) <<< (u1 &&& 31)))) (1 : Int32).toNatClampNeg) ||| ((1 : Int32) <<< (u2 &&& 31)))) (2 : Int32).toNatClampNeg (((upd (upd cn (0 : Int32).toNatClampNeg ((cn (0 : Int32).toNatClampNeg) ||| ((1 : Int32) <<< (u1 &&& 31)))) (1 : Int32).toNatClampNeg (((upd cn (0 : Int32).toNatClampNeg ((cn (0 : Int32).toNatClampNeg) ||| ((1 : Int32) <<< (u1 &&& 31)))) (1 : Int32).toNatClampNeg) ||| ((1 : Int32) <<< (u2 &&& 31)))) (2 : Int32).toNatClampNeg) ||| ((1 : Int32) <<< (u3 &&& 31)))) fi fl pa sh od bd bs) H locs := ⟨hP, hD, hS⟩
            refine lv_aload_n hx hb d_MO_note_104 rfl (lv_at hl 0 rfl) ?_
            refine va_get (ci := 6) (v := .ref (ad 11)) (C := R_MO) (T := F_MO) (N := 24) hx hb hg in_MO hown hK hw.1 0 rfl rfl 15 (by decide) (hg _ q_764) (fun _ h9 => h9) rfl d_MO_note_105 ?_
            refine lv_iconst (v := 3) hx hb d_MO_note_108 (by decide) ?_
            refine lv_dup2_11 hx hb d_MO_note_109 rfl rfl ?_
            refine oc h (fun hc4 h => ?_)
            refine va_iald hx hb hK hw.1 11 0 rfl rfl hc4 d_MO_note_110 ?_
            refine lv_iconst (v := 1) hx hb d_MO_note_111 (by decide) ?_
            refine lv_iload hx hb d_MO_note_112 (lv_at hl 4 rfl) ?_
            refine lv_ishl hx hb d_MO_note_114 ?_
            refine lv_ior hx hb d_MO_note_115 ?_
            refine va_iast hx hb hK hw.1 hw.2.1 hw.2.2 11 0 rfl rfl hc4 d_MO_note_116 (fun H locs hP hD hS => ?_)
            have hw : fw_H D vwCl A s.heap (wM ad cI cL th ki ce wi ma fo cu gr ru nu gv ca nw lo ke un (upd (upd (upd (upd cn (0 : Int32).toNatClampNeg ((cn (0 : Int32).toNatClampNeg) ||| ((1 : Int32) <<< (u1 &&& 31)))) (1 : Int32).toNatClampNeg (((upd cn (0 : Int32).toNatClampNeg ((cn (0 : Int32).toNatClampNeg) ||| ((1 : Int32) <<< (u1 &&& 31)))) (1 : Int32).toNatClampNeg) ||| ((1 : Int32) <<< (u2 &&& 31)))) (2 : Int32).toNatClampNeg (((upd (upd cn (0 : Int32).toNatClampNeg ((cn (0 : Int32).toNatClampNeg) ||| ((1 : Int32) <<< (u1 &&& 31)))) (1 : Int32).toNatClampNeg (((upd cn (0 : Int32).toNatClampNeg ((cn (0 : Int32).toNatClampNeg) ||| ((1 : Int32) <<< (u1 &&& 31)))) (1 : Int32).toNatClampNeg) ||| ((1 : Int32) <<< (u2 &&& 31)))) (2 : Int32).toNatClampNeg) ||| ((1 : Int32) <<< (u3 &&& 31)))) (3 : Int32).toNatClampNeg (((upd (upd (upd cn (0 : Int32).toNatClampNeg ((cn (0 : Int32).toNatClampNeg) ||| ((1 : Int32) <<< (u1 &&& 31)))) (1 : Int32).toNatClampNeg (((upd cn (0 : Int32).toNatClampNeg ((cn (0 : Int32).toNatClampNeg) ||| ((1 : Int32) <<< (u1 &&& 31)))) (1 : Int32).toNatClampNeg) ||| ((1 : Int32) <<< (u2 &&& 31)))) (2 : Int32).toNatClampNeg (((upd (upd cn (0 : Int32).toNatClampNeg ((cn (0 : Int32).toNatClampNeg) ||| ((1 : Int32) <<< (u1 &&& 31)))) (1 : Int32).toNatClampNeg (((upd cn (0 : Int32).toNatClampNeg ((cn (0 : Int32).toNatClampNeg) ||| ((1 : Int32) <<< (u1 &&& 31)))) (1 : Int32).toNatClampNeg) ||| ((1 : Int32) <<< (u2 &&& 31)))) (2 : Int32).toNatClampNeg) ||| ((1 : Int32) <<< (u3 &&& 31)))) (3 : Int32).toNatClampNeg) ||| ((1 : Int32) <<< (u4 &&& 31)))) fi fl pa sh od bd bs) H locs := ⟨hP, hD, hS⟩
            have q := Option.some.inj h
            subst q
            exact fw_vret hQ S hr hlk hX hw d_MO_note_117
          refine lv_icmp_ne (tgt := 68) hx hb d_MO_note_57 (by decide) (fun hc => ?_) (fun hc => ?_)
          · have h := oe h hc
            exact J68  h _ _ _ (lv_sub hl [0, 1, 2, 3, 4] rfl) hw
          · have h := oi h hc
            refine lv_iload hx hb d_MO_note_60 (lv_at hl 7 rfl) ?_
            refine lv_iload hx hb d_MO_note_62 (lv_at hl 6 rfl) ?_
            refine lv_icmp_eq (tgt := 68) hx hb d_MO_note_64 (by decide) (fun hc => ?_) (fun hc => ?_)
            · have h := oi h hc
              exact J68  h _ _ _ (lv_sub hl [0, 1, 2, 3, 4] rfl) hw
            · have h := oe h hc
              have q := Option.some.inj h
              subst q
              exact fw_vret hQ S hr hlk hX hw d_MO_note_67
        refine lv_icmp_ne (tgt := 54) hx hb d_MO_note_38 (by decide) (fun hc => ?_) (fun hc => ?_)
        · have h := oe h hc
          exact J54  h _ _ _ (lv_sub hl [1, 2, 3, 4, 5, 6, 7, 0] rfl) hw
        · have h := oi h hc
          refine lv_iload_n hx hb d_MO_note_41 rfl (lv_at hl 2 rfl) ?_
          refine lv_iload_n hx hb d_MO_note_42 rfl (lv_at hl 3 rfl) ?_
          refine lv_iadd hx hb d_MO_note_43 ?_
          refine lv_iload_n hx hb d_MO_note_44 rfl (lv_at hl 4 rfl) ?_
          refine lv_iadd hx hb d_MO_note_45 ?_
          refine lv_iload hx hb d_MO_note_46 (lv_at hl 5 rfl) ?_
          refine lv_iadd hx hb d_MO_note_48 ?_
          refine lv_iload hx hb d_MO_note_49 (lv_at hl 7 rfl) ?_
          refine lv_icmp_ne (tgt := 67) hx hb d_MO_note_51 (by decide) (fun hc => ?_) (fun hc => ?_)
          · have h := oe h hc
            have q := Option.some.inj h
            subst q
            exact fw_vret hQ S hr hlk hX hw d_MO_note_67
          · have h := oi h hc
            exact J54  h _ _ _ (lv_sub hl [1, 2, 3, 4, 5, 6, 7, 0] rfl) hw
      refine lv_if_le (tgt := 31) hx hb d_MO_note_23 (by decide) (fun hc => ?_) (fun hc => ?_)
      · have h := oi h hc
        refine lv_iconst (v := 1) hx hb d_MO_note_31 (by decide) ?_
        exact J32 (1 : Int32) h _ _ _ hl hw
      · have h := oe h hc
        refine lv_iload hx hb d_MO_note_26 (lv_at hl 4 rfl) ?_
        refine lv_goto (tgt := 32) hx hb d_MO_note_28 (by decide) ?_
        exact J32 u4 h _ _ _ hl hw
    · have h := oe h hc
      refine lv_iload_n hx hb d_MO_note_15 rfl (lv_at hl 3 rfl) ?_
      refine lv_goto (tgt := 20) hx hb d_MO_note_16 (by decide) ?_
      refine lv_imul hx hb d_MO_note_20 ?_
      refine lv_iload hx hb d_MO_note_21 (lv_at hl 4 rfl) ?_
      have J32 : ∀ (j32s1 : Int32), mj_MO_note_32' cn u1 u2 u3 u4 u5 u6 j10s1 j32s1 = some out → ∀ (ls : Array Slot) (H : Heap) (locs : List Loc), lv_has ls 8 [(0, .ref (ad 0)), (1, .int u1), (2, .int u2), (3, .int u3), (4, .int u4), (5, .int u5), (6, .int u6)] → fw_H D vwCl A s.heap (wM ad cI cL th ki ce wi ma fo cu gr ru nu gv ca nw lo ke un cn fi fl pa sh od bd bs) H locs → W p l e R s m args below meth c H locs 0 0 Q (F0 m 32 ls [.int j32s1, .int ((u1 * j10s1) * u3)]) := by
        intro j32s1 h ls H locs hl hw
        unfold mj_MO_note_32' at h
        refine lv_imul hx hb d_MO_note_32 ?_
        refine lv_istore (lv' := [(7, .int (((u1 * j10s1) * u3) * j32s1)), (0, .ref (ad 0)), (1, .int u1), (2, .int u2), (3, .int u3), (4, .int u4), (5, .int u5), (6, .int u6)]) hx hb d_MO_note_33 hl (by decide) rfl (fun ls hl => ?_)
        refine lv_iload hx hb d_MO_note_35 (lv_at hl 6 rfl) ?_
        refine lv_iconst (v := 1) hx hb d_MO_note_37 (by decide) ?_
        have J54 : mj_MO_note_54' cn u1 u2 u3 u4 u5 u6 j10s1 j32s1 = some out → ∀ (ls : Array Slot) (H : Heap) (locs : List Loc), lv_has ls 8 [(0, .ref (ad 0)), (1, .int u1), (2, .int u2), (3, .int u3), (4, .int u4), (5, .int u5), (6, .int u6), (7, .int (((u1 * j10s1) * u3) * j32s1))] → fw_H D vwCl A s.heap (wM ad cI cL th ki ce wi ma fo cu gr ru nu gv ca nw lo ke un cn fi fl pa sh od bd bs) H locs → W p l e R s m args below meth c H locs 0 0 Q (F0 m 54 ls []) := by
          intro h ls H locs hl hw
          unfold mj_MO_note_54' at h
          refine lv_iload hx hb d_MO_note_54 (lv_at hl 5 rfl) ?_
          refine lv_iconst (v := 2) hx hb d_MO_note_56 (by decide) ?_
          have J68 : mj_MO_note_68' cn u1 u2 u3 u4 = some out → ∀ (ls : Array Slot) (H : Heap) (locs : List Loc), lv_has ls 8 [(0, .ref (ad 0)), (1, .int u1), (2, .int u2), (3, .int u3), (4, .int u4)] → fw_H D vwCl A s.heap (wM ad cI cL th ki ce wi ma fo cu gr ru nu gv ca nw lo ke un cn fi fl pa sh od bd bs) H locs → W p l e R s m args below meth c H locs 0 0 Q (F0 m 68 ls []) := by
            intro h ls H locs hl hw
            unfold mj_MO_note_68' at h
            refine lv_aload_n hx hb d_MO_note_68 rfl (lv_at hl 0 rfl) ?_
            refine va_get (ci := 6) (v := .ref (ad 11)) (C := R_MO) (T := F_MO) (N := 24) hx hb hg in_MO hown hK hw.1 0 rfl rfl 15 (by decide) (hg _ q_764) (fun _ h9 => h9) rfl d_MO_note_69 ?_
            refine lv_iconst (v := 0) hx hb d_MO_note_72 (by decide) ?_
            refine lv_dup2_11 hx hb d_MO_note_73 rfl rfl ?_
            refine oc h (fun hc5 h => ?_)
            refine va_iald hx hb hK hw.1 11 0 rfl rfl hc5 d_MO_note_74 ?_
            refine lv_iconst (v := 1) hx hb d_MO_note_75 (by decide) ?_
            refine lv_iload_n hx hb d_MO_note_76 rfl (lv_at hl 1 rfl) ?_
            refine lv_ishl hx hb d_MO_note_77 ?_
            refine lv_ior hx hb d_MO_note_78 ?_
            refine va_iast hx hb hK hw.1 hw.2.1 hw.2.2 11 0 rfl rfl hc5 d_MO_note_79 (fun H locs hP hD hS => ?_)
            have hw : fw_H D vwCl A s.heap (wM ad cI cL th ki ce wi ma fo cu gr ru nu gv ca nw lo ke un (upd cn (0 : Int32).toNatClampNeg ((cn (0 : Int32).toNatClampNeg) ||| ((1 : Int32) <<< (u1 &&& 31)))) fi fl pa sh od bd bs) H locs := ⟨hP, hD, hS⟩
            refine lv_aload_n hx hb d_MO_note_80 rfl (lv_at hl 0 rfl) ?_
            refine va_get (ci := 6) (v := .ref (ad 11)) (C := R_MO) (T := F_MO) (N := 24) hx hb hg in_MO hown hK hw.1 0 rfl rfl 15 (by decide) (hg _ q_764) (fun _ h9 => h9) rfl d_MO_note_81 ?_
            refine lv_iconst (v := 1) hx hb d_MO_note_84 (by decide) ?_
            refine lv_dup2_11 hx hb d_MO_note_85 rfl rfl ?_
            refine oc h (fun hc6 h => ?_)
            refine va_iald hx hb hK hw.1 11 0 rfl rfl hc6 d_MO_note_86 ?_
            refine lv_iconst (v := 1) hx hb d_MO_note_87 (by decide) ?_
            refine lv_iload_n hx hb d_MO_note_88 rfl (lv_at hl 2 rfl) ?_
            refine lv_ishl hx hb d_MO_note_89 ?_
            refine lv_ior hx hb d_MO_note_90 ?_
            refine va_iast hx hb hK hw.1 hw.2.1 hw.2.2 11 0 rfl rfl hc6 d_MO_note_91 (fun H locs hP hD hS => ?_)
            have hw : fw_H D vwCl A s.heap (wM ad cI cL th ki ce wi ma fo cu gr ru nu gv ca nw lo ke un (upd (upd cn (0 : Int32).toNatClampNeg ((cn (0 : Int32).toNatClampNeg) ||| ((1 : Int32) <<< (u1 &&& 31)))) (1 : Int32).toNatClampNeg (((upd cn (0 : Int32).toNatClampNeg ((cn (0 : Int32).toNatClampNeg) ||| ((1 : Int32) <<< (u1 &&& 31)))) (1 : Int32).toNatClampNeg) ||| ((1 : Int32) <<< (u2 &&& 31)))) fi fl pa sh od bd bs) H locs := ⟨hP, hD, hS⟩
            refine lv_aload_n hx hb d_MO_note_92 rfl (lv_at hl 0 rfl) ?_
            refine va_get (ci := 6) (v := .ref (ad 11)) (C := R_MO) (T := F_MO) (N := 24) hx hb hg in_MO hown hK hw.1 0 rfl rfl 15 (by decide) (hg _ q_764) (fun _ h9 => h9) rfl d_MO_note_93 ?_
            refine lv_iconst (v := 2) hx hb d_MO_note_96 (by decide) ?_
            refine lv_dup2_11 hx hb d_MO_note_97 rfl rfl ?_
            refine oc h (fun hc7 h => ?_)
            refine va_iald hx hb hK hw.1 11 0 rfl rfl hc7 d_MO_note_98 ?_
            refine lv_iconst (v := 1) hx hb d_MO_note_99 (by decide) ?_
            refine lv_iload_n hx hb d_MO_note_100 rfl (lv_at hl 3 rfl) ?_
            refine lv_ishl hx hb d_MO_note_101 ?_
            refine lv_ior hx hb d_MO_note_102 ?_
            refine va_iast hx hb hK hw.1 hw.2.1 hw.2.2 11 0 rfl rfl hc7 d_MO_note_103 (fun H locs hP hD hS => ?_)
            have hw : fw_H D vwCl A s.heap (wM ad cI cL th ki ce wi ma fo cu gr ru nu gv ca nw lo ke un (upd (upd (upd cn (0 : Int32).toNatClampNeg ((cn (0 : Int32).toNatClampNeg) ||| ((1 : Int32) <<< (u1 &&& 31)))) (1 : Int32).toNatClampNeg (((upd cn (0 : Int32).toNatClampNeg ((cn (0 : Int32).toNatClampNeg) ||| ((1 : Int32) <<< (u1 &&& 31)))) (1 : Int32).toNatClampNeg) ||| ((1 : Int32) <<< (u2 &&& 31)))) (2 : Int32).toNatClampNeg (((upd (upd cn (0 : Int32).toNatClampNeg ((cn (0 : Int32).toNatClampNeg) ||| ((1 : Int32) <<< (u1 &&& 31)))) (1 : Int32).toNatClampNeg (((upd cn (0 : Int32).toNatClampNeg ((cn (0 : Int32).toNatClampNeg) ||| ((1 : Int32) <<< (u1 &&& 31)))) (1 : Int32).toNatClampNeg) ||| ((1 : Int32) <<< (u2 &&& 31)))) (2 : Int32).toNatClampNeg) ||| ((1 : Int32) <<< (u3 &&& 31)))) fi fl pa sh od bd bs) H locs := ⟨hP, hD, hS⟩
            refine lv_aload_n hx hb d_MO_note_104 rfl (lv_at hl 0 rfl) ?_
            refine va_get (ci := 6) (v := .ref (ad 11)) (C := R_MO) (T := F_MO) (N := 24) hx hb hg in_MO hown hK hw.1 0 rfl rfl 15 (by decide) (hg _ q_764) (fun _ h9 => h9) rfl d_MO_note_105 ?_
            refine lv_iconst (v := 3) hx hb d_MO_note_108 (by decide) ?_
            refine lv_dup2_11 hx hb d_MO_note_109 rfl rfl ?_
            refine oc h (fun hc8 h => ?_)
            refine va_iald hx hb hK hw.1 11 0 rfl rfl hc8 d_MO_note_110 ?_
            refine lv_iconst (v := 1) hx hb d_MO_note_111 (by decide) ?_
            refine lv_iload hx hb d_MO_note_112 (lv_at hl 4 rfl) ?_
            refine lv_ishl hx hb d_MO_note_114 ?_
            refine lv_ior hx hb d_MO_note_115 ?_
            refine va_iast hx hb hK hw.1 hw.2.1 hw.2.2 11 0 rfl rfl hc8 d_MO_note_116 (fun H locs hP hD hS => ?_)
            have hw : fw_H D vwCl A s.heap (wM ad cI cL th ki ce wi ma fo cu gr ru nu gv ca nw lo ke un (upd (upd (upd (upd cn (0 : Int32).toNatClampNeg ((cn (0 : Int32).toNatClampNeg) ||| ((1 : Int32) <<< (u1 &&& 31)))) (1 : Int32).toNatClampNeg (((upd cn (0 : Int32).toNatClampNeg ((cn (0 : Int32).toNatClampNeg) ||| ((1 : Int32) <<< (u1 &&& 31)))) (1 : Int32).toNatClampNeg) ||| ((1 : Int32) <<< (u2 &&& 31)))) (2 : Int32).toNatClampNeg (((upd (upd cn (0 : Int32).toNatClampNeg ((cn (0 : Int32).toNatClampNeg) ||| ((1 : Int32) <<< (u1 &&& 31)))) (1 : Int32).toNatClampNeg (((upd cn (0 : Int32).toNatClampNeg ((cn (0 : Int32).toNatClampNeg) ||| ((1 : Int32) <<< (u1 &&& 31)))) (1 : Int32).toNatClampNeg) ||| ((1 : Int32) <<< (u2 &&& 31)))) (2 : Int32).toNatClampNeg) ||| ((1 : Int32) <<< (u3 &&& 31)))) (3 : Int32).toNatClampNeg (((upd (upd (upd cn (0 : Int32).toNatClampNeg ((cn (0 : Int32).toNatClampNeg) ||| ((1 : Int32) <<< (u1 &&& 31)))) (1 : Int32).toNatClampNeg (((upd cn (0 : Int32).toNatClampNeg ((cn (0 : Int32).toNatClampNeg) ||| ((1 : Int32) <<< (u1 &&& 31)))) (1 : Int32).toNatClampNeg) ||| ((1 : Int32) <<< (u2 &&& 31)))) (2 : Int32).toNatClampNeg (((upd (upd cn (0 : Int32).toNatClampNeg ((cn (0 : Int32).toNatClampNeg) ||| ((1 : Int32) <<< (u1 &&& 31)))) (1 : Int32).toNatClampNeg (((upd cn (0 : Int32).toNatClampNeg ((cn (0 : Int32).toNatClampNeg) ||| ((1 : Int32) <<< (u1 &&& 31)))) (1 : Int32).toNatClampNeg) ||| ((1 : Int32) <<< (u2 &&& 31)))) (2 : Int32).toNatClampNeg) ||| ((1 : Int32) <<< (u3 &&& 31)))) (3 : Int32).toNatClampNeg) ||| ((1 : Int32) <<< (u4 &&& 31)))) fi fl pa sh od bd bs) H locs := ⟨hP, hD, hS⟩
            have q := Option.some.inj h
            subst q
            exact fw_vret hQ S hr hlk hX hw d_MO_note_117
          refine lv_icmp_ne (tgt := 68) hx hb d_MO_note_57 (by decide) (fun hc => ?_) (fun hc => ?_)
          · have h := oe h hc
            exact J68  h _ _ _ (lv_sub hl [0, 1, 2, 3, 4] rfl) hw
          · have h := oi h hc
            refine lv_iload hx hb d_MO_note_60 (lv_at hl 7 rfl) ?_
            refine lv_iload hx hb d_MO_note_62 (lv_at hl 6 rfl) ?_
            refine lv_icmp_eq (tgt := 68) hx hb d_MO_note_64 (by decide) (fun hc => ?_) (fun hc => ?_)
            · have h := oi h hc
              exact J68  h _ _ _ (lv_sub hl [0, 1, 2, 3, 4] rfl) hw
            · have h := oe h hc
              have q := Option.some.inj h
              subst q
              exact fw_vret hQ S hr hlk hX hw d_MO_note_67
        refine lv_icmp_ne (tgt := 54) hx hb d_MO_note_38 (by decide) (fun hc => ?_) (fun hc => ?_)
        · have h := oe h hc
          exact J54  h _ _ _ (lv_sub hl [1, 2, 3, 4, 5, 6, 7, 0] rfl) hw
        · have h := oi h hc
          refine lv_iload_n hx hb d_MO_note_41 rfl (lv_at hl 2 rfl) ?_
          refine lv_iload_n hx hb d_MO_note_42 rfl (lv_at hl 3 rfl) ?_
          refine lv_iadd hx hb d_MO_note_43 ?_
          refine lv_iload_n hx hb d_MO_note_44 rfl (lv_at hl 4 rfl) ?_
          refine lv_iadd hx hb d_MO_note_45 ?_
          refine lv_iload hx hb d_MO_note_46 (lv_at hl 5 rfl) ?_
          refine lv_iadd hx hb d_MO_note_48 ?_
          refine lv_iload hx hb d_MO_note_49 (lv_at hl 7 rfl) ?_
          refine lv_icmp_ne (tgt := 67) hx hb d_MO_note_51 (by decide) (fun hc => ?_) (fun hc => ?_)
          · have h := oe h hc
            have q := Option.some.inj h
            subst q
            exact fw_vret hQ S hr hlk hX hw d_MO_note_67
          · have h := oi h hc
            exact J54  h _ _ _ (lv_sub hl [1, 2, 3, 4, 5, 6, 7, 0] rfl) hw
      refine lv_if_le (tgt := 31) hx hb d_MO_note_23 (by decide) (fun hc => ?_) (fun hc => ?_)
      · have h := oi h hc
        refine lv_iconst (v := 1) hx hb d_MO_note_31 (by decide) ?_
        exact J32 (1 : Int32) h _ _ _ hl hw
      · have h := oe h hc
        refine lv_iload hx hb d_MO_note_26 (lv_at hl 4 rfl) ?_
        refine lv_goto (tgt := 32) hx hb d_MO_note_28 (by decide) ?_
        exact J32 u4 h _ _ _ hl hw
  refine lv_if_le (tgt := 9) hx hb d_MO_note_2 (by decide) (fun hc => ?_) (fun hc => ?_)
  · have h := oi h hc
    refine lv_iconst (v := 1) hx hb d_MO_note_9 (by decide) ?_
    exact J10 (1 : Int32) h _ _ _ hl hw
  · have h := oe h hc
    refine lv_iload_n hx hb d_MO_note_5 rfl (lv_at hl 2 rfl) ?_
    refine lv_goto (tgt := 10) hx hb d_MO_note_6 (by decide) ?_
    exact J10 u2 h _ _ _ hl hw
set_option maxHeartbeats 4000000 in
set_option maxRecDepth 100000 in
theorem ct_MO_trySquare (l : Launch) (D : va_G) (ad : Nat → Nat) (cI cL : ClassId) (N : Nat) (th : Int32) (ki : Int32) (ce : Int32) (wi : Int32) (ma : Int32) (fo : Int32) (cu : Nat → Int32) (gr : Nat → Int32) (ru : Nat → Int32) (nu : Nat → Int32) (gv : Nat → Int32) (ca : Nat → Int32) (nw : Nat → Int32) (lo : Nat → Int32) (ke : Nat → Int32) (un : Nat → Int32) (cn : Nat → Int32) (fi : Nat → Int32) (fl : Nat → Int32) (pa : Nat → Int32) (sh : Nat → Int32) (od : Nat → Int32) (bd : Nat → Int32) (bs : Nat → Int32) (u1 : Int32) (u2 : Int32) (out : (Nat → Int32) × (Nat → Int32)) (h : mi_MO_trySquare N ma nw lo un cn u1 u2 = some out) : fw_C l y_MO_trySquare (.code y_MO_trySquare b_MO_trySquare 7 (none) :: Gw) (fr 2 45) D vwCl (tyA cI cL) [.ref (ad 0), .int u1, .int u2] (wM ad cI cL th ki ce wi ma fo cu gr ru nu gv ca nw lo ke un cn fi fl pa sh od bd bs) none (wM ad cI cL th ki ce wi ma fo cu gr ru nu gv ca nw out.1 ke un out.2 fi fl pa sh od bd bs) := by
  refine fw_of (by decide) (Nat.le_of_ble_eq_true rfl) ?_
  intro p e s m args below meth c ls A R Q hR hQ S hr hlk hX hA hl hw
  have hK := hX.1
  have hx := S.1
  have hb := S.2.1
  have hown := S.2.2.2.1
  have hg := S.2.2.2.2
  have hl : lv_has ls 7 [(0, .ref (ad 0)), (1, .int u1), (2, .int u2)] := hl
  unfold mi_MO_trySquare at h
  refine lv_iconst (v := 1) hx hb d_MO_trySquare_0 (by decide) ?_
  refine lv_istore_n (lv' := [(3, .int (1 : Int32)), (0, .ref (ad 0)), (1, .int u1), (2, .int u2)]) hx hb d_MO_trySquare_1 rfl hl (by decide) rfl (fun ls hl => ?_)
  have X2 : ∀ (y2 : Int32 × (Nat → Int32)), mr_MO_trySquare_2 N ma nw lo un y2 = some out → ∀ (ls : Array Slot) (H : Heap) (locs : List Loc), lv_has ls 7 [(0, .ref (ad 0))] → fw_H D vwCl A s.heap (wM ad cI cL th ki ce wi ma fo cu gr ru nu gv ca nw lo ke un y2.2 fi fl pa sh od bd bs) H locs → W p l e R s m args below meth c H locs 0 0 Q (F0 m 143 ls []) := by
    intro y2 h ls H locs hl hw
    unfold mr_MO_trySquare_2 at h
    refine lv_aload_n hx hb d_MO_trySquare_143 rfl (lv_at hl 0 rfl) ?_
    refine ob h (fun r144 h144 h => ?_)
    refine fw_callV (As := []) (rest := []) (st1 := []) S (ct_MO_lose l D ad cI cL N th ki ce wi ma fo cu gr ru nu gv ca nw lo ke un y2.2 fi fl pa sh od bd bs r144 h144) q_948 q_950 s_38 q_10 k_MO_lose hd_MO_lose ⟨by rw [hR]; decide, by rw [hR]; decide⟩ rfl rfl hX hw hA 0 (ci := 6) rfl rfl hl.1 rfl rfl (Nat.le_of_ble_eq_true rfl) d_MO_trySquare_144 ⟨Nat.zero_le _, Nat.zero_le _⟩ rfl (fun H locs hw => ?_)
    have q := Option.some.inj h
    subst q
    exact fw_vret hQ S hr hlk hX hw d_MO_trySquare_147
  have L2 : ∀ (n2 : Nat) (x2 : Int32 × (Nat → Int32)) (e2 : Int32 × (Nat → Int32)), lp (mb_MO_trySquare_2 N ma nw un u1 u2) n2 x2 = some e2 → (mr_MO_trySquare_2 N ma nw lo un) e2 = some out → ∀ (ls : Array Slot) (H : Heap) (locs : List Loc), lv_has ls 7 [(0, .ref (ad 0)), (1, .int u1), (2, .int u2), (3, .int x2.1)] → fw_H D vwCl A s.heap (wM ad cI cL th ki ce wi ma fo cu gr ru nu gv ca nw lo ke un x2.2 fi fl pa sh od bd bs) H locs → W p l e R s m args below meth c H locs 0 0 Q (F0 m 2 ls []) := by
    intro n2
    induction n2 with
    | zero => intro x2 e2 h1; exact absurd h1 lp_0
    | succ n2 ih2 =>
      intro x2 e2 h1 hr2 ls H locs hl hw
      rw [lp_s] at h1
      refine ob h1 (fun r2 h hk2 => ?_)
      unfold mb_MO_trySquare_2 at h
      refine lv_iload_n hx hb d_MO_trySquare_2 rfl (lv_at hl 3 rfl) ?_
      refine lv_iconst (v := 5) hx hb d_MO_trySquare_3 (by decide) ?_
      refine lv_icmp_ge (tgt := 143) hx hb d_MO_trySquare_4 (by decide) (fun hc => ?_) (fun hc => ?_)
      · have h := oi h hc
        have q := Option.some.inj h
        subst q
        have q := Option.some.inj hk2
        subst q
        exact X2 (x2.1, x2.2) hr2 _ _ _ (lv_sub hl [0] rfl) hw
      · have h := oe h hc
        refine lv_aload_n hx hb d_MO_trySquare_7 rfl (lv_at hl 0 rfl) ?_
        refine lv_iconst (v := 0) hx hb d_MO_trySquare_8 (by decide) ?_
        refine lv_iload_n hx hb d_MO_trySquare_9 rfl (lv_at hl 3 rfl) ?_
        refine ob h (fun r10 h10 h => ?_)
        refine fw_callV (As := [.int (0 : Int32), .int x2.1]) (rest := []) (st1 := [.int r10]) S (ct_MO_may l D ad cI cL N th ki ce wi ma fo cu gr ru nu gv ca nw lo ke un x2.2 fi fl pa sh od bd bs (0 : Int32) x2.1 r10 h10) q_944 q_946 s_37 q_10 k_MO_may hd_MO_may ⟨by rw [hR]; decide, by rw [hR]; decide⟩ rfl rfl hX hw hA 0 (ci := 6) rfl rfl hl.1 rfl rfl (Nat.le_of_ble_eq_true rfl) d_MO_trySquare_10 ⟨Nat.zero_le _, Nat.zero_le _⟩ rfl (fun H locs hw => ?_)
        refine lv_if_ne (tgt := 19) hx hb d_MO_trySquare_13 (by decide) (fun hc => ?_) (fun hc => ?_)
        · have h := oe h hc
          refine lv_iconst (v := 0) hx hb d_MO_trySquare_19 (by decide) ?_
          refine lv_istore (lv' := [(4, .int (0 : Int32)), (0, .ref (ad 0)), (1, .int u1), (2, .int u2), (3, .int x2.1)]) hx hb d_MO_trySquare_20 hl (by decide) rfl (fun ls hl => ?_)
          have X22 : ∀ (y22 : Int32 × (Nat → Int32)), mr_MO_trySquare_22 x2 y22 = some r2 → ∀ (ls : Array Slot) (H : Heap) (locs : List Loc), lv_has ls 7 [(0, .ref (ad 0)), (1, .int u1), (2, .int u2), (3, .int x2.1)] → fw_H D vwCl A s.heap (wM ad cI cL th ki ce wi ma fo cu gr ru nu gv ca nw lo ke un y22.2 fi fl pa sh od bd bs) H locs → W p l e R s m args below meth c H locs 0 0 Q (F0 m 137 ls []) := by
            intro y22 h ls H locs hl hw
            unfold mr_MO_trySquare_22 at h
            refine lv_iinc (k := 3) (v := x2.1 + 1) (lv' := [(3, .int (x2.1 + 1)), (0, .ref (ad 0)), (1, .int u1), (2, .int u2)]) hx hb d_MO_trySquare_137 hl rfl (by rw [lit1]) (by decide) rfl (fun ls hl => ?_)
            refine lv_goto (tgt := 2) hx hb d_MO_trySquare_140 (by decide) ?_
            have q := Option.some.inj h
            subst q
            exact ih2 (x2.1 + 1, y22.2) e2 hk2 hr2 _ _ _ (lv_sub hl [1, 2, 3, 0] rfl) hw
          have L22 : ∀ (n22 : Nat) (x22 : Int32 × (Nat → Int32)) (e22 : Int32 × (Nat → Int32)), lp (mb_MO_trySquare_22 N ma nw un u1 u2 x2) n22 x22 = some e22 → (mr_MO_trySquare_22 x2) e22 = some r2 → ∀ (ls : Array Slot) (H : Heap) (locs : List Loc), lv_has ls 7 [(0, .ref (ad 0)), (1, .int u1), (2, .int u2), (3, .int x2.1), (4, .int x22.1)] → fw_H D vwCl A s.heap (wM ad cI cL th ki ce wi ma fo cu gr ru nu gv ca nw lo ke un x22.2 fi fl pa sh od bd bs) H locs → W p l e R s m args below meth c H locs 0 0 Q (F0 m 22 ls []) := by
            intro n22
            induction n22 with
            | zero => intro x22 e22 h1; exact absurd h1 lp_0
            | succ n22 ih22 =>
              intro x22 e22 h1 hr22 ls H locs hl hw
              rw [lp_s] at h1
              refine ob h1 (fun r22 h hk22 => ?_)
              unfold mb_MO_trySquare_22 at h
              refine lv_iload hx hb d_MO_trySquare_22 (lv_at hl 4 rfl) ?_
              refine lv_iconst (v := 5) hx hb d_MO_trySquare_24 (by decide) ?_
              refine lv_icmp_ge (tgt := 137) hx hb d_MO_trySquare_25 (by decide) (fun hc => ?_) (fun hc => ?_)
              · have h := oi h hc
                have q := Option.some.inj h
                subst q
                have q := Option.some.inj hk22
                subst q
                exact X22 (x22.1, x22.2) hr22 _ _ _ (lv_sub hl [0, 1, 2, 3] rfl) hw
              · have h := oe h hc
                refine lv_aload_n hx hb d_MO_trySquare_28 rfl (lv_at hl 0 rfl) ?_
                refine lv_iconst (v := 1) hx hb d_MO_trySquare_29 (by decide) ?_
                refine lv_iload hx hb d_MO_trySquare_30 (lv_at hl 4 rfl) ?_
                refine lv_iconst (v := 1) hx hb d_MO_trySquare_32 (by decide) ?_
                refine lv_iload_n hx hb d_MO_trySquare_33 rfl (lv_at hl 3 rfl) ?_
                refine lv_ishl hx hb d_MO_trySquare_34 ?_
                refine ob h (fun r35 h35 h => ?_)
                refine fw_callV (As := [.int (1 : Int32), .int x22.1, .int ((1 : Int32) <<< (x2.1 &&& 31))]) (rest := []) (st1 := [.int r35]) S (ct_MO_goes l D ad cI cL N th ki ce wi ma fo cu gr ru nu gv ca nw lo ke un x22.2 fi fl pa sh od bd bs (1 : Int32) x22.1 ((1 : Int32) <<< (x2.1 &&& 31)) r35 h35) q_956 q_958 s_40 q_10 k_MO_goes hd_MO_goes ⟨by rw [hR]; decide, by rw [hR]; decide⟩ rfl rfl hX hw hA 0 (ci := 6) rfl rfl hl.1 rfl rfl (Nat.le_of_ble_eq_true rfl) d_MO_trySquare_35 ⟨Nat.zero_le _, Nat.zero_le _⟩ rfl (fun H locs hw => ?_)
                refine lv_if_ne (tgt := 44) hx hb d_MO_trySquare_38 (by decide) (fun hc => ?_) (fun hc => ?_)
                · have h := oe h hc
                  refine lv_iconst (v := 0) hx hb d_MO_trySquare_44 (by decide) ?_
                  refine lv_istore (lv' := [(5, .int (0 : Int32)), (0, .ref (ad 0)), (1, .int u1), (2, .int u2), (3, .int x2.1), (4, .int x22.1)]) hx hb d_MO_trySquare_45 hl (by decide) rfl (fun ls hl => ?_)
                  have X47 : ∀ (y47 : Int32 × (Nat → Int32)), mr_MO_trySquare_47 x22 y47 = some r22 → ∀ (ls : Array Slot) (H : Heap) (locs : List Loc), lv_has ls 7 [(0, .ref (ad 0)), (1, .int u1), (2, .int u2), (3, .int x2.1), (4, .int x22.1)] → fw_H D vwCl A s.heap (wM ad cI cL th ki ce wi ma fo cu gr ru nu gv ca nw lo ke un y47.2 fi fl pa sh od bd bs) H locs → W p l e R s m args below meth c H locs 0 0 Q (F0 m 131 ls []) := by
                    intro y47 h ls H locs hl hw
                    unfold mr_MO_trySquare_47 at h
                    refine lv_iinc (k := 4) (v := x22.1 + 1) (lv' := [(4, .int (x22.1 + 1)), (0, .ref (ad 0)), (1, .int u1), (2, .int u2), (3, .int x2.1)]) hx hb d_MO_trySquare_131 hl rfl (by rw [lit1]) (by decide) rfl (fun ls hl => ?_)
                    refine lv_goto (tgt := 22) hx hb d_MO_trySquare_134 (by decide) ?_
                    have q := Option.some.inj h
                    subst q
                    exact ih22 (x22.1 + 1, y47.2) e22 hk22 hr22 _ _ _ (lv_sub hl [1, 2, 3, 4, 0] rfl) hw
                  have L47 : ∀ (n47 : Nat) (x47 : Int32 × (Nat → Int32)) (e47 : Int32 × (Nat → Int32)), lp (mb_MO_trySquare_47 N ma nw un u1 u2 x2 x22) n47 x47 = some e47 → (mr_MO_trySquare_47 x22) e47 = some r22 → ∀ (ls : Array Slot) (H : Heap) (locs : List Loc), lv_has ls 7 [(0, .ref (ad 0)), (1, .int u1), (2, .int u2), (3, .int x2.1), (4, .int x22.1), (5, .int x47.1)] → fw_H D vwCl A s.heap (wM ad cI cL th ki ce wi ma fo cu gr ru nu gv ca nw lo ke un x47.2 fi fl pa sh od bd bs) H locs → W p l e R s m args below meth c H locs 0 0 Q (F0 m 47 ls []) := by
                    intro n47
                    induction n47 with
                    | zero => intro x47 e47 h1; exact absurd h1 lp_0
                    | succ n47 ih47 =>
                      intro x47 e47 h1 hr47 ls H locs hl hw
                      rw [lp_s] at h1
                      refine ob h1 (fun r47 h hk47 => ?_)
                      unfold mb_MO_trySquare_47 at h
                      refine lv_iload hx hb d_MO_trySquare_47 (lv_at hl 5 rfl) ?_
                      refine lv_iconst (v := 5) hx hb d_MO_trySquare_49 (by decide) ?_
                      refine lv_icmp_ge (tgt := 131) hx hb d_MO_trySquare_50 (by decide) (fun hc => ?_) (fun hc => ?_)
                      · have h := oi h hc
                        have q := Option.some.inj h
                        subst q
                        have q := Option.some.inj hk47
                        subst q
                        exact X47 (x47.1, x47.2) hr47 _ _ _ (lv_sub hl [0, 1, 2, 3, 4] rfl) hw
                      · have h := oe h hc
                        refine lv_aload_n hx hb d_MO_trySquare_53 rfl (lv_at hl 0 rfl) ?_
                        refine lv_iconst (v := 2) hx hb d_MO_trySquare_54 (by decide) ?_
                        refine lv_iload hx hb d_MO_trySquare_55 (lv_at hl 5 rfl) ?_
                        refine lv_iconst (v := 1) hx hb d_MO_trySquare_57 (by decide) ?_
                        refine lv_iload_n hx hb d_MO_trySquare_58 rfl (lv_at hl 3 rfl) ?_
                        refine lv_ishl hx hb d_MO_trySquare_59 ?_
                        refine lv_iconst (v := 1) hx hb d_MO_trySquare_60 (by decide) ?_
                        refine lv_iload hx hb d_MO_trySquare_61 (lv_at hl 4 rfl) ?_
                        refine lv_ishl hx hb d_MO_trySquare_63 ?_
                        refine lv_ior hx hb d_MO_trySquare_64 ?_
                        refine ob h (fun r65 h65 h => ?_)
                        refine fw_callV (As := [.int (2 : Int32), .int x47.1, .int (((1 : Int32) <<< (x2.1 &&& 31)) ||| ((1 : Int32) <<< (x22.1 &&& 31)))]) (rest := []) (st1 := [.int r65]) S (ct_MO_goes l D ad cI cL N th ki ce wi ma fo cu gr ru nu gv ca nw lo ke un x47.2 fi fl pa sh od bd bs (2 : Int32) x47.1 (((1 : Int32) <<< (x2.1 &&& 31)) ||| ((1 : Int32) <<< (x22.1 &&& 31))) r65 h65) q_956 q_958 s_40 q_10 k_MO_goes hd_MO_goes ⟨by rw [hR]; decide, by rw [hR]; decide⟩ rfl rfl hX hw hA 0 (ci := 6) rfl rfl hl.1 rfl rfl (Nat.le_of_ble_eq_true rfl) d_MO_trySquare_65 ⟨Nat.zero_le _, Nat.zero_le _⟩ rfl (fun H locs hw => ?_)
                        refine lv_if_ne (tgt := 74) hx hb d_MO_trySquare_68 (by decide) (fun hc => ?_) (fun hc => ?_)
                        · have h := oe h hc
                          refine lv_iconst (v := 0) hx hb d_MO_trySquare_74 (by decide) ?_
                          refine lv_istore (lv' := [(6, .int (0 : Int32)), (0, .ref (ad 0)), (1, .int u1), (2, .int u2), (3, .int x2.1), (4, .int x22.1), (5, .int x47.1)]) hx hb d_MO_trySquare_75 hl (by decide) rfl (fun ls hl => ?_)
                          have X77 : ∀ (y77 : Int32 × (Nat → Int32)), mr_MO_trySquare_77 x47 y77 = some r47 → ∀ (ls : Array Slot) (H : Heap) (locs : List Loc), lv_has ls 7 [(0, .ref (ad 0)), (1, .int u1), (2, .int u2), (3, .int x2.1), (4, .int x22.1), (5, .int x47.1)] → fw_H D vwCl A s.heap (wM ad cI cL th ki ce wi ma fo cu gr ru nu gv ca nw lo ke un y77.2 fi fl pa sh od bd bs) H locs → W p l e R s m args below meth c H locs 0 0 Q (F0 m 125 ls []) := by
                            intro y77 h ls H locs hl hw
                            unfold mr_MO_trySquare_77 at h
                            refine lv_iinc (k := 5) (v := x47.1 + 1) (lv' := [(5, .int (x47.1 + 1)), (0, .ref (ad 0)), (1, .int u1), (2, .int u2), (3, .int x2.1), (4, .int x22.1)]) hx hb d_MO_trySquare_125 hl rfl (by rw [lit1]) (by decide) rfl (fun ls hl => ?_)
                            refine lv_goto (tgt := 47) hx hb d_MO_trySquare_128 (by decide) ?_
                            have q := Option.some.inj h
                            subst q
                            exact ih47 (x47.1 + 1, y77.2) e47 hk47 hr47 _ _ _ (lv_sub hl [1, 2, 3, 4, 5, 0] rfl) hw
                          have L77 : ∀ (n77 : Nat) (x77 : Int32 × (Nat → Int32)) (e77 : Int32 × (Nat → Int32)), lp (mb_MO_trySquare_77 N ma nw un u1 u2 x2 x22 x47) n77 x77 = some e77 → (mr_MO_trySquare_77 x47) e77 = some r47 → ∀ (ls : Array Slot) (H : Heap) (locs : List Loc), lv_has ls 7 [(0, .ref (ad 0)), (1, .int u1), (2, .int u2), (3, .int x2.1), (4, .int x22.1), (5, .int x47.1), (6, .int x77.1)] → fw_H D vwCl A s.heap (wM ad cI cL th ki ce wi ma fo cu gr ru nu gv ca nw lo ke un x77.2 fi fl pa sh od bd bs) H locs → W p l e R s m args below meth c H locs 0 0 Q (F0 m 77 ls []) := by
                            intro n77
                            induction n77 with
                            | zero => intro x77 e77 h1; exact absurd h1 lp_0
                            | succ n77 ih77 =>
                              intro x77 e77 h1 hr77 ls H locs hl hw
                              rw [lp_s] at h1
                              refine ob h1 (fun r77 h hk77 => ?_)
                              unfold mb_MO_trySquare_77 at h
                              refine lv_iload hx hb d_MO_trySquare_77 (lv_at hl 6 rfl) ?_
                              refine lv_iconst (v := 5) hx hb d_MO_trySquare_79 (by decide) ?_
                              refine lv_icmp_ge (tgt := 125) hx hb d_MO_trySquare_80 (by decide) (fun hc => ?_) (fun hc => ?_)
                              · have h := oi h hc
                                have q := Option.some.inj h
                                subst q
                                have q := Option.some.inj hk77
                                subst q
                                exact X77 (x77.1, x77.2) hr77 _ _ _ (lv_sub hl [0, 1, 2, 3, 4, 5] rfl) hw
                              · have h := oe h hc
                                refine lv_aload_n hx hb d_MO_trySquare_83 rfl (lv_at hl 0 rfl) ?_
                                refine lv_iconst (v := 3) hx hb d_MO_trySquare_84 (by decide) ?_
                                refine lv_iload hx hb d_MO_trySquare_85 (lv_at hl 6 rfl) ?_
                                refine lv_iconst (v := 1) hx hb d_MO_trySquare_87 (by decide) ?_
                                refine lv_iload_n hx hb d_MO_trySquare_88 rfl (lv_at hl 3 rfl) ?_
                                refine lv_ishl hx hb d_MO_trySquare_89 ?_
                                refine lv_iconst (v := 1) hx hb d_MO_trySquare_90 (by decide) ?_
                                refine lv_iload hx hb d_MO_trySquare_91 (lv_at hl 4 rfl) ?_
                                refine lv_ishl hx hb d_MO_trySquare_93 ?_
                                refine lv_ior hx hb d_MO_trySquare_94 ?_
                                refine lv_iconst (v := 1) hx hb d_MO_trySquare_95 (by decide) ?_
                                refine lv_iload hx hb d_MO_trySquare_96 (lv_at hl 5 rfl) ?_
                                refine lv_ishl hx hb d_MO_trySquare_98 ?_
                                refine lv_ior hx hb d_MO_trySquare_99 ?_
                                refine ob h (fun r100 h100 h => ?_)
                                refine fw_callV (As := [.int (3 : Int32), .int x77.1, .int ((((1 : Int32) <<< (x2.1 &&& 31)) ||| ((1 : Int32) <<< (x22.1 &&& 31))) ||| ((1 : Int32) <<< (x47.1 &&& 31)))]) (rest := []) (st1 := [.int r100]) S (ct_MO_goes l D ad cI cL N th ki ce wi ma fo cu gr ru nu gv ca nw lo ke un x77.2 fi fl pa sh od bd bs (3 : Int32) x77.1 ((((1 : Int32) <<< (x2.1 &&& 31)) ||| ((1 : Int32) <<< (x22.1 &&& 31))) ||| ((1 : Int32) <<< (x47.1 &&& 31))) r100 h100) q_956 q_958 s_40 q_10 k_MO_goes hd_MO_goes ⟨by rw [hR]; decide, by rw [hR]; decide⟩ rfl rfl hX hw hA 0 (ci := 6) rfl rfl hl.1 rfl rfl (Nat.le_of_ble_eq_true rfl) d_MO_trySquare_100 ⟨Nat.zero_le _, Nat.zero_le _⟩ rfl (fun H locs hw => ?_)
                                refine lv_if_eq (tgt := 119) hx hb d_MO_trySquare_103 (by decide) (fun hc => ?_) (fun hc => ?_)
                                · have h := oi h hc
                                  refine lv_iinc (k := 6) (v := x77.1 + 1) (lv' := [(6, .int (x77.1 + 1)), (0, .ref (ad 0)), (1, .int u1), (2, .int u2), (3, .int x2.1), (4, .int x22.1), (5, .int x47.1)]) hx hb d_MO_trySquare_119 hl rfl (by rw [lit1]) (by decide) rfl (fun ls hl => ?_)
                                  refine lv_goto (tgt := 77) hx hb d_MO_trySquare_122 (by decide) ?_
                                  have q := Option.some.inj h
                                  subst q
                                  exact ih77 (x77.1 + 1, x77.2) e77 hk77 hr77 _ _ _ (lv_sub hl [1, 2, 3, 4, 5, 6, 0] rfl) hw
                                · have h := oe h hc
                                  refine lv_aload_n hx hb d_MO_trySquare_106 rfl (lv_at hl 0 rfl) ?_
                                  refine lv_iload_n hx hb d_MO_trySquare_107 rfl (lv_at hl 3 rfl) ?_
                                  refine lv_iload hx hb d_MO_trySquare_108 (lv_at hl 4 rfl) ?_
                                  refine lv_iload hx hb d_MO_trySquare_110 (lv_at hl 5 rfl) ?_
                                  refine lv_iload hx hb d_MO_trySquare_112 (lv_at hl 6 rfl) ?_
                                  refine lv_iload_n hx hb d_MO_trySquare_114 rfl (lv_at hl 1 rfl) ?_
                                  refine lv_iload_n hx hb d_MO_trySquare_115 rfl (lv_at hl 2 rfl) ?_
                                  refine ob h (fun r116 h116 h => ?_)
                                  refine fw_callV (As := [.int x2.1, .int x22.1, .int x47.1, .int x77.1, .int u1, .int u2]) (rest := []) (st1 := []) S (ct_MO_note l D ad cI cL N th ki ce wi ma fo cu gr ru nu gv ca nw lo ke un x77.2 fi fl pa sh od bd bs x2.1 x22.1 x47.1 x77.1 u1 u2 r116 h116) q_960 q_962 s_41 q_10 k_MO_note hd_MO_note ⟨by rw [hR]; decide, by rw [hR]; decide⟩ rfl rfl hX hw hA 0 (ci := 6) rfl rfl hl.1 rfl rfl (Nat.le_of_ble_eq_true rfl) d_MO_trySquare_116 ⟨Nat.zero_le _, Nat.zero_le _⟩ rfl (fun H locs hw => ?_)
                                  refine lv_iinc (k := 6) (v := x77.1 + 1) (lv' := [(6, .int (x77.1 + 1)), (0, .ref (ad 0)), (1, .int u1), (2, .int u2), (3, .int x2.1), (4, .int x22.1), (5, .int x47.1)]) hx hb d_MO_trySquare_119 hl rfl (by rw [lit1]) (by decide) rfl (fun ls hl => ?_)
                                  refine lv_goto (tgt := 77) hx hb d_MO_trySquare_122 (by decide) ?_
                                  have q := Option.some.inj h
                                  subst q
                                  exact ih77 (x77.1 + 1, r116) e77 hk77 hr77 _ _ _ (lv_sub hl [1, 2, 3, 4, 5, 6, 0] rfl) hw
                          refine ob h (fun e77 h1 h2 => ?_)
                          exact L77 N ((0 : Int32), x47.2) e77 h1 h2 _ _ _ (lv_sub hl [1, 2, 3, 4, 5, 6, 0] rfl) hw
                        · have h := oi h hc
                          refine lv_goto (tgt := 125) hx hb d_MO_trySquare_71 (by decide) ?_
                          refine lv_iinc (k := 5) (v := x47.1 + 1) (lv' := [(5, .int (x47.1 + 1)), (0, .ref (ad 0)), (1, .int u1), (2, .int u2), (3, .int x2.1), (4, .int x22.1)]) hx hb d_MO_trySquare_125 hl rfl (by rw [lit1]) (by decide) rfl (fun ls hl => ?_)
                          refine lv_goto (tgt := 47) hx hb d_MO_trySquare_128 (by decide) ?_
                          have q := Option.some.inj h
                          subst q
                          exact ih47 (x47.1 + 1, x47.2) e47 hk47 hr47 _ _ _ (lv_sub hl [1, 2, 3, 4, 5, 0] rfl) hw
                  refine ob h (fun e47 h1 h2 => ?_)
                  exact L47 N ((0 : Int32), x22.2) e47 h1 h2 _ _ _ (lv_sub hl [1, 2, 3, 4, 5, 0] rfl) hw
                · have h := oi h hc
                  refine lv_goto (tgt := 131) hx hb d_MO_trySquare_41 (by decide) ?_
                  refine lv_iinc (k := 4) (v := x22.1 + 1) (lv' := [(4, .int (x22.1 + 1)), (0, .ref (ad 0)), (1, .int u1), (2, .int u2), (3, .int x2.1)]) hx hb d_MO_trySquare_131 hl rfl (by rw [lit1]) (by decide) rfl (fun ls hl => ?_)
                  refine lv_goto (tgt := 22) hx hb d_MO_trySquare_134 (by decide) ?_
                  have q := Option.some.inj h
                  subst q
                  exact ih22 (x22.1 + 1, x22.2) e22 hk22 hr22 _ _ _ (lv_sub hl [1, 2, 3, 4, 0] rfl) hw
          refine ob h (fun e22 h1 h2 => ?_)
          exact L22 N ((0 : Int32), x2.2) e22 h1 h2 _ _ _ (lv_sub hl [1, 2, 3, 4, 0] rfl) hw
        · have h := oi h hc
          refine lv_goto (tgt := 137) hx hb d_MO_trySquare_16 (by decide) ?_
          refine lv_iinc (k := 3) (v := x2.1 + 1) (lv' := [(3, .int (x2.1 + 1)), (0, .ref (ad 0)), (1, .int u1), (2, .int u2)]) hx hb d_MO_trySquare_137 hl rfl (by rw [lit1]) (by decide) rfl (fun ls hl => ?_)
          refine lv_goto (tgt := 2) hx hb d_MO_trySquare_140 (by decide) ?_
          have q := Option.some.inj h
          subst q
          exact ih2 (x2.1 + 1, x2.2) e2 hk2 hr2 _ _ _ (lv_sub hl [1, 2, 3, 0] rfl) hw
  refine ob h (fun e2 h1 h2 => ?_)
  exact L2 N ((1 : Int32), cn) e2 h1 h2 _ _ _ (lv_sub hl [1, 2, 3, 0] rfl) hw
set_option maxHeartbeats 4000000 in
set_option maxRecDepth 100000 in
theorem ct_MO_tryStar (l : Launch) (D : va_G) (ad : Nat → Nat) (cI cL : ClassId) (N : Nat) (th : Int32) (ki : Int32) (ce : Int32) (wi : Int32) (ma : Int32) (fo : Int32) (cu : Nat → Int32) (gr : Nat → Int32) (ru : Nat → Int32) (nu : Nat → Int32) (gv : Nat → Int32) (ca : Nat → Int32) (nw : Nat → Int32) (lo : Nat → Int32) (ke : Nat → Int32) (un : Nat → Int32) (cn : Nat → Int32) (fi : Nat → Int32) (fl : Nat → Int32) (pa : Nat → Int32) (sh : Nat → Int32) (od : Nat → Int32) (bd : Nat → Int32) (bs : Nat → Int32)  (out : (Nat → Int32) × (Nat → Int32)) (h : mi_MO_tryStar N ma nw lo un cn = some out) : fw_C l y_MO_tryStar (.code y_MO_tryStar b_MO_tryStar 9 (none) :: Gw) (fr 1 22) D vwCl (tyA cI cL) [.ref (ad 0)] (wM ad cI cL th ki ce wi ma fo cu gr ru nu gv ca nw lo ke un cn fi fl pa sh od bd bs) none (wM ad cI cL th ki ce wi ma fo cu gr ru nu gv ca nw out.1 ke un out.2 fi fl pa sh od bd bs) := by
  refine fw_of (by decide) (Nat.le_of_ble_eq_true rfl) ?_
  intro p e s m args below meth c ls A R Q hR hQ S hr hlk hX hA hl hw
  have hK := hX.1
  have hx := S.1
  have hb := S.2.1
  have hown := S.2.2.2.1
  have hg := S.2.2.2.2
  have hl : lv_has ls 9 [(0, .ref (ad 0))] := hl
  unfold mi_MO_tryStar at h
  refine lv_iconst (v := 0) hx hb d_MO_tryStar_0 (by decide) ?_
  refine lv_istore_n (lv' := [(1, .int (0 : Int32)), (0, .ref (ad 0))]) hx hb d_MO_tryStar_1 rfl hl (by decide) rfl (fun ls hl => ?_)
  refine lv_iconst (v := 0) hx hb d_MO_tryStar_2 (by decide) ?_
  refine lv_istore_n (lv' := [(2, .int (0 : Int32)), (1, .int (0 : Int32)), (0, .ref (ad 0))]) hx hb d_MO_tryStar_3 rfl hl (by decide) rfl (fun ls hl => ?_)
  refine lv_iconst (v := (-1)) hx hb d_MO_tryStar_4 (by decide) ?_
  refine lv_istore_n (lv' := [(3, .int (-1 : Int32)), (2, .int (0 : Int32)), (1, .int (0 : Int32)), (0, .ref (ad 0))]) hx hb d_MO_tryStar_5 rfl hl (by decide) rfl (fun ls hl => ?_)
  refine lv_iconst (v := (-1)) hx hb d_MO_tryStar_6 (by decide) ?_
  refine lv_istore (lv' := [(4, .int (-1 : Int32)), (3, .int (-1 : Int32)), (2, .int (0 : Int32)), (1, .int (0 : Int32)), (0, .ref (ad 0))]) hx hb d_MO_tryStar_7 hl (by decide) rfl (fun ls hl => ?_)
  refine lv_iconst (v := 0) hx hb d_MO_tryStar_9 (by decide) ?_
  refine lv_istore (lv' := [(5, .int (0 : Int32)), (4, .int (-1 : Int32)), (3, .int (-1 : Int32)), (2, .int (0 : Int32)), (1, .int (0 : Int32)), (0, .ref (ad 0))]) hx hb d_MO_tryStar_10 hl (by decide) rfl (fun ls hl => ?_)
  have X12 : ∀ (y12 : Int32 × Int32 × Int32 × Int32 × Int32), mr_MO_tryStar_12 N ma nw lo un cn y12 = some out → ∀ (ls : Array Slot) (H : Heap) (locs : List Loc), lv_has ls 9 [(0, .ref (ad 0)), (1, .int y12.1), (2, .int y12.2.1), (3, .int y12.2.2.1), (4, .int y12.2.2.2.1)] → fw_H D vwCl A s.heap (wM ad cI cL th ki ce wi ma fo cu gr ru nu gv ca nw lo ke un cn fi fl pa sh od bd bs) H locs → W p l e R s m args below meth c H locs 0 0 Q (F0 m 76 ls []) := by
    intro y12 h ls H locs hl hw
    unfold mr_MO_tryStar_12 at h
    refine lv_iconst (v := 0) hx hb d_MO_tryStar_76 (by decide) ?_
    refine lv_istore (lv' := [(5, .int (0 : Int32)), (0, .ref (ad 0)), (1, .int y12.1), (2, .int y12.2.1), (3, .int y12.2.2.1), (4, .int y12.2.2.2.1)]) hx hb d_MO_tryStar_77 hl (by decide) rfl (fun ls hl => ?_)
    have X79 : ∀ (y79 : Int32 × (Nat → Int32)), mr_MO_tryStar_79 N ma nw lo un y79 = some out → ∀ (ls : Array Slot) (H : Heap) (locs : List Loc), lv_has ls 9 [(0, .ref (ad 0))] → fw_H D vwCl A s.heap (wM ad cI cL th ki ce wi ma fo cu gr ru nu gv ca nw lo ke un y79.2 fi fl pa sh od bd bs) H locs → W p l e R s m args below meth c H locs 0 0 Q (F0 m 209 ls []) := by
      intro y79 h ls H locs hl hw
      unfold mr_MO_tryStar_79 at h
      refine lv_aload_n hx hb d_MO_tryStar_209 rfl (lv_at hl 0 rfl) ?_
      refine ob h (fun r210 h210 h => ?_)
      refine fw_callV (As := []) (rest := []) (st1 := []) S (ct_MO_lose l D ad cI cL N th ki ce wi ma fo cu gr ru nu gv ca nw lo ke un y79.2 fi fl pa sh od bd bs r210 h210) q_948 q_950 s_38 q_10 k_MO_lose hd_MO_lose ⟨by rw [hR]; decide, by rw [hR]; decide⟩ rfl rfl hX hw hA 0 (ci := 6) rfl rfl hl.1 rfl rfl (Nat.le_of_ble_eq_true rfl) d_MO_tryStar_210 ⟨Nat.zero_le _, Nat.zero_le _⟩ rfl (fun H locs hw => ?_)
      have q := Option.some.inj h
      subst q
      exact fw_vret hQ S hr hlk hX hw d_MO_tryStar_213
    have L79 : ∀ (n79 : Nat) (x79 : Int32 × (Nat → Int32)) (e79 : Int32 × (Nat → Int32)), lp (mb_MO_tryStar_79 N ma nw un y12) n79 x79 = some e79 → (mr_MO_tryStar_79 N ma nw lo un) e79 = some out → ∀ (ls : Array Slot) (H : Heap) (locs : List Loc), lv_has ls 9 [(0, .ref (ad 0)), (1, .int y12.1), (2, .int y12.2.1), (3, .int y12.2.2.1), (4, .int y12.2.2.2.1), (5, .int x79.1)] → fw_H D vwCl A s.heap (wM ad cI cL th ki ce wi ma fo cu gr ru nu gv ca nw lo ke un x79.2 fi fl pa sh od bd bs) H locs → W p l e R s m args below meth c H locs 0 0 Q (F0 m 79 ls []) := by
      intro n79
      induction n79 with
      | zero => intro x79 e79 h1; exact absurd h1 lp_0
      | succ n79 ih79 =>
        intro x79 e79 h1 hr79 ls H locs hl hw
        rw [lp_s] at h1
        refine ob h1 (fun r79 h hk79 => ?_)
        unfold mb_MO_tryStar_79 at h
        refine lv_iload hx hb d_MO_tryStar_79 (lv_at hl 5 rfl) ?_
        refine lv_aload_n hx hb d_MO_tryStar_81 rfl (lv_at hl 0 rfl) ?_
        refine va_get (ci := 6) (v := .int ma) (C := R_MO) (T := F_MO) (N := 24) hx hb hg in_MO hown hK hw.1 0 rfl rfl 13 (by decide) (hg _ q_762) (fun _ h9 => h9) rfl d_MO_tryStar_82 ?_
        refine lv_icmp_ge (tgt := 209) hx hb d_MO_tryStar_85 (by decide) (fun hc => ?_) (fun hc => ?_)
        · have h := oi h hc
          have q := Option.some.inj h
          subst q
          have q := Option.some.inj hk79
          subst q
          exact X79 (x79.1, x79.2) hr79 _ _ _ (lv_sub hl [0] rfl) hw
        · have h := oe h hc
          refine lv_iload_n hx hb d_MO_tryStar_88 rfl (lv_at hl 1 rfl) ?_
          refine lv_aload_n hx hb d_MO_tryStar_89 rfl (lv_at hl 0 rfl) ?_
          refine lv_iload hx hb d_MO_tryStar_90 (lv_at hl 5 rfl) ?_
          refine lv_iconst (v := 0) hx hb d_MO_tryStar_92 (by decide) ?_
          refine ob h (fun r93 h93 h => ?_)
          refine fw_callV (As := [.int x79.1, .int (0 : Int32)]) (rest := [.int y12.1]) (st1 := [.int r93, .int y12.1]) S (ct_MO_may l D ad cI cL N th ki ce wi ma fo cu gr ru nu gv ca nw lo ke un x79.2 fi fl pa sh od bd bs x79.1 (0 : Int32) r93 h93) q_944 q_946 s_37 q_10 k_MO_may hd_MO_may ⟨by rw [hR]; decide, by rw [hR]; decide⟩ rfl rfl hX hw hA 0 (ci := 6) rfl rfl hl.1 rfl rfl (Nat.le_of_ble_eq_true rfl) d_MO_tryStar_93 ⟨Nat.zero_le _, Nat.zero_le _⟩ rfl (fun H locs hw => ?_)
          have J104 : ∀ (j104s1 : Int32), mj_MO_tryStar_104 N nw un y12 x79 j104s1 = some r79 → ∀ (ls : Array Slot) (H : Heap) (locs : List Loc), lv_has ls 9 [(0, .ref (ad 0)), (1, .int y12.1), (2, .int y12.2.1), (3, .int y12.2.2.1), (4, .int y12.2.2.2.1), (5, .int x79.1)] → fw_H D vwCl A s.heap (wM ad cI cL th ki ce wi ma fo cu gr ru nu gv ca nw lo ke un x79.2 fi fl pa sh od bd bs) H locs → W p l e R s m args below meth c H locs 0 0 Q (F0 m 104 ls [.int j104s1, .int y12.1]) := by
            intro j104s1 h ls H locs hl hw
            unfold mj_MO_tryStar_104 at h
            refine lv_isub hx hb d_MO_tryStar_104 ?_
            refine lv_istore (lv' := [(6, .int (y12.1 - j104s1)), (0, .ref (ad 0)), (1, .int y12.1), (2, .int y12.2.1), (3, .int y12.2.2.1), (4, .int y12.2.2.2.1), (5, .int x79.1)]) hx hb d_MO_tryStar_105 hl (by decide) rfl (fun ls hl => ?_)
            refine lv_iload_n hx hb d_MO_tryStar_107 rfl (lv_at hl 3 rfl) ?_
            refine lv_aload_n hx hb d_MO_tryStar_108 rfl (lv_at hl 1 rfl) ?_
            refine lv_iload hx hb d_MO_tryStar_109 (lv_at hl 6 rfl) ?_
            refine lv_iconst (v := 1) hx hb d_MO_tryStar_111 (by decide) ?_
            refine ob h (fun r112 h112 h => ?_)
            refine fw_callV (As := [.int x79.1, .int (1 : Int32)]) (rest := [.int y12.2.1]) (st1 := [.int r112, .int y12.2.1]) S (ct_MO_may l D ad cI cL N th ki ce wi ma fo cu gr ru nu gv ca nw lo ke un x79.2 fi fl pa sh od bd bs x79.1 (1 : Int32) r112 h112) q_944 q_946 s_37 q_10 k_MO_may hd_MO_may ⟨by rw [hR]; decide, by rw [hR]; decide⟩ rfl rfl hX hw hA 0 (ci := 6) rfl rfl hl.1 rfl rfl (Nat.le_of_ble_eq_true rfl) d_MO_tryStar_112 ⟨Nat.zero_le _, Nat.zero_le _⟩ rfl (fun H locs hw => ?_)
            have J123 : ∀ (j123s1 : Int32), mj_MO_tryStar_123 N nw un y12 x79 j104s1 j123s1 = some r79 → ∀ (ls : Array Slot) (H : Heap) (locs : List Loc), lv_has ls 9 [(0, .ref (ad 0)), (1, .int y12.1), (2, .int y12.2.1), (3, .int y12.2.2.1), (4, .int y12.2.2.2.1), (5, .int x79.1), (6, .int (y12.1 - j104s1))] → fw_H D vwCl A s.heap (wM ad cI cL th ki ce wi ma fo cu gr ru nu gv ca nw lo ke un x79.2 fi fl pa sh od bd bs) H locs → W p l e R s m args below meth c H locs 0 0 Q (F0 m 123 ls [.int j123s1, .int y12.2.1]) := by
              intro j123s1 h ls H locs hl hw
              unfold mj_MO_tryStar_123 at h
              refine lv_isub hx hb d_MO_tryStar_123 ?_
              refine lv_istore (lv' := [(7, .int (y12.2.1 - j123s1)), (0, .ref (ad 0)), (1, .int y12.1), (2, .int y12.2.1), (3, .int y12.2.2.1), (4, .int y12.2.2.2.1), (5, .int x79.1), (6, .int (y12.1 - j104s1))]) hx hb d_MO_tryStar_124 hl (by decide) rfl (fun ls hl => ?_)
              refine lv_iload hx hb d_MO_tryStar_126 (lv_at hl 7 rfl) ?_
              refine lv_iconst (v := 1) hx hb d_MO_tryStar_128 (by decide) ?_
              have J157 : ∀ (j157s0 : Int32), mj_MO_tryStar_157 y12 x79 j104s1 j123s1 j157s0 = some r79 → ∀ (ls : Array Slot) (H : Heap) (locs : List Loc), lv_has ls 9 [(0, .ref (ad 0)), (1, .int y12.1), (2, .int y12.2.1), (3, .int y12.2.2.1), (4, .int y12.2.2.2.1), (5, .int x79.1), (6, .int (y12.1 - j104s1)), (7, .int (y12.2.1 - j123s1))] → fw_H D vwCl A s.heap (wM ad cI cL th ki ce wi ma fo cu gr ru nu gv ca nw lo ke un x79.2 fi fl pa sh od bd bs) H locs → W p l e R s m args below meth c H locs 0 0 Q (F0 m 157 ls [.int j157s0]) := by
                intro j157s0 h ls H locs hl hw
                unfold mj_MO_tryStar_157 at h
                refine lv_istore (lv' := [(8, .int j157s0), (0, .ref (ad 0)), (1, .int y12.1), (2, .int y12.2.1), (3, .int y12.2.2.1), (4, .int y12.2.2.2.1), (5, .int x79.1), (6, .int (y12.1 - j104s1)), (7, .int (y12.2.1 - j123s1))]) hx hb d_MO_tryStar_157 hl (by decide) rfl (fun ls hl => ?_)
                refine lv_aload_n hx hb d_MO_tryStar_159 rfl (lv_at hl 1 rfl) ?_
                refine va_get (ci := 6) (v := .ref (ad 11)) (C := R_MO) (T := F_MO) (N := 24) hx hb hg in_MO hown hK hw.1 0 rfl rfl 15 (by decide) (hg _ q_764) (fun _ h9 => h9) rfl d_MO_tryStar_160 ?_
                refine lv_iload hx hb d_MO_tryStar_163 (lv_at hl 6 rfl) ?_
                refine lv_iload hx hb d_MO_tryStar_165 (lv_at hl 7 rfl) ?_
                have J175 : ∀ (j175s2 : Int32), mj_MO_tryStar_175 y12 x79 j104s1 j123s1 j157s0 j175s2 = some r79 → ∀ (ls : Array Slot) (H : Heap) (locs : List Loc), lv_has ls 9 [(0, .ref (ad 0)), (1, .int y12.1), (2, .int y12.2.1), (3, .int y12.2.2.1), (4, .int y12.2.2.2.1), (5, .int x79.1), (6, .int (y12.1 - j104s1)), (7, .int (y12.2.1 - j123s1)), (8, .int j157s0)] → fw_H D vwCl A s.heap (wM ad cI cL th ki ce wi ma fo cu gr ru nu gv ca nw lo ke un x79.2 fi fl pa sh od bd bs) H locs → W p l e R s m args below meth c H locs 0 0 Q (F0 m 175 ls [.int j175s2, .int x79.1, .ref (ad 11)]) := by
                  intro j175s2 h ls H locs hl hw
                  unfold mj_MO_tryStar_175 at h
                  refine lv_iload hx hb d_MO_tryStar_175 (lv_at hl 6 rfl) ?_
                  have J185 : ∀ (j185l5 : Int32) (j185l6 : Int32) (j185l8 : Int32) (j185cn : Nat → Int32), mj_MO_tryStar_185 x79 j175s2 j185l5 j185l6 j185l8 j185cn = some r79 → ∀ (ls : Array Slot) (H : Heap) (locs : List Loc), lv_has ls 9 [(0, .ref (ad 0)), (1, .int y12.1), (2, .int y12.2.1), (3, .int y12.2.2.1), (4, .int y12.2.2.2.1), (5, .int j185l5), (6, .int j185l6), (8, .int j185l8)] → fw_H D vwCl A s.heap (wM ad cI cL th ki ce wi ma fo cu gr ru nu gv ca nw lo ke un j185cn fi fl pa sh od bd bs) H locs → W p l e R s m args below meth c H locs 0 0 Q (F0 m 185 ls [.int j175s2, .int x79.1, .ref (ad 11)]) := by
                    intro j185l5 j185l6 j185l8 j185cn h ls H locs hl hw
                    unfold mj_MO_tryStar_185 at h
                    refine lv_iload hx hb d_MO_tryStar_185 (lv_at hl 6 rfl) ?_
                    refine lv_iconst (v := 1) hx hb d_MO_tryStar_187 (by decide) ?_
                    refine lv_icmp_ne (tgt := 200) hx hb d_MO_tryStar_188 (by decide) (fun hc => ?_) (fun hc => ?_)
                    · have h := oe h hc
                      refine lv_iconst (v := 0) hx hb d_MO_tryStar_200 (by decide) ?_
                      refine lv_ior hx hb d_MO_tryStar_201 ?_
                      refine oc h (fun hc1 h => ?_)
                      refine va_iast hx hb hK hw.1 hw.2.1 hw.2.2 11 0 rfl rfl hc1 d_MO_tryStar_202 (fun H locs hP hD hS => ?_)
                      have hw : fw_H D vwCl A s.heap (wM ad cI cL th ki ce wi ma fo cu gr ru nu gv ca nw lo ke un (upd j185cn x79.1.toNatClampNeg (j175s2 ||| (0 : Int32))) fi fl pa sh od bd bs) H locs := ⟨hP, hD, hS⟩
                      refine lv_iinc (k := 5) (v := j185l5 + 1) (lv' := [(5, .int (j185l5 + 1)), (0, .ref (ad 0)), (1, .int y12.1), (2, .int y12.2.1), (3, .int y12.2.2.1), (4, .int y12.2.2.2.1), (6, .int j185l6), (8, .int j185l8)]) hx hb d_MO_tryStar_203 hl rfl (by rw [lit1]) (by decide) rfl (fun ls hl => ?_)
                      refine lv_goto (tgt := 79) hx hb d_MO_tryStar_206 (by decide) ?_
                      have q := Option.some.inj h
                      subst q
                      exact ih79 (j185l5 + 1, upd j185cn x79.1.toNatClampNeg (j175s2 ||| (0 : Int32))) e79 hk79 hr79 _ _ _ (lv_sub hl [1, 2, 3, 4, 5, 0] rfl) hw
                    · have h := oi h hc
                      refine lv_iload hx hb d_MO_tryStar_191 (lv_at hl 7 rfl) ?_
                      refine lv_if_eq (tgt := 200) hx hb d_MO_tryStar_193 (by decide) (fun hc => ?_) (fun hc => ?_)
                      · have h := oi h hc
                        refine lv_iconst (v := 0) hx hb d_MO_tryStar_200 (by decide) ?_
                        refine lv_ior hx hb d_MO_tryStar_201 ?_
                        refine oc h (fun hc2 h => ?_)
                        refine va_iast hx hb hK hw.1 hw.2.1 hw.2.2 11 0 rfl rfl hc2 d_MO_tryStar_202 (fun H locs hP hD hS => ?_)
                        have hw : fw_H D vwCl A s.heap (wM ad cI cL th ki ce wi ma fo cu gr ru nu gv ca nw lo ke un (upd j185cn x79.1.toNatClampNeg (j175s2 ||| (0 : Int32))) fi fl pa sh od bd bs) H locs := ⟨hP, hD, hS⟩
                        refine lv_iinc (k := 5) (v := j185l5 + 1) (lv' := [(5, .int (j185l5 + 1)), (0, .ref (ad 0)), (1, .int y12.1), (2, .int y12.2.1), (3, .int y12.2.2.1), (4, .int y12.2.2.2.1), (6, .int j185l6), (8, .int j185l8)]) hx hb d_MO_tryStar_203 hl rfl (by rw [lit1]) (by decide) rfl (fun ls hl => ?_)
                        refine lv_goto (tgt := 79) hx hb d_MO_tryStar_206 (by decide) ?_
                        have q := Option.some.inj h
                        subst q
                        exact ih79 (j185l5 + 1, upd j185cn x79.1.toNatClampNeg (j175s2 ||| (0 : Int32))) e79 hk79 hr79 _ _ _ (lv_sub hl [1, 2, 3, 4, 5, 0] rfl) hw
                      · have h := oe h hc
                        refine lv_iconst (v := 1) hx hb d_MO_tryStar_196 (by decide) ?_
                        refine lv_goto (tgt := 201) hx hb d_MO_tryStar_197 (by decide) ?_
                        refine lv_ior hx hb d_MO_tryStar_201 ?_
                        refine oc h (fun hc3 h => ?_)
                        refine va_iast hx hb hK hw.1 hw.2.1 hw.2.2 11 0 rfl rfl hc3 d_MO_tryStar_202 (fun H locs hP hD hS => ?_)
                        have hw : fw_H D vwCl A s.heap (wM ad cI cL th ki ce wi ma fo cu gr ru nu gv ca nw lo ke un (upd j185cn x79.1.toNatClampNeg (j175s2 ||| (1 : Int32))) fi fl pa sh od bd bs) H locs := ⟨hP, hD, hS⟩
                        refine lv_iinc (k := 5) (v := j185l5 + 1) (lv' := [(5, .int (j185l5 + 1)), (0, .ref (ad 0)), (1, .int y12.1), (2, .int y12.2.1), (3, .int y12.2.2.1), (4, .int y12.2.2.2.1), (6, .int j185l6), (8, .int j185l8)]) hx hb d_MO_tryStar_203 hl rfl (by rw [lit1]) (by decide) rfl (fun ls hl => ?_)
                        refine lv_goto (tgt := 79) hx hb d_MO_tryStar_206 (by decide) ?_
                        have q := Option.some.inj h
                        subst q
                        exact ih79 (j185l5 + 1, upd j185cn x79.1.toNatClampNeg (j175s2 ||| (1 : Int32))) e79 hk79 hr79 _ _ _ (lv_sub hl [1, 2, 3, 4, 5, 0] rfl) hw
                  refine lv_if_ne (tgt := 185) hx hb d_MO_tryStar_177 (by decide) (fun hc => ?_) (fun hc => ?_)
                  · have h := oe h hc
                    exact J185 x79.1 (y12.1 - j104s1) j157s0 x79.2 h _ _ _ (lv_sub hl [0, 1, 2, 3, 4, 5, 6, 8] rfl) hw
                  · have h := oi h hc
                    refine lv_iload hx hb d_MO_tryStar_180 (lv_at hl 7 rfl) ?_
                    refine lv_if_gt (tgt := 196) hx hb d_MO_tryStar_182 (by decide) (fun hc => ?_) (fun hc => ?_)
                    · have h := oi h hc
                      refine lv_iconst (v := 1) hx hb d_MO_tryStar_196 (by decide) ?_
                      refine lv_goto (tgt := 201) hx hb d_MO_tryStar_197 (by decide) ?_
                      refine lv_ior hx hb d_MO_tryStar_201 ?_
                      refine oc h (fun hc4 h => ?_)
                      refine va_iast hx hb hK hw.1 hw.2.1 hw.2.2 11 0 rfl rfl hc4 d_MO_tryStar_202 (fun H locs hP hD hS => ?_)
                      have hw : fw_H D vwCl A s.heap (wM ad cI cL th ki ce wi ma fo cu gr ru nu gv ca nw lo ke un (upd x79.2 x79.1.toNatClampNeg (j175s2 ||| (1 : Int32))) fi fl pa sh od bd bs) H locs := ⟨hP, hD, hS⟩
                      refine lv_iinc (k := 5) (v := x79.1 + 1) (lv' := [(5, .int (x79.1 + 1)), (0, .ref (ad 0)), (1, .int y12.1), (2, .int y12.2.1), (3, .int y12.2.2.1), (4, .int y12.2.2.2.1), (6, .int (y12.1 - j104s1)), (7, .int (y12.2.1 - j123s1)), (8, .int j157s0)]) hx hb d_MO_tryStar_203 hl rfl (by rw [lit1]) (by decide) rfl (fun ls hl => ?_)
                      refine lv_goto (tgt := 79) hx hb d_MO_tryStar_206 (by decide) ?_
                      have q := Option.some.inj h
                      subst q
                      exact ih79 (x79.1 + 1, upd x79.2 x79.1.toNatClampNeg (j175s2 ||| (1 : Int32))) e79 hk79 hr79 _ _ _ (lv_sub hl [1, 2, 3, 4, 5, 0] rfl) hw
                    · have h := oe h hc
                      exact J185 x79.1 (y12.1 - j104s1) j157s0 x79.2 h _ _ _ (lv_sub hl [0, 1, 2, 3, 4, 5, 6, 8] rfl) hw
                refine lv_if_ne (tgt := 174) hx hb d_MO_tryStar_167 (by decide) (fun hc => ?_) (fun hc => ?_)
                · have h := oe h hc
                  refine lv_iconst (v := 0) hx hb d_MO_tryStar_174 (by decide) ?_
                  exact J175 (0 : Int32) h _ _ _ (lv_sub hl [1, 2, 3, 4, 5, 6, 7, 8, 0] rfl) hw
                · have h := oi h hc
                  refine lv_iconst (v := 2) hx hb d_MO_tryStar_170 (by decide) ?_
                  refine lv_goto (tgt := 175) hx hb d_MO_tryStar_171 (by decide) ?_
                  exact J175 (2 : Int32) h _ _ _ (lv_sub hl [1, 2, 3, 4, 5, 6, 7, 8, 0] rfl) hw
              refine lv_icmp_ne (tgt := 156) hx hb d_MO_tryStar_129 (by decide) (fun hc => ?_) (fun hc => ?_)
              · have h := oe h hc
                refine lv_iconst (v := 0) hx hb d_MO_tryStar_156 (by decide) ?_
                exact J157 (0 : Int32) h _ _ _ (lv_sub hl [1, 2, 3, 4, 5, 6, 7, 0] rfl) hw
              · have h := oi h hc
                refine lv_aload_n hx hb d_MO_tryStar_132 rfl (lv_at hl 1 rfl) ?_
                refine lv_iload hx hb d_MO_tryStar_133 (lv_at hl 6 rfl) ?_
                refine lv_iload_n hx hb d_MO_tryStar_135 rfl (lv_at hl 4 rfl) ?_
                have J145 : ∀ (j145s1 : Int32), mj_MO_tryStar_145 N nw un y12 x79 j104s1 j123s1 j145s1 = some r79 → ∀ (ls : Array Slot) (H : Heap) (locs : List Loc), lv_has ls 9 [(0, .ref (ad 0)), (1, .int y12.1), (2, .int y12.2.1), (3, .int y12.2.2.1), (4, .int y12.2.2.2.1), (5, .int x79.1), (6, .int (y12.1 - j104s1)), (7, .int (y12.2.1 - j123s1))] → fw_H D vwCl A s.heap (wM ad cI cL th ki ce wi ma fo cu gr ru nu gv ca nw lo ke un x79.2 fi fl pa sh od bd bs) H locs → W p l e R s m args below meth c H locs 0 0 Q (F0 m 145 ls [.int j145s1, .ref (ad 0)]) := by
                  intro j145s1 h ls H locs hl hw
                  unfold mj_MO_tryStar_145 at h
                  refine lv_iconst (v := 1) hx hb d_MO_tryStar_145 (by decide) ?_
                  refine ob h (fun r146 h146 h => ?_)
                  refine fw_callV (As := [.int j145s1, .int (1 : Int32)]) (rest := []) (st1 := [.int r146]) S (ct_MO_may l D ad cI cL N th ki ce wi ma fo cu gr ru nu gv ca nw lo ke un x79.2 fi fl pa sh od bd bs j145s1 (1 : Int32) r146 h146) q_944 q_946 s_37 q_10 k_MO_may hd_MO_may ⟨by rw [hR]; decide, by rw [hR]; decide⟩ rfl rfl hX hw hA 0 (ci := 6) rfl rfl hl.1 rfl rfl (Nat.le_of_ble_eq_true rfl) d_MO_tryStar_146 ⟨Nat.zero_le _, Nat.zero_le _⟩ rfl (fun H locs hw => ?_)
                  refine lv_if_eq (tgt := 156) hx hb d_MO_tryStar_149 (by decide) (fun hc => ?_) (fun hc => ?_)
                  · have h := oi h hc
                    refine lv_iconst (v := 0) hx hb d_MO_tryStar_156 (by decide) ?_
                    exact J157 (0 : Int32) h _ _ _ hl hw
                  · have h := oe h hc
                    refine lv_iconst (v := 1) hx hb d_MO_tryStar_152 (by decide) ?_
                    refine lv_goto (tgt := 157) hx hb d_MO_tryStar_153 (by decide) ?_
                    exact J157 (1 : Int32) h _ _ _ hl hw
                refine lv_icmp_ne (tgt := 144) hx hb d_MO_tryStar_136 (by decide) (fun hc => ?_) (fun hc => ?_)
                · have h := oe h hc
                  refine lv_iload_n hx hb d_MO_tryStar_144 rfl (lv_at hl 4 rfl) ?_
                  exact J145 y12.2.2.1 h _ _ _ (lv_sub hl [1, 2, 3, 4, 5, 6, 7, 0] rfl) hw
                · have h := oi h hc
                  refine lv_iload hx hb d_MO_tryStar_139 (lv_at hl 5 rfl) ?_
                  refine lv_goto (tgt := 145) hx hb d_MO_tryStar_141 (by decide) ?_
                  exact J145 y12.2.2.2.1 h _ _ _ (lv_sub hl [1, 2, 3, 4, 5, 6, 7, 0] rfl) hw
            refine lv_if_eq (tgt := 122) hx hb d_MO_tryStar_115 (by decide) (fun hc => ?_) (fun hc => ?_)
            · have h := oi h hc
              refine lv_iconst (v := 0) hx hb d_MO_tryStar_122 (by decide) ?_
              exact J123 (0 : Int32) h _ _ _ (lv_sub hl [1, 2, 3, 4, 5, 6, 0] rfl) hw
            · have h := oe h hc
              refine lv_iconst (v := 1) hx hb d_MO_tryStar_118 (by decide) ?_
              refine lv_goto (tgt := 123) hx hb d_MO_tryStar_119 (by decide) ?_
              exact J123 (1 : Int32) h _ _ _ (lv_sub hl [1, 2, 3, 4, 5, 6, 0] rfl) hw
          refine lv_if_eq (tgt := 103) hx hb d_MO_tryStar_96 (by decide) (fun hc => ?_) (fun hc => ?_)
          · have h := oi h hc
            refine lv_iconst (v := 1) hx hb d_MO_tryStar_103 (by decide) ?_
            exact J104 (1 : Int32) h _ _ _ hl hw
          · have h := oe h hc
            refine lv_iconst (v := 0) hx hb d_MO_tryStar_99 (by decide) ?_
            refine lv_goto (tgt := 104) hx hb d_MO_tryStar_100 (by decide) ?_
            exact J104 (0 : Int32) h _ _ _ hl hw
    refine ob h (fun e79 h1 h2 => ?_)
    exact L79 N ((0 : Int32), cn) e79 h1 h2 _ _ _ (lv_sub hl [1, 2, 3, 4, 5, 0] rfl) hw
  have L12 : ∀ (n12 : Nat) (x12 : Int32 × Int32 × Int32 × Int32 × Int32) (e12 : Int32 × Int32 × Int32 × Int32 × Int32), lp (mb_MO_tryStar_12 N ma nw un) n12 x12 = some e12 → (mr_MO_tryStar_12 N ma nw lo un cn) e12 = some out → ∀ (ls : Array Slot) (H : Heap) (locs : List Loc), lv_has ls 9 [(0, .ref (ad 0)), (1, .int x12.1), (2, .int x12.2.1), (3, .int x12.2.2.1), (4, .int x12.2.2.2.1), (5, .int x12.2.2.2.2)] → fw_H D vwCl A s.heap (wM ad cI cL th ki ce wi ma fo cu gr ru nu gv ca nw lo ke un cn fi fl pa sh od bd bs) H locs → W p l e R s m args below meth c H locs 0 0 Q (F0 m 12 ls []) := by
    intro n12
    induction n12 with
    | zero => intro x12 e12 h1; exact absurd h1 lp_0
    | succ n12 ih12 =>
      intro x12 e12 h1 hr12 ls H locs hl hw
      rw [lp_s] at h1
      refine ob h1 (fun r12 h hk12 => ?_)
      unfold mb_MO_tryStar_12 at h
      refine lv_iload hx hb d_MO_tryStar_12 (lv_at hl 5 rfl) ?_
      refine lv_aload_n hx hb d_MO_tryStar_14 rfl (lv_at hl 0 rfl) ?_
      refine va_get (ci := 6) (v := .int ma) (C := R_MO) (T := F_MO) (N := 24) hx hb hg in_MO hown hK hw.1 0 rfl rfl 13 (by decide) (hg _ q_762) (fun _ h9 => h9) rfl d_MO_tryStar_15 ?_
      refine lv_icmp_ge (tgt := 76) hx hb d_MO_tryStar_18 (by decide) (fun hc => ?_) (fun hc => ?_)
      · have h := oi h hc
        have q := Option.some.inj h
        subst q
        have q := Option.some.inj hk12
        subst q
        exact X12 (x12.1, x12.2.1, x12.2.2.1, x12.2.2.2.1, x12.2.2.2.2) hr12 _ _ _ (lv_sub hl [0, 1, 2, 3, 4] rfl) hw
      · have h := oe h hc
        refine lv_iload_n hx hb d_MO_tryStar_21 rfl (lv_at hl 2 rfl) ?_
        refine lv_aload_n hx hb d_MO_tryStar_22 rfl (lv_at hl 0 rfl) ?_
        refine lv_iload hx hb d_MO_tryStar_23 (lv_at hl 5 rfl) ?_
        refine lv_iconst (v := 1) hx hb d_MO_tryStar_25 (by decide) ?_
        refine ob h (fun r26 h26 h => ?_)
        refine fw_callV (As := [.int x12.2.2.2.2, .int (1 : Int32)]) (rest := [.int x12.2.1]) (st1 := [.int r26, .int x12.2.1]) S (ct_MO_may l D ad cI cL N th ki ce wi ma fo cu gr ru nu gv ca nw lo ke un cn fi fl pa sh od bd bs x12.2.2.2.2 (1 : Int32) r26 h26) q_944 q_946 s_37 q_10 k_MO_may hd_MO_may ⟨by rw [hR]; decide, by rw [hR]; decide⟩ rfl rfl hX hw hA 0 (ci := 6) rfl rfl hl.1 rfl rfl (Nat.le_of_ble_eq_true rfl) d_MO_tryStar_26 ⟨Nat.zero_le _, Nat.zero_le _⟩ rfl (fun H locs hw => ?_)
        have J37 : ∀ (j37s1 : Int32), mj_MO_tryStar_37 N nw un x12 j37s1 = some r12 → ∀ (ls : Array Slot) (H : Heap) (locs : List Loc), lv_has ls 9 [(0, .ref (ad 0)), (1, .int x12.1), (3, .int x12.2.2.1), (4, .int x12.2.2.2.1), (5, .int x12.2.2.2.2)] → fw_H D vwCl A s.heap (wM ad cI cL th ki ce wi ma fo cu gr ru nu gv ca nw lo ke un cn fi fl pa sh od bd bs) H locs → W p l e R s m args below meth c H locs 0 0 Q (F0 m 37 ls [.int j37s1, .int x12.2.1]) := by
          intro j37s1 h ls H locs hl hw
          unfold mj_MO_tryStar_37 at h
          refine lv_iadd hx hb d_MO_tryStar_37 ?_
          refine lv_istore_n (lv' := [(2, .int (x12.2.1 + j37s1)), (0, .ref (ad 0)), (1, .int x12.1), (3, .int x12.2.2.1), (4, .int x12.2.2.2.1), (5, .int x12.2.2.2.2)]) hx hb d_MO_tryStar_38 rfl hl (by decide) rfl (fun ls hl => ?_)
          refine lv_aload_n hx hb d_MO_tryStar_39 rfl (lv_at hl 1 rfl) ?_
          refine lv_iload hx hb d_MO_tryStar_40 (lv_at hl 5 rfl) ?_
          refine lv_iconst (v := 0) hx hb d_MO_tryStar_42 (by decide) ?_
          refine ob h (fun r43 h43 h => ?_)
          refine fw_callV (As := [.int x12.2.2.2.2, .int (0 : Int32)]) (rest := []) (st1 := [.int r43]) S (ct_MO_may l D ad cI cL N th ki ce wi ma fo cu gr ru nu gv ca nw lo ke un cn fi fl pa sh od bd bs x12.2.2.2.2 (0 : Int32) r43 h43) q_944 q_946 s_37 q_10 k_MO_may hd_MO_may ⟨by rw [hR]; decide, by rw [hR]; decide⟩ rfl rfl hX hw hA 0 (ci := 6) rfl rfl hl.1 rfl rfl (Nat.le_of_ble_eq_true rfl) d_MO_tryStar_43 ⟨Nat.zero_le _, Nat.zero_le _⟩ rfl (fun H locs hw => ?_)
          refine lv_if_eq (tgt := 52) hx hb d_MO_tryStar_46 (by decide) (fun hc => ?_) (fun hc => ?_)
          · have h := oi h hc
            refine lv_iinc (k := 2) (v := x12.1 + 1) (lv' := [(1, .int (x12.1 + 1)), (2, .int (x12.2.1 + j37s1)), (0, .ref (ad 0)), (3, .int x12.2.2.1), (4, .int x12.2.2.2.1), (5, .int x12.2.2.2.2)]) hx hb d_MO_tryStar_52 hl rfl (by rw [lit1]) (by decide) rfl (fun ls hl => ?_)
            refine lv_iload_n hx hb d_MO_tryStar_55 rfl (lv_at hl 3 rfl) ?_
            refine lv_if_ge (tgt := 64) hx hb d_MO_tryStar_56 (by decide) (fun hc => ?_) (fun hc => ?_)
            · have h := oi h hc
              refine lv_iload_n hx hb d_MO_tryStar_64 rfl (lv_at hl 3 rfl) ?_
              refine lv_istore_n (lv' := [(3, .int x12.2.2.1), (1, .int (x12.1 + 1)), (2, .int (x12.2.1 + j37s1)), (0, .ref (ad 0)), (4, .int x12.2.2.2.1), (5, .int x12.2.2.2.2)]) hx hb d_MO_tryStar_65 rfl hl (by decide) rfl (fun ls hl => ?_)
              refine lv_iload hx hb d_MO_tryStar_66 (lv_at hl 5 rfl) ?_
              refine lv_istore (lv' := [(4, .int x12.2.2.2.2), (3, .int x12.2.2.1), (1, .int (x12.1 + 1)), (2, .int (x12.2.1 + j37s1)), (0, .ref (ad 0)), (5, .int x12.2.2.2.2)]) hx hb d_MO_tryStar_68 hl (by decide) rfl (fun ls hl => ?_)
              refine lv_iinc (k := 5) (v := x12.2.2.2.2 + 1) (lv' := [(5, .int (x12.2.2.2.2 + 1)), (4, .int x12.2.2.2.2), (3, .int x12.2.2.1), (1, .int (x12.1 + 1)), (2, .int (x12.2.1 + j37s1)), (0, .ref (ad 0))]) hx hb d_MO_tryStar_70 hl rfl (by rw [lit1]) (by decide) rfl (fun ls hl => ?_)
              refine lv_goto (tgt := 12) hx hb d_MO_tryStar_73 (by decide) ?_
              have q := Option.some.inj h
              subst q
              exact ih12 (x12.1 + 1, x12.2.1 + j37s1, x12.2.2.1, x12.2.2.2.2, x12.2.2.2.2 + 1) e12 hk12 hr12 _ _ _ (lv_sub hl [5, 3, 4, 2, 1, 0] rfl) hw
            · have h := oe h hc
              refine lv_iload hx hb d_MO_tryStar_59 (lv_at hl 5 rfl) ?_
              refine lv_goto (tgt := 65) hx hb d_MO_tryStar_61 (by decide) ?_
              refine lv_istore_n (lv' := [(3, .int x12.2.2.2.2), (1, .int (x12.1 + 1)), (2, .int (x12.2.1 + j37s1)), (0, .ref (ad 0)), (4, .int x12.2.2.2.1), (5, .int x12.2.2.2.2)]) hx hb d_MO_tryStar_65 rfl hl (by decide) rfl (fun ls hl => ?_)
              refine lv_iload hx hb d_MO_tryStar_66 (lv_at hl 5 rfl) ?_
              refine lv_istore (lv' := [(4, .int x12.2.2.2.2), (3, .int x12.2.2.2.2), (1, .int (x12.1 + 1)), (2, .int (x12.2.1 + j37s1)), (0, .ref (ad 0)), (5, .int x12.2.2.2.2)]) hx hb d_MO_tryStar_68 hl (by decide) rfl (fun ls hl => ?_)
              refine lv_iinc (k := 5) (v := x12.2.2.2.2 + 1) (lv' := [(5, .int (x12.2.2.2.2 + 1)), (4, .int x12.2.2.2.2), (3, .int x12.2.2.2.2), (1, .int (x12.1 + 1)), (2, .int (x12.2.1 + j37s1)), (0, .ref (ad 0))]) hx hb d_MO_tryStar_70 hl rfl (by rw [lit1]) (by decide) rfl (fun ls hl => ?_)
              refine lv_goto (tgt := 12) hx hb d_MO_tryStar_73 (by decide) ?_
              have q := Option.some.inj h
              subst q
              exact ih12 (x12.1 + 1, x12.2.1 + j37s1, x12.2.2.2.2, x12.2.2.2.2, x12.2.2.2.2 + 1) e12 hk12 hr12 _ _ _ (lv_sub hl [5, 3, 4, 2, 1, 0] rfl) hw
          · have h := oe h hc
            refine lv_goto (tgt := 70) hx hb d_MO_tryStar_49 (by decide) ?_
            refine lv_iinc (k := 5) (v := x12.2.2.2.2 + 1) (lv' := [(5, .int (x12.2.2.2.2 + 1)), (2, .int (x12.2.1 + j37s1)), (0, .ref (ad 0)), (1, .int x12.1), (3, .int x12.2.2.1), (4, .int x12.2.2.2.1)]) hx hb d_MO_tryStar_70 hl rfl (by rw [lit1]) (by decide) rfl (fun ls hl => ?_)
            refine lv_goto (tgt := 12) hx hb d_MO_tryStar_73 (by decide) ?_
            have q := Option.some.inj h
            subst q
            exact ih12 (x12.1, x12.2.1 + j37s1, x12.2.2.1, x12.2.2.2.1, x12.2.2.2.2 + 1) e12 hk12 hr12 _ _ _ (lv_sub hl [2, 3, 1, 4, 5, 0] rfl) hw
        refine lv_if_eq (tgt := 36) hx hb d_MO_tryStar_29 (by decide) (fun hc => ?_) (fun hc => ?_)
        · have h := oi h hc
          refine lv_iconst (v := 0) hx hb d_MO_tryStar_36 (by decide) ?_
          exact J37 (0 : Int32) h _ _ _ (lv_sub hl [0, 1, 3, 4, 5] rfl) hw
        · have h := oe h hc
          refine lv_iconst (v := 1) hx hb d_MO_tryStar_32 (by decide) ?_
          refine lv_goto (tgt := 37) hx hb d_MO_tryStar_33 (by decide) ?_
          exact J37 (1 : Int32) h _ _ _ (lv_sub hl [0, 1, 3, 4, 5] rfl) hw
  refine ob h (fun e12 h1 h2 => ?_)
  exact L12 N ((0 : Int32), (0 : Int32), (-1 : Int32), (-1 : Int32), (0 : Int32)) e12 h1 h2 _ _ _ (lv_sub hl [5, 4, 3, 2, 1, 0] rfl) hw
set_option maxHeartbeats 4000000 in
set_option maxRecDepth 100000 in
theorem ct_MO_tryPairs (l : Launch) (D : va_G) (ad : Nat → Nat) (cI cL : ClassId) (N : Nat) (th : Int32) (ki : Int32) (ce : Int32) (wi : Int32) (ma : Int32) (fo : Int32) (cu : Nat → Int32) (gr : Nat → Int32) (ru : Nat → Int32) (nu : Nat → Int32) (gv : Nat → Int32) (ca : Nat → Int32) (nw : Nat → Int32) (lo : Nat → Int32) (ke : Nat → Int32) (un : Nat → Int32) (cn : Nat → Int32) (fi : Nat → Int32) (fl : Nat → Int32) (pa : Nat → Int32) (sh : Nat → Int32) (od : Nat → Int32) (bd : Nat → Int32) (bs : Nat → Int32)  (out : (Nat → Int32)) (h : mi_MO_tryPairs N nw lo bd bs = some out) : fw_C l y_MO_tryPairs (.code y_MO_tryPairs b_MO_tryPairs 4 (none) :: Gw) (fr 0 0) D vwCl (tyA cI cL) [.ref (ad 0)] (wM ad cI cL th ki ce wi ma fo cu gr ru nu gv ca nw lo ke un cn fi fl pa sh od bd bs) none (wM ad cI cL th ki ce wi ma fo cu gr ru nu gv ca nw out ke un cn fi fl pa sh od bd bs) := by
  refine fw_of (by decide) (Nat.le_of_ble_eq_true rfl) ?_
  intro p e s m args below meth c ls A R Q hR hQ S hr hlk hX hA hl hw
  have hK := hX.1
  have hx := S.1
  have hb := S.2.1
  have hown := S.2.2.2.1
  have hg := S.2.2.2.2
  have hl : lv_has ls 4 [(0, .ref (ad 0))] := hl
  unfold mi_MO_tryPairs at h
  refine lv_iconst (v := 0) hx hb d_MO_tryPairs_0 (by decide) ?_
  refine lv_istore_n (lv' := [(1, .int (0 : Int32)), (0, .ref (ad 0))]) hx hb d_MO_tryPairs_1 rfl hl (by decide) rfl (fun ls hl => ?_)
  have X2 : ∀ (y2 : Int32 × (Nat → Int32)), mr_MO_tryPairs_2 y2 = some out → ∀ (ls : Array Slot) (H : Heap) (locs : List Loc), lv_has ls 4 [] → fw_H D vwCl A s.heap (wM ad cI cL th ki ce wi ma fo cu gr ru nu gv ca nw y2.2 ke un cn fi fl pa sh od bd bs) H locs → W p l e R s m args below meth c H locs 0 0 Q (F0 m 90 ls []) := by
    intro y2 h ls H locs hl hw
    unfold mr_MO_tryPairs_2 at h
    have q := Option.some.inj h
    subst q
    exact fw_vret hQ S hr hlk hX hw d_MO_tryPairs_90
  have L2 : ∀ (n2 : Nat) (x2 : Int32 × (Nat → Int32)) (e2 : Int32 × (Nat → Int32)), lp (mb_MO_tryPairs_2 N nw bd bs) n2 x2 = some e2 → (mr_MO_tryPairs_2) e2 = some out → ∀ (ls : Array Slot) (H : Heap) (locs : List Loc), lv_has ls 4 [(0, .ref (ad 0)), (1, .int x2.1)] → fw_H D vwCl A s.heap (wM ad cI cL th ki ce wi ma fo cu gr ru nu gv ca nw x2.2 ke un cn fi fl pa sh od bd bs) H locs → W p l e R s m args below meth c H locs 0 0 Q (F0 m 2 ls []) := by
    intro n2
    induction n2 with
    | zero => intro x2 e2 h1; exact absurd h1 lp_0
    | succ n2 ih2 =>
      intro x2 e2 h1 hr2 ls H locs hl hw
      rw [lp_s] at h1
      refine ob h1 (fun r2 h hk2 => ?_)
      unfold mb_MO_tryPairs_2 at h
      refine lv_iload_n hx hb d_MO_tryPairs_2 rfl (lv_at hl 1 rfl) ?_
      refine lv_bipush (v := 25) hx hb d_MO_tryPairs_3 (by decide) ?_
      refine lv_icmp_ge (tgt := 90) hx hb d_MO_tryPairs_5 (by decide) (fun hc => ?_) (fun hc => ?_)
      · have h := oi h hc
        have q := Option.some.inj h
        subst q
        have q := Option.some.inj hk2
        subst q
        exact X2 (x2.1, x2.2) hr2 _ _ _ (lv_sub hl [] rfl) hw
      · have h := oe h hc
        refine lv_bipush (v := 8) hx hb d_MO_tryPairs_8 (by decide) ?_
        refine lv_iload_n hx hb d_MO_tryPairs_10 rfl (lv_at hl 1 rfl) ?_
        refine lv_imul hx hb d_MO_tryPairs_11 ?_
        refine lv_istore_n (lv' := [(2, .int ((8 : Int32) * x2.1)), (0, .ref (ad 0)), (1, .int x2.1)]) hx hb d_MO_tryPairs_12 rfl hl (by decide) rfl (fun ls hl => ?_)
        have X13 : ∀ (y13 : Int32 × (Nat → Int32)), mr_MO_tryPairs_13 x2 y13 = some r2 → ∀ (ls : Array Slot) (H : Heap) (locs : List Loc), lv_has ls 4 [(0, .ref (ad 0)), (1, .int x2.1)] → fw_H D vwCl A s.heap (wM ad cI cL th ki ce wi ma fo cu gr ru nu gv ca nw y13.2 ke un cn fi fl pa sh od bd bs) H locs → W p l e R s m args below meth c H locs 0 0 Q (F0 m 84 ls []) := by
          intro y13 h ls H locs hl hw
          unfold mr_MO_tryPairs_13 at h
          refine lv_iinc (k := 1) (v := x2.1 + 1) (lv' := [(1, .int (x2.1 + 1)), (0, .ref (ad 0))]) hx hb d_MO_tryPairs_84 hl rfl (by rw [lit1]) (by decide) rfl (fun ls hl => ?_)
          refine lv_goto (tgt := 2) hx hb d_MO_tryPairs_87 (by decide) ?_
          have q := Option.some.inj h
          subst q
          exact ih2 (x2.1 + 1, y13.2) e2 hk2 hr2 _ _ _ (lv_sub hl [1, 0] rfl) hw
        have L13 : ∀ (n13 : Nat) (x13 : Int32 × (Nat → Int32)) (e13 : Int32 × (Nat → Int32)), lp (mb_MO_tryPairs_13 nw bd bs x2) n13 x13 = some e13 → (mr_MO_tryPairs_13 x2) e13 = some r2 → ∀ (ls : Array Slot) (H : Heap) (locs : List Loc), lv_has ls 4 [(0, .ref (ad 0)), (1, .int x2.1), (2, .int x13.1)] → fw_H D vwCl A s.heap (wM ad cI cL th ki ce wi ma fo cu gr ru nu gv ca nw x13.2 ke un cn fi fl pa sh od bd bs) H locs → W p l e R s m args below meth c H locs 0 0 Q (F0 m 13 ls []) := by
          intro n13
          induction n13 with
          | zero => intro x13 e13 h1; exact absurd h1 lp_0
          | succ n13 ih13 =>
            intro x13 e13 h1 hr13 ls H locs hl hw
            rw [lp_s] at h1
            refine ob h1 (fun r13 h hk13 => ?_)
            unfold mb_MO_tryPairs_13 at h
            refine lv_iload_n hx hb d_MO_tryPairs_13 rfl (lv_at hl 2 rfl) ?_
            refine lv_bipush (v := 8) hx hb d_MO_tryPairs_14 (by decide) ?_
            refine lv_iload_n hx hb d_MO_tryPairs_16 rfl (lv_at hl 1 rfl) ?_
            refine lv_imul hx hb d_MO_tryPairs_17 ?_
            refine lv_aload_n hx hb d_MO_tryPairs_18 rfl (lv_at hl 0 rfl) ?_
            refine va_get (ci := 6) (v := .ref (ad 17)) (C := R_MO) (T := F_MO) (N := 24) hx hb hg in_MO hown hK hw.1 0 rfl rfl 22 (by decide) (hg _ q_771) (fun _ h9 => h9) rfl d_MO_tryPairs_19 ?_
            refine lv_iload_n hx hb d_MO_tryPairs_22 rfl (lv_at hl 1 rfl) ?_
            refine oc h (fun hc1 h => ?_)
            refine va_iald hx hb hK hw.1 17 0 rfl rfl hc1 d_MO_tryPairs_23 ?_
            refine lv_iadd hx hb d_MO_tryPairs_24 ?_
            refine lv_icmp_ge (tgt := 84) hx hb d_MO_tryPairs_25 (by decide) (fun hc => ?_) (fun hc => ?_)
            · have h := oi h hc
              have q := Option.some.inj h
              subst q
              have q := Option.some.inj hk13
              subst q
              exact X13 (x13.1, x13.2) hr13 _ _ _ (lv_sub hl [0, 1] rfl) hw
            · have h := oe h hc
              refine lv_aload_n hx hb d_MO_tryPairs_28 rfl (lv_at hl 0 rfl) ?_
              refine va_get (ci := 6) (v := .ref (ad 7)) (C := R_MO) (T := F_MO) (N := 24) hx hb hg in_MO hown hK hw.1 0 rfl rfl 10 (by decide) (hg _ q_759) (fun _ h9 => h9) rfl d_MO_tryPairs_29 ?_
              refine lv_aload_n hx hb d_MO_tryPairs_32 rfl (lv_at hl 0 rfl) ?_
              refine va_get (ci := 6) (v := .ref (ad 18)) (C := R_MO) (T := F_MO) (N := 24) hx hb hg in_MO hown hK hw.1 0 rfl rfl 23 (by decide) (hg _ q_772) (fun _ h9 => h9) rfl d_MO_tryPairs_33 ?_
              refine lv_iload_n hx hb d_MO_tryPairs_36 rfl (lv_at hl 2 rfl) ?_
              refine oc h (fun hc2 h => ?_)
              refine va_iald hx hb hK hw.1 18 0 rfl rfl hc2 d_MO_tryPairs_37 ?_
              refine oc h (fun hc3 h => ?_)
              refine va_iald hx hb hK hw.1 7 0 rfl rfl hc3 d_MO_tryPairs_38 ?_
              refine lv_istore_n (lv' := [(3, .int (nw (bs x13.1.toNatClampNeg).toNatClampNeg)), (0, .ref (ad 0)), (1, .int x2.1), (2, .int x13.1)]) hx hb d_MO_tryPairs_39 rfl hl (by decide) rfl (fun ls hl => ?_)
              refine lv_aload_n hx hb d_MO_tryPairs_40 rfl (lv_at hl 1 rfl) ?_
              refine va_get (ci := 6) (v := .ref (ad 8)) (C := R_MO) (T := F_MO) (N := 24) hx hb hg in_MO hown hK hw.1 0 rfl rfl 11 (by decide) (hg _ q_760) (fun _ h9 => h9) rfl d_MO_tryPairs_41 ?_
              refine lv_iload_n hx hb d_MO_tryPairs_44 rfl (lv_at hl 2 rfl) ?_
              refine lv_dup2_11 hx hb d_MO_tryPairs_45 rfl rfl ?_
              refine va_iald hx hb hK hw.1 8 0 rfl rfl hc1 d_MO_tryPairs_46 ?_
              refine lv_aload_n hx hb d_MO_tryPairs_47 rfl (lv_at hl 1 rfl) ?_
              refine va_get (ci := 6) (v := .ref (ad 7)) (C := R_MO) (T := F_MO) (N := 24) hx hb hg in_MO hown hK hw.1 0 rfl rfl 10 (by decide) (hg _ q_759) (fun _ h9 => h9) rfl d_MO_tryPairs_48 ?_
              refine lv_iload_n hx hb d_MO_tryPairs_51 rfl (lv_at hl 2 rfl) ?_
              refine va_iald hx hb hK hw.1 7 0 rfl rfl hc1 d_MO_tryPairs_52 ?_
              refine lv_iload_n hx hb d_MO_tryPairs_53 rfl (lv_at hl 0 rfl) ?_
              refine lv_iconst (v := 1) hx hb d_MO_tryPairs_54 (by decide) ?_
              refine lv_iand hx hb d_MO_tryPairs_55 ?_
              refine lv_iconst (v := 1) hx hb d_MO_tryPairs_56 (by decide) ?_
              refine lv_icmp_ne (tgt := 64) hx hb d_MO_tryPairs_57 (by decide) (fun hc => ?_) (fun hc => ?_)
              · have h := oe h hc
                refine lv_iload_n hx hb d_MO_tryPairs_64 rfl (lv_at hl 0 rfl) ?_
                refine lv_if_eq (tgt := 72) hx hb d_MO_tryPairs_65 (by decide) (fun hc => ?_) (fun hc => ?_)
                · have h := oi h hc
                  refine lv_iconst (v := 0) hx hb d_MO_tryPairs_72 (by decide) ?_
                  refine lv_iconst (v := (-1)) hx hb d_MO_tryPairs_73 (by decide) ?_
                  refine lv_ixor hx hb d_MO_tryPairs_74 ?_
                  refine lv_iand hx hb d_MO_tryPairs_75 ?_
                  refine lv_ior hx hb d_MO_tryPairs_76 ?_
                  refine va_iast hx hb hK hw.1 hw.2.1 hw.2.2 8 0 rfl rfl hc1 d_MO_tryPairs_77 (fun H locs hP hD hS => ?_)
                  have hw : fw_H D vwCl A s.heap (wM ad cI cL th ki ce wi ma fo cu gr ru nu gv ca nw (upd x13.2 x2.1.toNatClampNeg ((x13.2 x2.1.toNatClampNeg) ||| ((nw x2.1.toNatClampNeg) &&& ((0 : Int32) ^^^ (-1 : Int32))))) ke un cn fi fl pa sh od bd bs) H locs := ⟨hP, hD, hS⟩
                  refine lv_iinc (k := 3) (v := x13.1 + 1) (lv' := [(2, .int (x13.1 + 1)), (3, .int (nw (bs x13.1.toNatClampNeg).toNatClampNeg)), (0, .ref (ad 0)), (1, .int x2.1)]) hx hb d_MO_tryPairs_78 hl rfl (by rw [lit1]) (by decide) rfl (fun ls hl => ?_)
                  refine lv_goto (tgt := 13) hx hb d_MO_tryPairs_81 (by decide) ?_
                  have q := Option.some.inj h
                  subst q
                  exact ih13 (x13.1 + 1, upd x13.2 x2.1.toNatClampNeg ((x13.2 x2.1.toNatClampNeg) ||| ((nw x2.1.toNatClampNeg) &&& ((0 : Int32) ^^^ (-1 : Int32))))) e13 hk13 hr13 _ _ _ (lv_sub hl [2, 3, 0] rfl) hw
                · have h := oe h hc
                  refine lv_iconst (v := 1) hx hb d_MO_tryPairs_68 (by decide) ?_
                  refine lv_goto (tgt := 73) hx hb d_MO_tryPairs_69 (by decide) ?_
                  refine lv_iconst (v := (-1)) hx hb d_MO_tryPairs_73 (by decide) ?_
                  refine lv_ixor hx hb d_MO_tryPairs_74 ?_
                  refine lv_iand hx hb d_MO_tryPairs_75 ?_
                  refine lv_ior hx hb d_MO_tryPairs_76 ?_
                  refine va_iast hx hb hK hw.1 hw.2.1 hw.2.2 8 0 rfl rfl hc1 d_MO_tryPairs_77 (fun H locs hP hD hS => ?_)
                  have hw : fw_H D vwCl A s.heap (wM ad cI cL th ki ce wi ma fo cu gr ru nu gv ca nw (upd x13.2 x2.1.toNatClampNeg ((x13.2 x2.1.toNatClampNeg) ||| ((nw x2.1.toNatClampNeg) &&& ((1 : Int32) ^^^ (-1 : Int32))))) ke un cn fi fl pa sh od bd bs) H locs := ⟨hP, hD, hS⟩
                  refine lv_iinc (k := 3) (v := x13.1 + 1) (lv' := [(2, .int (x13.1 + 1)), (3, .int (nw (bs x13.1.toNatClampNeg).toNatClampNeg)), (0, .ref (ad 0)), (1, .int x2.1)]) hx hb d_MO_tryPairs_78 hl rfl (by rw [lit1]) (by decide) rfl (fun ls hl => ?_)
                  refine lv_goto (tgt := 13) hx hb d_MO_tryPairs_81 (by decide) ?_
                  have q := Option.some.inj h
                  subst q
                  exact ih13 (x13.1 + 1, upd x13.2 x2.1.toNatClampNeg ((x13.2 x2.1.toNatClampNeg) ||| ((nw x2.1.toNatClampNeg) &&& ((1 : Int32) ^^^ (-1 : Int32))))) e13 hk13 hr13 _ _ _ (lv_sub hl [2, 3, 0] rfl) hw
              · have h := oi h hc
                refine lv_iconst (v := 3) hx hb d_MO_tryPairs_60 (by decide) ?_
                refine lv_goto (tgt := 73) hx hb d_MO_tryPairs_61 (by decide) ?_
                refine lv_iconst (v := (-1)) hx hb d_MO_tryPairs_73 (by decide) ?_
                refine lv_ixor hx hb d_MO_tryPairs_74 ?_
                refine lv_iand hx hb d_MO_tryPairs_75 ?_
                refine lv_ior hx hb d_MO_tryPairs_76 ?_
                refine va_iast hx hb hK hw.1 hw.2.1 hw.2.2 8 0 rfl rfl hc1 d_MO_tryPairs_77 (fun H locs hP hD hS => ?_)
                have hw : fw_H D vwCl A s.heap (wM ad cI cL th ki ce wi ma fo cu gr ru nu gv ca nw (upd x13.2 x2.1.toNatClampNeg ((x13.2 x2.1.toNatClampNeg) ||| ((nw x2.1.toNatClampNeg) &&& ((3 : Int32) ^^^ (-1 : Int32))))) ke un cn fi fl pa sh od bd bs) H locs := ⟨hP, hD, hS⟩
                refine lv_iinc (k := 3) (v := x13.1 + 1) (lv' := [(2, .int (x13.1 + 1)), (3, .int (nw (bs x13.1.toNatClampNeg).toNatClampNeg)), (0, .ref (ad 0)), (1, .int x2.1)]) hx hb d_MO_tryPairs_78 hl rfl (by rw [lit1]) (by decide) rfl (fun ls hl => ?_)
                refine lv_goto (tgt := 13) hx hb d_MO_tryPairs_81 (by decide) ?_
                have q := Option.some.inj h
                subst q
                exact ih13 (x13.1 + 1, upd x13.2 x2.1.toNatClampNeg ((x13.2 x2.1.toNatClampNeg) ||| ((nw x2.1.toNatClampNeg) &&& ((3 : Int32) ^^^ (-1 : Int32))))) e13 hk13 hr13 _ _ _ (lv_sub hl [2, 3, 0] rfl) hw
        refine ob h (fun e13 h1 h2 => ?_)
        exact L13 N ((8 : Int32) * x2.1, x2.2) e13 h1 h2 _ _ _ (lv_sub hl [1, 2, 0] rfl) hw
  refine ob h (fun e2 h1 h2 => ?_)
  exact L2 N ((0 : Int32), lo) e2 h1 h2 _ _ _ (lv_sub hl [1, 0] rfl) hw
set_option maxHeartbeats 4000000 in
set_option maxRecDepth 100000 in
theorem ct_MO_addGroup (l : Launch) (D : va_G) (ad : Nat → Nat) (cI cL : ClassId) (N : Nat) (th : Int32) (ki : Int32) (ce : Int32) (wi : Int32) (ma : Int32) (fo : Int32) (cu : Nat → Int32) (gr : Nat → Int32) (ru : Nat → Int32) (nu : Nat → Int32) (gv : Nat → Int32) (ca : Nat → Int32) (nw : Nat → Int32) (lo : Nat → Int32) (ke : Nat → Int32) (un : Nat → Int32) (cn : Nat → Int32) (fi : Nat → Int32) (fl : Nat → Int32) (pa : Nat → Int32) (sh : Nat → Int32) (od : Nat → Int32) (bd : Nat → Int32) (bs : Nat → Int32) (u1 : Int32) (out : Int32 × (Nat → Int32) × (Nat → Int32)) (h : mi_MO_addGroup N ce ma gr un cn u1 = some out) : fw_C l y_MO_addGroup (.code y_MO_addGroup b_MO_addGroup 3 (none) :: Gw) (fr 1 21) D vwCl (tyA cI cL) [.ref (ad 0), .int u1] (wM ad cI cL th ki ce wi ma fo cu gr ru nu gv ca nw lo ke un cn fi fl pa sh od bd bs) none (wM ad cI cL th ki ce wi out.1 fo cu gr ru nu gv ca nw lo ke out.2.1 out.2.2 fi fl pa sh od bd bs) := by
  refine fw_of (by decide) (Nat.le_of_ble_eq_true rfl) ?_
  intro p e s m args below meth c ls A R Q hR hQ S hr hlk hX hA hl hw
  have hK := hX.1
  have hx := S.1
  have hb := S.2.1
  have hown := S.2.2.2.1
  have hg := S.2.2.2.2
  have hl : lv_has ls 3 [(0, .ref (ad 0)), (1, .int u1)] := hl
  unfold mi_MO_addGroup at h
  refine lv_aload_n hx hb d_MO_addGroup_0 rfl (lv_at hl 0 rfl) ?_
  refine ob h (fun r1 h1 h => ?_)
  refine fw_callV (As := []) (rest := []) (st1 := []) S (ct_MO_beginUnit l D ad cI cL N th ki ce wi ma fo cu gr ru nu gv ca nw lo ke un cn fi fl pa sh od bd bs r1 h1) q_936 q_938 s_35 q_10 k_MO_beginUnit hd_MO_beginUnit ⟨by rw [hR]; decide, by rw [hR]; decide⟩ rfl rfl hX hw hA 0 (ci := 6) rfl rfl hl.1 rfl rfl (Nat.le_of_ble_eq_true rfl) d_MO_addGroup_1 ⟨Nat.zero_le _, Nat.zero_le _⟩ rfl (fun H locs hw => ?_)
  refine lv_iconst (v := 0) hx hb d_MO_addGroup_4 (by decide) ?_
  refine lv_istore_n (lv' := [(2, .int (0 : Int32)), (0, .ref (ad 0)), (1, .int u1)]) hx hb d_MO_addGroup_5 rfl hl (by decide) rfl (fun ls hl => ?_)
  have X6 : ∀ (y6 : Int32 × Int32 × (Nat → Int32)), mr_MO_addGroup_6 r1 y6 = some out → ∀ (ls : Array Slot) (H : Heap) (locs : List Loc), lv_has ls 3 [] → fw_H D vwCl A s.heap (wM ad cI cL th ki ce wi y6.2.1 fo cu gr ru nu gv ca nw lo ke y6.2.2 r1.2 fi fl pa sh od bd bs) H locs → W p l e R s m args below meth c H locs 0 0 Q (F0 m 35 ls []) := by
    intro y6 h ls H locs hl hw
    unfold mr_MO_addGroup_6 at h
    have q := Option.some.inj h
    subst q
    exact fw_vret hQ S hr hlk hX hw d_MO_addGroup_35
  have L6 : ∀ (n6 : Nat) (x6 : Int32 × Int32 × (Nat → Int32)) (e6 : Int32 × Int32 × (Nat → Int32)), lp (mb_MO_addGroup_6 N ce gr u1) n6 x6 = some e6 → (mr_MO_addGroup_6 r1) e6 = some out → ∀ (ls : Array Slot) (H : Heap) (locs : List Loc), lv_has ls 3 [(0, .ref (ad 0)), (1, .int u1), (2, .int x6.1)] → fw_H D vwCl A s.heap (wM ad cI cL th ki ce wi x6.2.1 fo cu gr ru nu gv ca nw lo ke x6.2.2 r1.2 fi fl pa sh od bd bs) H locs → W p l e R s m args below meth c H locs 0 0 Q (F0 m 6 ls []) := by
    intro n6
    induction n6 with
    | zero => intro x6 e6 h1; exact absurd h1 lp_0
    | succ n6 ih6 =>
      intro x6 e6 h1 hr6 ls H locs hl hw
      rw [lp_s] at h1
      refine ob h1 (fun r6 h hk6 => ?_)
      unfold mb_MO_addGroup_6 at h
      refine lv_iload_n hx hb d_MO_addGroup_6 rfl (lv_at hl 2 rfl) ?_
      refine lv_aload_n hx hb d_MO_addGroup_7 rfl (lv_at hl 0 rfl) ?_
      refine va_get (ci := 6) (v := .int ce) (C := R_MO) (T := F_MO) (N := 24) hx hb hg in_MO hown hK hw.1 0 rfl rfl 2 (by decide) (hg _ q_751) (fun _ h9 => h9) rfl d_MO_addGroup_8 ?_
      refine lv_icmp_ge (tgt := 35) hx hb d_MO_addGroup_11 (by decide) (fun hc => ?_) (fun hc => ?_)
      · have h := oi h hc
        have q := Option.some.inj h
        subst q
        have q := Option.some.inj hk6
        subst q
        exact X6 (x6.1, x6.2.1, x6.2.2) hr6 _ _ _ (lv_sub hl [] rfl) hw
      · have h := oe h hc
        refine lv_aload_n hx hb d_MO_addGroup_14 rfl (lv_at hl 0 rfl) ?_
        refine va_get (ci := 6) (v := .ref (ad 2)) (C := R_MO) (T := F_MO) (N := 24) hx hb hg in_MO hown hK hw.1 0 rfl rfl 5 (by decide) (hg _ q_754) (fun _ h9 => h9) rfl d_MO_addGroup_15 ?_
        refine lv_iload_n hx hb d_MO_addGroup_18 rfl (lv_at hl 2 rfl) ?_
        refine oc h (fun hc1 h => ?_)
        refine va_iald hx hb hK hw.1 2 0 rfl rfl hc1 d_MO_addGroup_19 ?_
        refine lv_iload_n hx hb d_MO_addGroup_20 rfl (lv_at hl 1 rfl) ?_
        refine lv_icmp_ne (tgt := 29) hx hb d_MO_addGroup_21 (by decide) (fun hc => ?_) (fun hc => ?_)
        · have h := oe h hc
          refine lv_iinc (k := 2) (v := x6.1 + 1) (lv' := [(2, .int (x6.1 + 1)), (0, .ref (ad 0)), (1, .int u1)]) hx hb d_MO_addGroup_29 hl rfl (by rw [lit1]) (by decide) rfl (fun ls hl => ?_)
          refine lv_goto (tgt := 6) hx hb d_MO_addGroup_32 (by decide) ?_
          have q := Option.some.inj h
          subst q
          exact ih6 (x6.1 + 1, x6.2.1, x6.2.2) e6 hk6 hr6 _ _ _ (lv_sub hl [1, 2, 0] rfl) hw
        · have h := oi h hc
          refine lv_aload_n hx hb d_MO_addGroup_24 rfl (lv_at hl 0 rfl) ?_
          refine lv_iload_n hx hb d_MO_addGroup_25 rfl (lv_at hl 2 rfl) ?_
          refine ob h (fun r26 h26 h => ?_)
          refine fw_callV (As := [.int x6.1]) (rest := []) (st1 := []) S (ct_MO_addCell l D ad cI cL N th ki ce wi x6.2.1 fo cu gr ru nu gv ca nw lo ke x6.2.2 r1.2 fi fl pa sh od bd bs x6.1 r26 h26) q_940 q_942 s_36 q_10 k_MO_addCell hd_MO_addCell ⟨by rw [hR]; decide, by rw [hR]; decide⟩ rfl rfl hX hw hA 0 (ci := 6) rfl rfl hl.1 rfl rfl (Nat.le_of_ble_eq_true rfl) d_MO_addGroup_26 ⟨Nat.zero_le _, Nat.zero_le _⟩ rfl (fun H locs hw => ?_)
          refine lv_iinc (k := 2) (v := x6.1 + 1) (lv' := [(2, .int (x6.1 + 1)), (0, .ref (ad 0)), (1, .int u1)]) hx hb d_MO_addGroup_29 hl rfl (by rw [lit1]) (by decide) rfl (fun ls hl => ?_)
          refine lv_goto (tgt := 6) hx hb d_MO_addGroup_32 (by decide) ?_
          have q := Option.some.inj h
          subst q
          exact ih6 (x6.1 + 1, r26.1, r26.2) e6 hk6 hr6 _ _ _ (lv_sub hl [1, 2, 0] rfl) hw
  refine ob h (fun e6 h1 h2 => ?_)
  exact L6 N ((0 : Int32), r1.1, un) e6 h1 h2 _ _ _ (lv_sub hl [1, 2, 0] rfl) hw
set_option maxHeartbeats 4000000 in
set_option maxRecDepth 100000 in
theorem ct_MO_look (l : Launch) (D : va_G) (ad : Nat → Nat) (cI cL : ClassId) (N : Nat) (th : Int32) (ki : Int32) (ce : Int32) (wi : Int32) (ma : Int32) (fo : Int32) (cu : Nat → Int32) (gr : Nat → Int32) (ru : Nat → Int32) (nu : Nat → Int32) (gv : Nat → Int32) (ca : Nat → Int32) (nw : Nat → Int32) (lo : Nat → Int32) (ke : Nat → Int32) (un : Nat → Int32) (cn : Nat → Int32) (fi : Nat → Int32) (fl : Nat → Int32) (pa : Nat → Int32) (sh : Nat → Int32) (od : Nat → Int32) (bd : Nat → Int32) (bs : Nat → Int32)  (out : Int32 × Int32 × (Nat → Int32) × (Nat → Int32) × (Nat → Int32)) (h : mi_MO_look N ki ce wi ma cu gr ru nu nw lo un cn sh bd bs = some out) : fw_C l y_MO_look (.code y_MO_look b_MO_look 3 (some .boolean) :: Gw) (fr 3 71) D vwCl (tyA cI cL) [.ref (ad 0)] (wM ad cI cL th ki ce wi ma fo cu gr ru nu gv ca nw lo ke un cn fi fl pa sh od bd bs) (some (.int out.1)) (wM ad cI cL th ki ce wi out.2.1 fo cu gr ru nu gv ca nw out.2.2.1 ke out.2.2.2.1 out.2.2.2.2 fi fl pa sh od bd bs) := by
  refine fw_of (by decide) (Nat.le_of_ble_eq_true rfl) ?_
  intro p e s m args below meth c ls A R Q hR hQ S hr hlk hX hA hl hw
  have hK := hX.1
  have hx := S.1
  have hb := S.2.1
  have hown := S.2.2.2.1
  have hg := S.2.2.2.2
  have hl : lv_has ls 3 [(0, .ref (ad 0))] := hl
  unfold mi_MO_look at h
  refine lv_iconst (v := 0) hx hb d_MO_look_0 (by decide) ?_
  refine lv_istore_n (lv' := [(1, .int (0 : Int32)), (0, .ref (ad 0))]) hx hb d_MO_look_1 rfl hl (by decide) rfl (fun ls hl => ?_)
  have X2 : ∀ (y2 : Int32 × (Nat → Int32)), mr_MO_look_2 N ki ce wi ma cu gr ru nu nw un cn sh bd bs y2 = some out → ∀ (ls : Array Slot) (H : Heap) (locs : List Loc), lv_has ls 3 [(0, .ref (ad 0))] → fw_H D vwCl A s.heap (wM ad cI cL th ki ce wi ma fo cu gr ru nu gv ca nw y2.2 ke un cn fi fl pa sh od bd bs) H locs → W p l e R s m args below meth c H locs 0 0 Q (F0 m 21 ls []) := by
    intro y2 h ls H locs hl hw
    unfold mr_MO_look_2 at h
    refine lv_iconst (v := 0) hx hb d_MO_look_21 (by decide) ?_
    refine lv_istore_n (lv' := [(1, .int (0 : Int32)), (0, .ref (ad 0))]) hx hb d_MO_look_22 rfl hl (by decide) rfl (fun ls hl => ?_)
    have X23 : ∀ (y23 : Int32 × Int32 × (Nat → Int32) × (Nat → Int32) × (Nat → Int32)), mr_MO_look_23 N ki ce gr ru nu nw bd bs y23 = some out → ∀ (ls : Array Slot) (H : Heap) (locs : List Loc), lv_has ls 3 [(0, .ref (ad 0))] → fw_H D vwCl A s.heap (wM ad cI cL th ki ce wi y23.2.1 fo cu gr ru nu gv ca nw y23.2.2.1 ke y23.2.2.2.1 y23.2.2.2.2 fi fl pa sh od bd bs) H locs → W p l e R s m args below meth c H locs 0 0 Q (F0 m 80 ls []) := by
      intro y23 h ls H locs hl hw
      unfold mr_MO_look_23 at h
      refine lv_iconst (v := 0) hx hb d_MO_look_80 (by decide) ?_
      refine lv_istore_n (lv' := [(1, .int (0 : Int32)), (0, .ref (ad 0))]) hx hb d_MO_look_81 rfl hl (by decide) rfl (fun ls hl => ?_)
      have X82 : ∀ (y82 : Int32 × Int32 × (Nat → Int32) × (Nat → Int32) × (Nat → Int32)), mr_MO_look_82 N ki ce nw bd bs y82 = some out → ∀ (ls : Array Slot) (H : Heap) (locs : List Loc), lv_has ls 3 [(0, .ref (ad 0))] → fw_H D vwCl A s.heap (wM ad cI cL th ki ce wi y82.2.1 fo cu gr ru nu gv ca nw y82.2.2.1 ke y82.2.2.2.1 y82.2.2.2.2 fi fl pa sh od bd bs) H locs → W p l e R s m args below meth c H locs 0 0 Q (F0 m 147 ls []) := by
        intro y82 h ls H locs hl hw
        unfold mr_MO_look_82 at h
        refine lv_aload_n hx hb d_MO_look_147 rfl (lv_at hl 0 rfl) ?_
        refine va_get (ci := 6) (v := .int ki) (C := R_MO) (T := F_MO) (N := 24) hx hb hg in_MO hown hK hw.1 0 rfl rfl 1 (by decide) (hg _ q_750) (fun _ h9 => h9) rfl d_MO_look_148 ?_
        refine lv_iconst (v := 2) hx hb d_MO_look_151 (by decide) ?_
        have J159 : ∀ (j159lo : Nat → Int32), mj_MO_look_159 N ce y82 j159lo = some out → ∀ (ls : Array Slot) (H : Heap) (locs : List Loc), lv_has ls 3 [(0, .ref (ad 0))] → fw_H D vwCl A s.heap (wM ad cI cL th ki ce wi y82.2.1 fo cu gr ru nu gv ca nw j159lo ke y82.2.2.2.1 y82.2.2.2.2 fi fl pa sh od bd bs) H locs → W p l e R s m args below meth c H locs 0 0 Q (F0 m 159 ls []) := by
          intro j159lo h ls H locs hl hw
          unfold mj_MO_look_159 at h
          refine lv_iconst (v := 0) hx hb d_MO_look_159 (by decide) ?_
          refine lv_istore_n (lv' := [(1, .int (0 : Int32)), (0, .ref (ad 0))]) hx hb d_MO_look_160 rfl hl (by decide) rfl (fun ls hl => ?_)
          refine lv_iconst (v := 0) hx hb d_MO_look_161 (by decide) ?_
          refine lv_istore_n (lv' := [(2, .int (0 : Int32)), (1, .int (0 : Int32)), (0, .ref (ad 0))]) hx hb d_MO_look_162 rfl hl (by decide) rfl (fun ls hl => ?_)
          have X163 : ∀ (y163 : Int32 × Int32), mr_MO_look_163 y82 j159lo y163 = some out → ∀ (ls : Array Slot) (H : Heap) (locs : List Loc), lv_has ls 3 [(1, .int y163.1)] → fw_H D vwCl A s.heap (wM ad cI cL th ki ce wi y82.2.1 fo cu gr ru nu gv ca nw j159lo ke y82.2.2.2.1 y82.2.2.2.2 fi fl pa sh od bd bs) H locs → W p l e R s m args below meth c H locs 0 0 Q (F0 m 196 ls []) := by
            intro y163 h ls H locs hl hw
            unfold mr_MO_look_163 at h
            refine lv_iload_n hx hb d_MO_look_196 rfl (lv_at hl 0 rfl) ?_
            refine oc h (fun hc h => ?_)
            have q := Option.some.inj h
            subst q
            exact fw_zret hQ S hr (fw_nz hc) hlk hX hw d_MO_look_197
          have L163 : ∀ (n163 : Nat) (x163 : Int32 × Int32) (e163 : Int32 × Int32), lp (mb_MO_look_163 ce j159lo) n163 x163 = some e163 → (mr_MO_look_163 y82 j159lo) e163 = some out → ∀ (ls : Array Slot) (H : Heap) (locs : List Loc), lv_has ls 3 [(0, .ref (ad 0)), (1, .int x163.1), (2, .int x163.2)] → fw_H D vwCl A s.heap (wM ad cI cL th ki ce wi y82.2.1 fo cu gr ru nu gv ca nw j159lo ke y82.2.2.2.1 y82.2.2.2.2 fi fl pa sh od bd bs) H locs → W p l e R s m args below meth c H locs 0 0 Q (F0 m 163 ls []) := by
            intro n163
            induction n163 with
            | zero => intro x163 e163 h1; exact absurd h1 lp_0
            | succ n163 ih163 =>
              intro x163 e163 h1 hr163 ls H locs hl hw
              rw [lp_s] at h1
              refine ob h1 (fun r163 h hk163 => ?_)
              unfold mb_MO_look_163 at h
              refine lv_iload_n hx hb d_MO_look_163 rfl (lv_at hl 2 rfl) ?_
              refine lv_aload_n hx hb d_MO_look_164 rfl (lv_at hl 0 rfl) ?_
              refine va_get (ci := 6) (v := .int ce) (C := R_MO) (T := F_MO) (N := 24) hx hb hg in_MO hown hK hw.1 0 rfl rfl 2 (by decide) (hg _ q_751) (fun _ h9 => h9) rfl d_MO_look_165 ?_
              refine lv_icmp_ge (tgt := 196) hx hb d_MO_look_168 (by decide) (fun hc => ?_) (fun hc => ?_)
              · have h := oi h hc
                have q := Option.some.inj h
                subst q
                have q := Option.some.inj hk163
                subst q
                exact X163 (x163.1, x163.2) hr163 _ _ _ (lv_sub hl [1] rfl) hw
              · have h := oe h hc
                refine lv_iload_n hx hb d_MO_look_171 rfl (lv_at hl 1 rfl) ?_
                refine lv_if_ne (tgt := 184) hx hb d_MO_look_172 (by decide) (fun hc => ?_) (fun hc => ?_)
                · have h := oe h hc
                  refine lv_iconst (v := 1) hx hb d_MO_look_184 (by decide) ?_
                  refine lv_goto (tgt := 189) hx hb d_MO_look_185 (by decide) ?_
                  refine lv_istore_n (lv' := [(1, .int (1 : Int32)), (0, .ref (ad 0)), (2, .int x163.2)]) hx hb d_MO_look_189 rfl hl (by decide) rfl (fun ls hl => ?_)
                  refine lv_iinc (k := 2) (v := x163.2 + 1) (lv' := [(2, .int (x163.2 + 1)), (1, .int (1 : Int32)), (0, .ref (ad 0))]) hx hb d_MO_look_190 hl rfl (by rw [lit1]) (by decide) rfl (fun ls hl => ?_)
                  refine lv_goto (tgt := 163) hx hb d_MO_look_193 (by decide) ?_
                  have q := Option.some.inj h
                  subst q
                  exact ih163 ((1 : Int32), x163.2 + 1) e163 hk163 hr163 _ _ _ (lv_sub hl [2, 1, 0] rfl) hw
                · have h := oi h hc
                  refine lv_aload_n hx hb d_MO_look_175 rfl (lv_at hl 0 rfl) ?_
                  refine va_get (ci := 6) (v := .ref (ad 8)) (C := R_MO) (T := F_MO) (N := 24) hx hb hg in_MO hown hK hw.1 0 rfl rfl 11 (by decide) (hg _ q_760) (fun _ h9 => h9) rfl d_MO_look_176 ?_
                  refine lv_iload_n hx hb d_MO_look_179 rfl (lv_at hl 2 rfl) ?_
                  refine oc h (fun hc1 h => ?_)
                  refine va_iald hx hb hK hw.1 8 0 rfl rfl hc1 d_MO_look_180 ?_
                  refine lv_if_eq (tgt := 188) hx hb d_MO_look_181 (by decide) (fun hc => ?_) (fun hc => ?_)
                  · have h := oi h hc
                    refine lv_iconst (v := 0) hx hb d_MO_look_188 (by decide) ?_
                    refine lv_istore_n (lv' := [(1, .int (0 : Int32)), (0, .ref (ad 0)), (2, .int x163.2)]) hx hb d_MO_look_189 rfl hl (by decide) rfl (fun ls hl => ?_)
                    refine lv_iinc (k := 2) (v := x163.2 + 1) (lv' := [(2, .int (x163.2 + 1)), (1, .int (0 : Int32)), (0, .ref (ad 0))]) hx hb d_MO_look_190 hl rfl (by rw [lit1]) (by decide) rfl (fun ls hl => ?_)
                    refine lv_goto (tgt := 163) hx hb d_MO_look_193 (by decide) ?_
                    have q := Option.some.inj h
                    subst q
                    exact ih163 ((0 : Int32), x163.2 + 1) e163 hk163 hr163 _ _ _ (lv_sub hl [2, 1, 0] rfl) hw
                  · have h := oe h hc
                    refine lv_iconst (v := 1) hx hb d_MO_look_184 (by decide) ?_
                    refine lv_goto (tgt := 189) hx hb d_MO_look_185 (by decide) ?_
                    refine lv_istore_n (lv' := [(1, .int (1 : Int32)), (0, .ref (ad 0)), (2, .int x163.2)]) hx hb d_MO_look_189 rfl hl (by decide) rfl (fun ls hl => ?_)
                    refine lv_iinc (k := 2) (v := x163.2 + 1) (lv' := [(2, .int (x163.2 + 1)), (1, .int (1 : Int32)), (0, .ref (ad 0))]) hx hb d_MO_look_190 hl rfl (by rw [lit1]) (by decide) rfl (fun ls hl => ?_)
                    refine lv_goto (tgt := 163) hx hb d_MO_look_193 (by decide) ?_
                    have q := Option.some.inj h
                    subst q
                    exact ih163 ((1 : Int32), x163.2 + 1) e163 hk163 hr163 _ _ _ (lv_sub hl [2, 1, 0] rfl) hw
          refine ob h (fun e163 h1 h2 => ?_)
          exact L163 N ((0 : Int32), (0 : Int32)) e163 h1 h2 _ _ _ (lv_sub hl [2, 1, 0] rfl) hw
        refine lv_icmp_ne (tgt := 159) hx hb d_MO_look_152 (by decide) (fun hc => ?_) (fun hc => ?_)
        · have h := oe h hc
          exact J159 y82.2.2.1 h _ _ _ hl hw
        · have h := oi h hc
          refine lv_aload_n hx hb d_MO_look_155 rfl (lv_at hl 0 rfl) ?_
          refine ob h (fun r156 h156 h => ?_)
          refine fw_callV (As := []) (rest := []) (st1 := []) S (ct_MO_tryPairs l D ad cI cL N th ki ce wi y82.2.1 fo cu gr ru nu gv ca nw y82.2.2.1 ke y82.2.2.2.1 y82.2.2.2.2 fi fl pa sh od bd bs r156 h156) q_972 q_974 s_44 q_10 k_MO_tryPairs hd_MO_tryPairs ⟨by rw [hR]; decide, by rw [hR]; decide⟩ rfl rfl hX hw hA 0 (ci := 6) rfl rfl hl.1 rfl rfl (Nat.le_of_ble_eq_true rfl) d_MO_look_156 ⟨Nat.zero_le _, Nat.zero_le _⟩ rfl (fun H locs hw => ?_)
          exact J159 r156 h _ _ _ hl hw
      have L82 : ∀ (n82 : Nat) (x82 : Int32 × Int32 × (Nat → Int32) × (Nat → Int32) × (Nat → Int32)) (e82 : Int32 × Int32 × (Nat → Int32) × (Nat → Int32) × (Nat → Int32)), lp (mb_MO_look_82 N ki ce gr ru nu nw) n82 x82 = some e82 → (mr_MO_look_82 N ki ce nw bd bs) e82 = some out → ∀ (ls : Array Slot) (H : Heap) (locs : List Loc), lv_has ls 3 [(0, .ref (ad 0)), (1, .int x82.1)] → fw_H D vwCl A s.heap (wM ad cI cL th ki ce wi x82.2.1 fo cu gr ru nu gv ca nw x82.2.2.1 ke x82.2.2.2.1 x82.2.2.2.2 fi fl pa sh od bd bs) H locs → W p l e R s m args below meth c H locs 0 0 Q (F0 m 82 ls []) := by
        intro n82
        induction n82 with
        | zero => intro x82 e82 h1; exact absurd h1 lp_0
        | succ n82 ih82 =>
          intro x82 e82 h1 hr82 ls H locs hl hw
          rw [lp_s] at h1
          refine ob h1 (fun r82 h hk82 => ?_)
          unfold mb_MO_look_82 at h
          refine lv_iload_n hx hb d_MO_look_82 rfl (lv_at hl 1 rfl) ?_
          refine lv_bipush (v := 16) hx hb d_MO_look_83 (by decide) ?_
          refine lv_icmp_ge (tgt := 147) hx hb d_MO_look_85 (by decide) (fun hc => ?_) (fun hc => ?_)
          · have h := oi h hc
            have q := Option.some.inj h
            subst q
            have q := Option.some.inj hk82
            subst q
            exact X82 (x82.1, x82.2.1, x82.2.2.1, x82.2.2.2.1, x82.2.2.2.2) hr82 _ _ _ (lv_sub hl [0] rfl) hw
          · have h := oe h hc
            refine lv_aload_n hx hb d_MO_look_88 rfl (lv_at hl 0 rfl) ?_
            refine va_get (ci := 6) (v := .int ki) (C := R_MO) (T := F_MO) (N := 24) hx hb hg in_MO hown hK hw.1 0 rfl rfl 1 (by decide) (hg _ q_750) (fun _ h9 => h9) rfl d_MO_look_89 ?_
            refine lv_if_eq (tgt := 147) hx hb d_MO_look_92 (by decide) (fun hc => ?_) (fun hc => ?_)
            · have h := oi h hc
              have q := Option.some.inj h
              subst q
              have q := Option.some.inj hk82
              subst q
              exact X82 (x82.1, x82.2.1, x82.2.2.1, x82.2.2.2.1, x82.2.2.2.2) hr82 _ _ _ (lv_sub hl [0] rfl) hw
            · have h := oe h hc
              refine lv_aload_n hx hb d_MO_look_95 rfl (lv_at hl 0 rfl) ?_
              refine lv_iload_n hx hb d_MO_look_96 rfl (lv_at hl 1 rfl) ?_
              refine ob h (fun r97 h97 h => ?_)
              refine fw_callV (As := [.int x82.1]) (rest := []) (st1 := []) S (ct_MO_addGroup l D ad cI cL N th ki ce wi x82.2.1 fo cu gr ru nu gv ca nw x82.2.2.1 ke x82.2.2.2.1 x82.2.2.2.2 fi fl pa sh od bd bs x82.1 r97 h97) q_968 q_970 s_43 q_10 k_MO_addGroup hd_MO_addGroup ⟨by rw [hR]; decide, by rw [hR]; decide⟩ rfl rfl hX hw hA 0 (ci := 6) rfl rfl hl.1 rfl rfl (Nat.le_of_ble_eq_true rfl) d_MO_look_97 ⟨Nat.zero_le _, Nat.zero_le _⟩ rfl (fun H locs hw => ?_)
              refine lv_aload_n hx hb d_MO_look_100 rfl (lv_at hl 0 rfl) ?_
              refine va_get (ci := 6) (v := .int r97.1) (C := R_MO) (T := F_MO) (N := 24) hx hb hg in_MO hown hK hw.1 0 rfl rfl 13 (by decide) (hg _ q_762) (fun _ h9 => h9) rfl d_MO_look_101 ?_
              refine lv_if_ne (tgt := 110) hx hb d_MO_look_104 (by decide) (fun hc => ?_) (fun hc => ?_)
              · have h := oe h hc
                refine lv_aload_n hx hb d_MO_look_110 rfl (lv_at hl 0 rfl) ?_
                refine va_get (ci := 6) (v := .int ki) (C := R_MO) (T := F_MO) (N := 24) hx hb hg in_MO hown hK hw.1 0 rfl rfl 1 (by decide) (hg _ q_750) (fun _ h9 => h9) rfl d_MO_look_111 ?_
                refine lv_iconst (v := 1) hx hb d_MO_look_114 (by decide) ?_
                refine lv_icmp_ne (tgt := 137) hx hb d_MO_look_115 (by decide) (fun hc => ?_) (fun hc => ?_)
                · have h := oe h hc
                  refine lv_aload_n hx hb d_MO_look_137 rfl (lv_at hl 0 rfl) ?_
                  refine ob h (fun r138 h138 h => ?_)
                  refine fw_callV (As := []) (rest := []) (st1 := []) S (ct_MO_tryStar l D ad cI cL N th ki ce wi r97.1 fo cu gr ru nu gv ca nw x82.2.2.1 ke r97.2.1 r97.2.2 fi fl pa sh od bd bs r138 h138) q_964 q_966 s_42 q_10 k_MO_tryStar hd_MO_tryStar ⟨by rw [hR]; decide, by rw [hR]; decide⟩ rfl rfl hX hw hA 0 (ci := 6) rfl rfl hl.1 rfl rfl (Nat.le_of_ble_eq_true rfl) d_MO_look_138 ⟨Nat.zero_le _, Nat.zero_le _⟩ rfl (fun H locs hw => ?_)
                  refine lv_iinc (k := 1) (v := x82.1 + 1) (lv' := [(1, .int (x82.1 + 1)), (0, .ref (ad 0))]) hx hb d_MO_look_141 hl rfl (by rw [lit1]) (by decide) rfl (fun ls hl => ?_)
                  refine lv_goto (tgt := 82) hx hb d_MO_look_144 (by decide) ?_
                  have q := Option.some.inj h
                  subst q
                  exact ih82 (x82.1 + 1, r97.1, r138.1, r97.2.1, r138.2) e82 hk82 hr82 _ _ _ (lv_sub hl [1, 0] rfl) hw
                · have h := oi h hc
                  refine lv_aload_n hx hb d_MO_look_118 rfl (lv_at hl 0 rfl) ?_
                  refine lv_aload_n hx hb d_MO_look_119 rfl (lv_at hl 0 rfl) ?_
                  refine va_get (ci := 6) (v := .ref (ad 3)) (C := R_MO) (T := F_MO) (N := 24) hx hb hg in_MO hown hK hw.1 0 rfl rfl 6 (by decide) (hg _ q_755) (fun _ h9 => h9) rfl d_MO_look_120 ?_
                  refine lv_iload_n hx hb d_MO_look_123 rfl (lv_at hl 1 rfl) ?_
                  refine oc h (fun hc2 h => ?_)
                  refine va_iald hx hb hK hw.1 3 0 rfl rfl hc2 d_MO_look_124 ?_
                  refine lv_aload_n hx hb d_MO_look_125 rfl (lv_at hl 0 rfl) ?_
                  refine va_get (ci := 6) (v := .ref (ad 4)) (C := R_MO) (T := F_MO) (N := 24) hx hb hg in_MO hown hK hw.1 0 rfl rfl 7 (by decide) (hg _ q_756) (fun _ h9 => h9) rfl d_MO_look_126 ?_
                  refine lv_iload_n hx hb d_MO_look_129 rfl (lv_at hl 1 rfl) ?_
                  refine va_iald hx hb hK hw.1 4 0 rfl rfl hc2 d_MO_look_130 ?_
                  refine ob h (fun r131 h131 h => ?_)
                  refine fw_callV (As := [.int (ru x82.1.toNatClampNeg), .int (nu x82.1.toNatClampNeg)]) (rest := []) (st1 := []) S (ct_MO_trySquare l D ad cI cL N th ki ce wi r97.1 fo cu gr ru nu gv ca nw x82.2.2.1 ke r97.2.1 r97.2.2 fi fl pa sh od bd bs (ru x82.1.toNatClampNeg) (nu x82.1.toNatClampNeg) r131 h131) q_952 q_954 s_39 q_10 k_MO_trySquare hd_MO_trySquare ⟨by rw [hR]; decide, by rw [hR]; decide⟩ rfl rfl hX hw hA 0 (ci := 6) rfl rfl hl.1 rfl rfl (Nat.le_of_ble_eq_true rfl) d_MO_look_131 ⟨Nat.zero_le _, Nat.zero_le _⟩ rfl (fun H locs hw => ?_)
                  refine lv_goto (tgt := 141) hx hb d_MO_look_134 (by decide) ?_
                  refine lv_iinc (k := 1) (v := x82.1 + 1) (lv' := [(1, .int (x82.1 + 1)), (0, .ref (ad 0))]) hx hb d_MO_look_141 hl rfl (by rw [lit1]) (by decide) rfl (fun ls hl => ?_)
                  refine lv_goto (tgt := 82) hx hb d_MO_look_144 (by decide) ?_
                  have q := Option.some.inj h
                  subst q
                  exact ih82 (x82.1 + 1, r97.1, r131.1, r97.2.1, r131.2) e82 hk82 hr82 _ _ _ (lv_sub hl [1, 0] rfl) hw
              · have h := oi h hc
                refine lv_goto (tgt := 141) hx hb d_MO_look_107 (by decide) ?_
                refine lv_iinc (k := 1) (v := x82.1 + 1) (lv' := [(1, .int (x82.1 + 1)), (0, .ref (ad 0))]) hx hb d_MO_look_141 hl rfl (by rw [lit1]) (by decide) rfl (fun ls hl => ?_)
                refine lv_goto (tgt := 82) hx hb d_MO_look_144 (by decide) ?_
                have q := Option.some.inj h
                subst q
                exact ih82 (x82.1 + 1, r97.1, x82.2.2.1, r97.2.1, r97.2.2) e82 hk82 hr82 _ _ _ (lv_sub hl [1, 0] rfl) hw
      refine ob h (fun e82 h1 h2 => ?_)
      exact L82 N ((0 : Int32), y23.2.1, y23.2.2.1, y23.2.2.2.1, y23.2.2.2.2) e82 h1 h2 _ _ _ (lv_sub hl [1, 0] rfl) hw
    have L23 : ∀ (n23 : Nat) (x23 : Int32 × Int32 × (Nat → Int32) × (Nat → Int32) × (Nat → Int32)) (e23 : Int32 × Int32 × (Nat → Int32) × (Nat → Int32) × (Nat → Int32)), lp (mb_MO_look_23 N ki wi cu nw sh) n23 x23 = some e23 → (mr_MO_look_23 N ki ce gr ru nu nw bd bs) e23 = some out → ∀ (ls : Array Slot) (H : Heap) (locs : List Loc), lv_has ls 3 [(0, .ref (ad 0)), (1, .int x23.1)] → fw_H D vwCl A s.heap (wM ad cI cL th ki ce wi x23.2.1 fo cu gr ru nu gv ca nw x23.2.2.1 ke x23.2.2.2.1 x23.2.2.2.2 fi fl pa sh od bd bs) H locs → W p l e R s m args below meth c H locs 0 0 Q (F0 m 23 ls []) := by
      intro n23
      induction n23 with
      | zero => intro x23 e23 h1; exact absurd h1 lp_0
      | succ n23 ih23 =>
        intro x23 e23 h1 hr23 ls H locs hl hw
        rw [lp_s] at h1
        refine ob h1 (fun r23 h hk23 => ?_)
        unfold mb_MO_look_23 at h
        refine lv_iload_n hx hb d_MO_look_23 rfl (lv_at hl 1 rfl) ?_
        refine lv_iconst (v := 2) hx hb d_MO_look_24 (by decide) ?_
        refine lv_aload_n hx hb d_MO_look_25 rfl (lv_at hl 0 rfl) ?_
        refine va_get (ci := 6) (v := .int wi) (C := R_MO) (T := F_MO) (N := 24) hx hb hg in_MO hown hK hw.1 0 rfl rfl 3 (by decide) (hg _ q_752) (fun _ h9 => h9) rfl d_MO_look_26 ?_
        refine lv_imul hx hb d_MO_look_29 ?_
        refine lv_icmp_ge (tgt := 80) hx hb d_MO_look_30 (by decide) (fun hc => ?_) (fun hc => ?_)
        · have h := oi h hc
          have q := Option.some.inj h
          subst q
          have q := Option.some.inj hk23
          subst q
          exact X23 (x23.1, x23.2.1, x23.2.2.1, x23.2.2.2.1, x23.2.2.2.2) hr23 _ _ _ (lv_sub hl [0] rfl) hw
        · have h := oe h hc
          refine lv_aload_n hx hb d_MO_look_33 rfl (lv_at hl 0 rfl) ?_
          refine va_get (ci := 6) (v := .int ki) (C := R_MO) (T := F_MO) (N := 24) hx hb hg in_MO hown hK hw.1 0 rfl rfl 1 (by decide) (hg _ q_750) (fun _ h9 => h9) rfl d_MO_look_34 ?_
          refine lv_if_ne (tgt := 48) hx hb d_MO_look_37 (by decide) (fun hc => ?_) (fun hc => ?_)
          · have h := oe h hc
            refine lv_aload_n hx hb d_MO_look_48 rfl (lv_at hl 0 rfl) ?_
            refine lv_iload_n hx hb d_MO_look_49 rfl (lv_at hl 1 rfl) ?_
            refine ob h (fun r50 h50 h => ?_)
            refine fw_callV (As := [.int x23.1]) (rest := []) (st1 := []) S (ct_MO_addLine l D ad cI cL N th ki ce wi x23.2.1 fo cu gr ru nu gv ca nw x23.2.2.1 ke x23.2.2.2.1 x23.2.2.2.2 fi fl pa sh od bd bs x23.1 r50 h50) q_932 q_934 s_34 q_10 k_MO_addLine hd_MO_addLine ⟨by rw [hR]; decide, by rw [hR]; decide⟩ rfl rfl hX hw hA 0 (ci := 6) rfl rfl hl.1 rfl rfl (Nat.le_of_ble_eq_true rfl) d_MO_look_50 ⟨Nat.zero_le _, Nat.zero_le _⟩ rfl (fun H locs hw => ?_)
            refine lv_aload_n hx hb d_MO_look_53 rfl (lv_at hl 0 rfl) ?_
            refine va_get (ci := 6) (v := .int ki) (C := R_MO) (T := F_MO) (N := 24) hx hb hg in_MO hown hK hw.1 0 rfl rfl 1 (by decide) (hg _ q_750) (fun _ h9 => h9) rfl d_MO_look_54 ?_
            refine lv_iconst (v := 1) hx hb d_MO_look_57 (by decide) ?_
            refine lv_icmp_ne (tgt := 70) hx hb d_MO_look_58 (by decide) (fun hc => ?_) (fun hc => ?_)
            · have h := oe h hc
              refine lv_aload_n hx hb d_MO_look_70 rfl (lv_at hl 0 rfl) ?_
              refine ob h (fun r71 h71 h => ?_)
              refine fw_callV (As := []) (rest := []) (st1 := []) S (ct_MO_tryStar l D ad cI cL N th ki ce wi r50.1 fo cu gr ru nu gv ca nw x23.2.2.1 ke r50.2.1 r50.2.2 fi fl pa sh od bd bs r71 h71) q_964 q_966 s_42 q_10 k_MO_tryStar hd_MO_tryStar ⟨by rw [hR]; decide, by rw [hR]; decide⟩ rfl rfl hX hw hA 0 (ci := 6) rfl rfl hl.1 rfl rfl (Nat.le_of_ble_eq_true rfl) d_MO_look_71 ⟨Nat.zero_le _, Nat.zero_le _⟩ rfl (fun H locs hw => ?_)
              refine lv_iinc (k := 1) (v := x23.1 + 1) (lv' := [(1, .int (x23.1 + 1)), (0, .ref (ad 0))]) hx hb d_MO_look_74 hl rfl (by rw [lit1]) (by decide) rfl (fun ls hl => ?_)
              refine lv_goto (tgt := 23) hx hb d_MO_look_77 (by decide) ?_
              have q := Option.some.inj h
              subst q
              exact ih23 (x23.1 + 1, r50.1, r71.1, r50.2.1, r71.2) e23 hk23 hr23 _ _ _ (lv_sub hl [1, 0] rfl) hw
            · have h := oi h hc
              refine lv_aload_n hx hb d_MO_look_61 rfl (lv_at hl 0 rfl) ?_
              refine lv_iconst (v := 0) hx hb d_MO_look_62 (by decide) ?_
              refine lv_iconst (v := 0) hx hb d_MO_look_63 (by decide) ?_
              refine ob h (fun r64 h64 h => ?_)
              refine fw_callV (As := [.int (0 : Int32), .int (0 : Int32)]) (rest := []) (st1 := []) S (ct_MO_trySquare l D ad cI cL N th ki ce wi r50.1 fo cu gr ru nu gv ca nw x23.2.2.1 ke r50.2.1 r50.2.2 fi fl pa sh od bd bs (0 : Int32) (0 : Int32) r64 h64) q_952 q_954 s_39 q_10 k_MO_trySquare hd_MO_trySquare ⟨by rw [hR]; decide, by rw [hR]; decide⟩ rfl rfl hX hw hA 0 (ci := 6) rfl rfl hl.1 rfl rfl (Nat.le_of_ble_eq_true rfl) d_MO_look_64 ⟨Nat.zero_le _, Nat.zero_le _⟩ rfl (fun H locs hw => ?_)
              refine lv_goto (tgt := 74) hx hb d_MO_look_67 (by decide) ?_
              refine lv_iinc (k := 1) (v := x23.1 + 1) (lv' := [(1, .int (x23.1 + 1)), (0, .ref (ad 0))]) hx hb d_MO_look_74 hl rfl (by rw [lit1]) (by decide) rfl (fun ls hl => ?_)
              refine lv_goto (tgt := 23) hx hb d_MO_look_77 (by decide) ?_
              have q := Option.some.inj h
              subst q
              exact ih23 (x23.1 + 1, r50.1, r64.1, r50.2.1, r64.2) e23 hk23 hr23 _ _ _ (lv_sub hl [1, 0] rfl) hw
          · have h := oi h hc
            refine lv_aload_n hx hb d_MO_look_40 rfl (lv_at hl 0 rfl) ?_
            refine lv_iload_n hx hb d_MO_look_41 rfl (lv_at hl 1 rfl) ?_
            refine ob h (fun r42 h42 h => ?_)
            refine fw_callV (As := [.int x23.1]) (rest := []) (st1 := []) S (ct_MO_tryPicture l D ad cI cL N th ki ce wi x23.2.1 fo cu gr ru nu gv ca nw x23.2.2.1 ke x23.2.2.2.1 x23.2.2.2.2 fi fl pa sh od bd bs x23.1 r42 h42) q_928 q_930 s_33 q_10 k_MO_tryPicture hd_MO_tryPicture ⟨by rw [hR]; decide, by rw [hR]; decide⟩ rfl rfl hX hw hA 0 (ci := 6) rfl rfl hl.1 rfl rfl (Nat.le_of_ble_eq_true rfl) d_MO_look_42 ⟨Nat.zero_le _, Nat.zero_le _⟩ rfl (fun H locs hw => ?_)
            refine lv_goto (tgt := 74) hx hb d_MO_look_45 (by decide) ?_
            refine lv_iinc (k := 1) (v := x23.1 + 1) (lv' := [(1, .int (x23.1 + 1)), (0, .ref (ad 0))]) hx hb d_MO_look_74 hl rfl (by rw [lit1]) (by decide) rfl (fun ls hl => ?_)
            refine lv_goto (tgt := 23) hx hb d_MO_look_77 (by decide) ?_
            have q := Option.some.inj h
            subst q
            exact ih23 (x23.1 + 1, r42.1, r42.2.1, r42.2.2.1, r42.2.2.2) e23 hk23 hr23 _ _ _ (lv_sub hl [1, 0] rfl) hw
    refine ob h (fun e23 h1 h2 => ?_)
    exact L23 N ((0 : Int32), ma, y2.2, un, cn) e23 h1 h2 _ _ _ (lv_sub hl [1, 0] rfl) hw
  have L2 : ∀ (n2 : Nat) (x2 : Int32 × (Nat → Int32)) (e2 : Int32 × (Nat → Int32)), lp (mb_MO_look_2) n2 x2 = some e2 → (mr_MO_look_2 N ki ce wi ma cu gr ru nu nw un cn sh bd bs) e2 = some out → ∀ (ls : Array Slot) (H : Heap) (locs : List Loc), lv_has ls 3 [(0, .ref (ad 0)), (1, .int x2.1)] → fw_H D vwCl A s.heap (wM ad cI cL th ki ce wi ma fo cu gr ru nu gv ca nw x2.2 ke un cn fi fl pa sh od bd bs) H locs → W p l e R s m args below meth c H locs 0 0 Q (F0 m 2 ls []) := by
    intro n2
    induction n2 with
    | zero => intro x2 e2 h1; exact absurd h1 lp_0
    | succ n2 ih2 =>
      intro x2 e2 h1 hr2 ls H locs hl hw
      rw [lp_s] at h1
      refine ob h1 (fun r2 h hk2 => ?_)
      unfold mb_MO_look_2 at h
      refine lv_iload_n hx hb d_MO_look_2 rfl (lv_at hl 1 rfl) ?_
      refine lv_bipush (v := 25) hx hb d_MO_look_3 (by decide) ?_
      refine lv_icmp_ge (tgt := 21) hx hb d_MO_look_5 (by decide) (fun hc => ?_) (fun hc => ?_)
      · have h := oi h hc
        have q := Option.some.inj h
        subst q
        have q := Option.some.inj hk2
        subst q
        exact X2 (x2.1, x2.2) hr2 _ _ _ (lv_sub hl [0] rfl) hw
      · have h := oe h hc
        refine lv_aload_n hx hb d_MO_look_8 rfl (lv_at hl 0 rfl) ?_
        refine va_get (ci := 6) (v := .ref (ad 8)) (C := R_MO) (T := F_MO) (N := 24) hx hb hg in_MO hown hK hw.1 0 rfl rfl 11 (by decide) (hg _ q_760) (fun _ h9 => h9) rfl d_MO_look_9 ?_
        refine lv_iload_n hx hb d_MO_look_12 rfl (lv_at hl 1 rfl) ?_
        refine lv_iconst (v := 0) hx hb d_MO_look_13 (by decide) ?_
        refine oc h (fun hc3 h => ?_)
        refine va_iast hx hb hK hw.1 hw.2.1 hw.2.2 8 0 rfl rfl hc3 d_MO_look_14 (fun H locs hP hD hS => ?_)
        have hw : fw_H D vwCl A s.heap (wM ad cI cL th ki ce wi ma fo cu gr ru nu gv ca nw (upd x2.2 x2.1.toNatClampNeg (0 : Int32)) ke un cn fi fl pa sh od bd bs) H locs := ⟨hP, hD, hS⟩
        refine lv_iinc (k := 1) (v := x2.1 + 1) (lv' := [(1, .int (x2.1 + 1)), (0, .ref (ad 0))]) hx hb d_MO_look_15 hl rfl (by rw [lit1]) (by decide) rfl (fun ls hl => ?_)
        refine lv_goto (tgt := 2) hx hb d_MO_look_18 (by decide) ?_
        have q := Option.some.inj h
        subst q
        exact ih2 (x2.1 + 1, upd x2.2 x2.1.toNatClampNeg (0 : Int32)) e2 hk2 hr2 _ _ _ (lv_sub hl [1, 0] rfl) hw
  refine ob h (fun e2 h1 h2 => ?_)
  exact L2 N ((0 : Int32), lo) e2 h1 h2 _ _ _ (lv_sub hl [1, 0] rfl) hw
set_option maxHeartbeats 4000000 in
set_option maxRecDepth 100000 in
theorem ct_MO_reasonByOne (l : Launch) (D : va_G) (ad : Nat → Nat) (cI cL : ClassId) (N : Nat) (th : Int32) (ki : Int32) (ce : Int32) (wi : Int32) (ma : Int32) (fo : Int32) (cu : Nat → Int32) (gr : Nat → Int32) (ru : Nat → Int32) (nu : Nat → Int32) (gv : Nat → Int32) (ca : Nat → Int32) (nw : Nat → Int32) (lo : Nat → Int32) (ke : Nat → Int32) (un : Nat → Int32) (cn : Nat → Int32) (fi : Nat → Int32) (fl : Nat → Int32) (pa : Nat → Int32) (sh : Nat → Int32) (od : Nat → Int32) (bd : Nat → Int32) (bs : Nat → Int32)  (out : Int32 × (Nat → Int32) × (Nat → Int32) × (Nat → Int32) × (Nat → Int32)) (h : mi_MO_reasonByOne N ki ce wi ma cu gr ru nu nw lo un cn sh bd bs = some out) : fw_C l y_MO_reasonByOne (.code y_MO_reasonByOne b_MO_reasonByOne 2 (none) :: Gw) (fr 4 93) D vwCl (tyA cI cL) [.ref (ad 0)] (wM ad cI cL th ki ce wi ma fo cu gr ru nu gv ca nw lo ke un cn fi fl pa sh od bd bs) none (wM ad cI cL th ki ce wi out.1 fo cu gr ru nu gv ca out.2.1 out.2.2.1 ke out.2.2.2.1 out.2.2.2.2 fi fl pa sh od bd bs) := by
  refine fw_of (by decide) (Nat.le_of_ble_eq_true rfl) ?_
  intro p e s m args below meth c ls A R Q hR hQ S hr hlk hX hA hl hw
  have hK := hX.1
  have hx := S.1
  have hb := S.2.1
  have hown := S.2.2.2.1
  have hg := S.2.2.2.2
  have hl : lv_has ls 2 [(0, .ref (ad 0))] := hl
  unfold mi_MO_reasonByOne at h
  have X0 : ∀ (y0 : Int32 × (Nat → Int32) × (Nat → Int32) × (Nat → Int32) × (Nat → Int32)), mr_MO_reasonByOne_0 y0 = some out → ∀ (ls : Array Slot) (H : Heap) (locs : List Loc), lv_has ls 2 [] → fw_H D vwCl A s.heap (wM ad cI cL th ki ce wi y0.1 fo cu gr ru nu gv ca y0.2.1 y0.2.2.1 ke y0.2.2.2.1 y0.2.2.2.2 fi fl pa sh od bd bs) H locs → W p l e R s m args below meth c H locs 0 0 Q (F0 m 43 ls []) := by
    intro y0 h ls H locs hl hw
    unfold mr_MO_reasonByOne_0 at h
    have q := Option.some.inj h
    subst q
    exact fw_vret hQ S hr hlk hX hw d_MO_reasonByOne_43
  have L0 : ∀ (n0 : Nat) (x0 : Int32 × (Nat → Int32) × (Nat → Int32) × (Nat → Int32) × (Nat → Int32)) (e0 : Int32 × (Nat → Int32) × (Nat → Int32) × (Nat → Int32) × (Nat → Int32)), lp (mb_MO_reasonByOne_0 N ki ce wi cu gr ru nu sh bd bs) n0 x0 = some e0 → (mr_MO_reasonByOne_0) e0 = some out → ∀ (ls : Array Slot) (H : Heap) (locs : List Loc), lv_has ls 2 [(0, .ref (ad 0))] → fw_H D vwCl A s.heap (wM ad cI cL th ki ce wi x0.1 fo cu gr ru nu gv ca x0.2.1 x0.2.2.1 ke x0.2.2.2.1 x0.2.2.2.2 fi fl pa sh od bd bs) H locs → W p l e R s m args below meth c H locs 0 0 Q (F0 m 0 ls []) := by
    intro n0
    induction n0 with
    | zero => intro x0 e0 h1; exact absurd h1 lp_0
    | succ n0 ih0 =>
      intro x0 e0 h1 hr0 ls H locs hl hw
      rw [lp_s] at h1
      refine ob h1 (fun r0 h hk0 => ?_)
      unfold mb_MO_reasonByOne_0 at h
      refine lv_aload_n hx hb d_MO_reasonByOne_0 rfl (lv_at hl 0 rfl) ?_
      refine ob h (fun r1 h1 h => ?_)
      refine fw_callV (As := []) (rest := []) (st1 := [.int r1.1]) S (ct_MO_look l D ad cI cL N th ki ce wi x0.1 fo cu gr ru nu gv ca x0.2.1 x0.2.2.1 ke x0.2.2.2.1 x0.2.2.2.2 fi fl pa sh od bd bs r1 h1) q_924 q_926 s_32 q_10 k_MO_look hd_MO_look ⟨by rw [hR]; decide, by rw [hR]; decide⟩ rfl rfl hX hw hA 0 (ci := 6) rfl rfl hl.1 rfl rfl (Nat.le_of_ble_eq_true rfl) d_MO_reasonByOne_1 ⟨Nat.zero_le _, Nat.zero_le _⟩ rfl (fun H locs hw => ?_)
      refine lv_if_eq (tgt := 43) hx hb d_MO_reasonByOne_4 (by decide) (fun hc => ?_) (fun hc => ?_)
      · have h := oi h hc
        have q := Option.some.inj h
        subst q
        have q := Option.some.inj hk0
        subst q
        exact X0 (r1.2.1, x0.2.1, r1.2.2.1, r1.2.2.2.1, r1.2.2.2.2) hr0 _ _ _ (lv_sub hl [] rfl) hw
      · have h := oe h hc
        refine lv_iconst (v := 0) hx hb d_MO_reasonByOne_7 (by decide) ?_
        refine lv_istore_n (lv' := [(1, .int (0 : Int32)), (0, .ref (ad 0))]) hx hb d_MO_reasonByOne_8 rfl hl (by decide) rfl (fun ls hl => ?_)
        have X9 : ∀ (y9 : Int32 × (Nat → Int32)), mr_MO_reasonByOne_9 r1 y9 = some r0 → ∀ (ls : Array Slot) (H : Heap) (locs : List Loc), lv_has ls 2 [(0, .ref (ad 0))] → fw_H D vwCl A s.heap (wM ad cI cL th ki ce wi r1.2.1 fo cu gr ru nu gv ca y9.2 r1.2.2.1 ke r1.2.2.2.1 r1.2.2.2.2 fi fl pa sh od bd bs) H locs → W p l e R s m args below meth c H locs 0 0 Q (F0 m 40 ls []) := by
          intro y9 h ls H locs hl hw
          unfold mr_MO_reasonByOne_9 at h
          refine lv_goto (tgt := 0) hx hb d_MO_reasonByOne_40 (by decide) ?_
          have q := Option.some.inj h
          subst q
          exact ih0 (r1.2.1, y9.2, r1.2.2.1, r1.2.2.2.1, r1.2.2.2.2) e0 hk0 hr0 _ _ _ hl hw
        have L9 : ∀ (n9 : Nat) (x9 : Int32 × (Nat → Int32)) (e9 : Int32 × (Nat → Int32)), lp (mb_MO_reasonByOne_9 ce r1) n9 x9 = some e9 → (mr_MO_reasonByOne_9 r1) e9 = some r0 → ∀ (ls : Array Slot) (H : Heap) (locs : List Loc), lv_has ls 2 [(0, .ref (ad 0)), (1, .int x9.1)] → fw_H D vwCl A s.heap (wM ad cI cL th ki ce wi r1.2.1 fo cu gr ru nu gv ca x9.2 r1.2.2.1 ke r1.2.2.2.1 r1.2.2.2.2 fi fl pa sh od bd bs) H locs → W p l e R s m args below meth c H locs 0 0 Q (F0 m 9 ls []) := by
          intro n9
          induction n9 with
          | zero => intro x9 e9 h1; exact absurd h1 lp_0
          | succ n9 ih9 =>
            intro x9 e9 h1 hr9 ls H locs hl hw
            rw [lp_s] at h1
            refine ob h1 (fun r9 h hk9 => ?_)
            unfold mb_MO_reasonByOne_9 at h
            refine lv_iload_n hx hb d_MO_reasonByOne_9 rfl (lv_at hl 1 rfl) ?_
            refine lv_aload_n hx hb d_MO_reasonByOne_10 rfl (lv_at hl 0 rfl) ?_
            refine va_get (ci := 6) (v := .int ce) (C := R_MO) (T := F_MO) (N := 24) hx hb hg in_MO hown hK hw.1 0 rfl rfl 2 (by decide) (hg _ q_751) (fun _ h9 => h9) rfl d_MO_reasonByOne_11 ?_
            refine lv_icmp_ge (tgt := 40) hx hb d_MO_reasonByOne_14 (by decide) (fun hc => ?_) (fun hc => ?_)
            · have h := oi h hc
              have q := Option.some.inj h
              subst q
              have q := Option.some.inj hk9
              subst q
              exact X9 (x9.1, x9.2) hr9 _ _ _ (lv_sub hl [0] rfl) hw
            · have h := oe h hc
              refine lv_aload_n hx hb d_MO_reasonByOne_17 rfl (lv_at hl 0 rfl) ?_
              refine va_get (ci := 6) (v := .ref (ad 7)) (C := R_MO) (T := F_MO) (N := 24) hx hb hg in_MO hown hK hw.1 0 rfl rfl 10 (by decide) (hg _ q_759) (fun _ h9 => h9) rfl d_MO_reasonByOne_18 ?_
              refine lv_iload_n hx hb d_MO_reasonByOne_21 rfl (lv_at hl 1 rfl) ?_
              refine lv_dup2_11 hx hb d_MO_reasonByOne_22 rfl rfl ?_
              refine oc h (fun hc1 h => ?_)
              refine va_iald hx hb hK hw.1 7 0 rfl rfl hc1 d_MO_reasonByOne_23 ?_
              refine lv_aload_n hx hb d_MO_reasonByOne_24 rfl (lv_at hl 0 rfl) ?_
              refine va_get (ci := 6) (v := .ref (ad 8)) (C := R_MO) (T := F_MO) (N := 24) hx hb hg in_MO hown hK hw.1 0 rfl rfl 11 (by decide) (hg _ q_760) (fun _ h9 => h9) rfl d_MO_reasonByOne_25 ?_
              refine lv_iload_n hx hb d_MO_reasonByOne_28 rfl (lv_at hl 1 rfl) ?_
              refine va_iald hx hb hK hw.1 8 0 rfl rfl hc1 d_MO_reasonByOne_29 ?_
              refine lv_iconst (v := (-1)) hx hb d_MO_reasonByOne_30 (by decide) ?_
              refine lv_ixor hx hb d_MO_reasonByOne_31 ?_
              refine lv_iand hx hb d_MO_reasonByOne_32 ?_
              refine va_iast hx hb hK hw.1 hw.2.1 hw.2.2 7 0 rfl rfl hc1 d_MO_reasonByOne_33 (fun H locs hP hD hS => ?_)
              have hw : fw_H D vwCl A s.heap (wM ad cI cL th ki ce wi r1.2.1 fo cu gr ru nu gv ca (upd x9.2 x9.1.toNatClampNeg ((x9.2 x9.1.toNatClampNeg) &&& ((r1.2.2.1 x9.1.toNatClampNeg) ^^^ (-1 : Int32)))) r1.2.2.1 ke r1.2.2.2.1 r1.2.2.2.2 fi fl pa sh od bd bs) H locs := ⟨hP, hD, hS⟩
              refine lv_iinc (k := 1) (v := x9.1 + 1) (lv' := [(1, .int (x9.1 + 1)), (0, .ref (ad 0))]) hx hb d_MO_reasonByOne_34 hl rfl (by rw [lit1]) (by decide) rfl (fun ls hl => ?_)
              refine lv_goto (tgt := 9) hx hb d_MO_reasonByOne_37 (by decide) ?_
              have q := Option.some.inj h
              subst q
              exact ih9 (x9.1 + 1, upd x9.2 x9.1.toNatClampNeg ((x9.2 x9.1.toNatClampNeg) &&& ((r1.2.2.1 x9.1.toNatClampNeg) ^^^ (-1 : Int32)))) e9 hk9 hr9 _ _ _ (lv_sub hl [1, 0] rfl) hw
        refine ob h (fun e9 h1 h2 => ?_)
        exact L9 N ((0 : Int32), x0.2.1) e9 h1 h2 _ _ _ (lv_sub hl [1, 0] rfl) hw
  refine ob h (fun e0 h1 h2 => ?_)
  exact L0 N (ma, nw, lo, un, cn) e0 h1 h2 _ _ _ hl hw
set_option maxHeartbeats 4000000 in
set_option maxRecDepth 100000 in
theorem ct_MO_isEmpty (l : Launch) (D : va_G) (ad : Nat → Nat) (cI cL : ClassId) (N : Nat) (th : Int32) (ki : Int32) (ce : Int32) (wi : Int32) (ma : Int32) (fo : Int32) (cu : Nat → Int32) (gr : Nat → Int32) (ru : Nat → Int32) (nu : Nat → Int32) (gv : Nat → Int32) (ca : Nat → Int32) (nw : Nat → Int32) (lo : Nat → Int32) (ke : Nat → Int32) (un : Nat → Int32) (cn : Nat → Int32) (fi : Nat → Int32) (fl : Nat → Int32) (pa : Nat → Int32) (sh : Nat → Int32) (od : Nat → Int32) (bd : Nat → Int32) (bs : Nat → Int32)  (out : Int32) (h : mi_MO_isEmpty N ce nw = some out) : fw_C l y_MO_isEmpty (.code y_MO_isEmpty b_MO_isEmpty 3 (some .boolean) :: Gw) (fr 0 0) D vwCl (tyA cI cL) [.ref (ad 0)] (wM ad cI cL th ki ce wi ma fo cu gr ru nu gv ca nw lo ke un cn fi fl pa sh od bd bs) (some (.int out)) (wM ad cI cL th ki ce wi ma fo cu gr ru nu gv ca nw lo ke un cn fi fl pa sh od bd bs) := by
  refine fw_of (by decide) (Nat.le_of_ble_eq_true rfl) ?_
  intro p e s m args below meth c ls A R Q hR hQ S hr hlk hX hA hl hw
  have hK := hX.1
  have hx := S.1
  have hb := S.2.1
  have hown := S.2.2.2.1
  have hg := S.2.2.2.2
  have hl : lv_has ls 3 [(0, .ref (ad 0))] := hl
  unfold mi_MO_isEmpty at h
  refine lv_iconst (v := 0) hx hb d_MO_isEmpty_0 (by decide) ?_
  refine lv_istore_n (lv' := [(1, .int (0 : Int32)), (0, .ref (ad 0))]) hx hb d_MO_isEmpty_1 rfl hl (by decide) rfl (fun ls hl => ?_)
  refine lv_iconst (v := 0) hx hb d_MO_isEmpty_2 (by decide) ?_
  refine lv_istore_n (lv' := [(2, .int (0 : Int32)), (1, .int (0 : Int32)), (0, .ref (ad 0))]) hx hb d_MO_isEmpty_3 rfl hl (by decide) rfl (fun ls hl => ?_)
  have X4 : ∀ (y4 : Int32 × Int32), mr_MO_isEmpty_4 y4 = some out → ∀ (ls : Array Slot) (H : Heap) (locs : List Loc), lv_has ls 3 [(1, .int y4.1)] → fw_H D vwCl A s.heap (wM ad cI cL th ki ce wi ma fo cu gr ru nu gv ca nw lo ke un cn fi fl pa sh od bd bs) H locs → W p l e R s m args below meth c H locs 0 0 Q (F0 m 37 ls []) := by
    intro y4 h ls H locs hl hw
    unfold mr_MO_isEmpty_4 at h
    refine lv_iload_n hx hb d_MO_isEmpty_37 rfl (lv_at hl 0 rfl) ?_
    refine oc h (fun hc h => ?_)
    have q := Option.some.inj h
    subst q
    exact fw_zret hQ S hr (fw_nz hc) hlk hX hw d_MO_isEmpty_38
  have L4 : ∀ (n4 : Nat) (x4 : Int32 × Int32) (e4 : Int32 × Int32), lp (mb_MO_isEmpty_4 ce nw) n4 x4 = some e4 → (mr_MO_isEmpty_4) e4 = some out → ∀ (ls : Array Slot) (H : Heap) (locs : List Loc), lv_has ls 3 [(0, .ref (ad 0)), (1, .int x4.1), (2, .int x4.2)] → fw_H D vwCl A s.heap (wM ad cI cL th ki ce wi ma fo cu gr ru nu gv ca nw lo ke un cn fi fl pa sh od bd bs) H locs → W p l e R s m args below meth c H locs 0 0 Q (F0 m 4 ls []) := by
    intro n4
    induction n4 with
    | zero => intro x4 e4 h1; exact absurd h1 lp_0
    | succ n4 ih4 =>
      intro x4 e4 h1 hr4 ls H locs hl hw
      rw [lp_s] at h1
      refine ob h1 (fun r4 h hk4 => ?_)
      unfold mb_MO_isEmpty_4 at h
      refine lv_iload_n hx hb d_MO_isEmpty_4 rfl (lv_at hl 2 rfl) ?_
      refine lv_aload_n hx hb d_MO_isEmpty_5 rfl (lv_at hl 0 rfl) ?_
      refine va_get (ci := 6) (v := .int ce) (C := R_MO) (T := F_MO) (N := 24) hx hb hg in_MO hown hK hw.1 0 rfl rfl 2 (by decide) (hg _ q_751) (fun _ h9 => h9) rfl d_MO_isEmpty_6 ?_
      refine lv_icmp_ge (tgt := 37) hx hb d_MO_isEmpty_9 (by decide) (fun hc => ?_) (fun hc => ?_)
      · have h := oi h hc
        have q := Option.some.inj h
        subst q
        have q := Option.some.inj hk4
        subst q
        exact X4 (x4.1, x4.2) hr4 _ _ _ (lv_sub hl [1] rfl) hw
      · have h := oe h hc
        refine lv_iload_n hx hb d_MO_isEmpty_12 rfl (lv_at hl 1 rfl) ?_
        refine lv_if_ne (tgt := 25) hx hb d_MO_isEmpty_13 (by decide) (fun hc => ?_) (fun hc => ?_)
        · have h := oe h hc
          refine lv_iconst (v := 1) hx hb d_MO_isEmpty_25 (by decide) ?_
          refine lv_goto (tgt := 30) hx hb d_MO_isEmpty_26 (by decide) ?_
          refine lv_istore_n (lv' := [(1, .int (1 : Int32)), (0, .ref (ad 0)), (2, .int x4.2)]) hx hb d_MO_isEmpty_30 rfl hl (by decide) rfl (fun ls hl => ?_)
          refine lv_iinc (k := 2) (v := x4.2 + 1) (lv' := [(2, .int (x4.2 + 1)), (1, .int (1 : Int32)), (0, .ref (ad 0))]) hx hb d_MO_isEmpty_31 hl rfl (by rw [lit1]) (by decide) rfl (fun ls hl => ?_)
          refine lv_goto (tgt := 4) hx hb d_MO_isEmpty_34 (by decide) ?_
          have q := Option.some.inj h
          subst q
          exact ih4 ((1 : Int32), x4.2 + 1) e4 hk4 hr4 _ _ _ (lv_sub hl [2, 1, 0] rfl) hw
        · have h := oi h hc
          refine lv_aload_n hx hb d_MO_isEmpty_16 rfl (lv_at hl 0 rfl) ?_
          refine va_get (ci := 6) (v := .ref (ad 7)) (C := R_MO) (T := F_MO) (N := 24) hx hb hg in_MO hown hK hw.1 0 rfl rfl 10 (by decide) (hg _ q_759) (fun _ h9 => h9) rfl d_MO_isEmpty_17 ?_
          refine lv_iload_n hx hb d_MO_isEmpty_20 rfl (lv_at hl 2 rfl) ?_
          refine oc h (fun hc1 h => ?_)
          refine va_iald hx hb hK hw.1 7 0 rfl rfl hc1 d_MO_isEmpty_21 ?_
          refine lv_if_ne (tgt := 29) hx hb d_MO_isEmpty_22 (by decide) (fun hc => ?_) (fun hc => ?_)
          · have h := oe h hc
            refine lv_iconst (v := 0) hx hb d_MO_isEmpty_29 (by decide) ?_
            refine lv_istore_n (lv' := [(1, .int (0 : Int32)), (0, .ref (ad 0)), (2, .int x4.2)]) hx hb d_MO_isEmpty_30 rfl hl (by decide) rfl (fun ls hl => ?_)
            refine lv_iinc (k := 2) (v := x4.2 + 1) (lv' := [(2, .int (x4.2 + 1)), (1, .int (0 : Int32)), (0, .ref (ad 0))]) hx hb d_MO_isEmpty_31 hl rfl (by rw [lit1]) (by decide) rfl (fun ls hl => ?_)
            refine lv_goto (tgt := 4) hx hb d_MO_isEmpty_34 (by decide) ?_
            have q := Option.some.inj h
            subst q
            exact ih4 ((0 : Int32), x4.2 + 1) e4 hk4 hr4 _ _ _ (lv_sub hl [2, 1, 0] rfl) hw
          · have h := oi h hc
            refine lv_iconst (v := 1) hx hb d_MO_isEmpty_25 (by decide) ?_
            refine lv_goto (tgt := 30) hx hb d_MO_isEmpty_26 (by decide) ?_
            refine lv_istore_n (lv' := [(1, .int (1 : Int32)), (0, .ref (ad 0)), (2, .int x4.2)]) hx hb d_MO_isEmpty_30 rfl hl (by decide) rfl (fun ls hl => ?_)
            refine lv_iinc (k := 2) (v := x4.2 + 1) (lv' := [(2, .int (x4.2 + 1)), (1, .int (1 : Int32)), (0, .ref (ad 0))]) hx hb d_MO_isEmpty_31 hl rfl (by rw [lit1]) (by decide) rfl (fun ls hl => ?_)
            refine lv_goto (tgt := 4) hx hb d_MO_isEmpty_34 (by decide) ?_
            have q := Option.some.inj h
            subst q
            exact ih4 ((1 : Int32), x4.2 + 1) e4 hk4 hr4 _ _ _ (lv_sub hl [2, 1, 0] rfl) hw
  refine ob h (fun e4 h1 h2 => ?_)
  exact L4 N ((0 : Int32), (0 : Int32)) e4 h1 h2 _ _ _ (lv_sub hl [2, 1, 0] rfl) hw
set_option maxHeartbeats 4000000 in
set_option maxRecDepth 100000 in
theorem ct_MO_fails (l : Launch) (D : va_G) (ad : Nat → Nat) (cI cL : ClassId) (N : Nat) (th : Int32) (ki : Int32) (ce : Int32) (wi : Int32) (ma : Int32) (fo : Int32) (cu : Nat → Int32) (gr : Nat → Int32) (ru : Nat → Int32) (nu : Nat → Int32) (gv : Nat → Int32) (ca : Nat → Int32) (nw : Nat → Int32) (lo : Nat → Int32) (ke : Nat → Int32) (un : Nat → Int32) (cn : Nat → Int32) (fi : Nat → Int32) (fl : Nat → Int32) (pa : Nat → Int32) (sh : Nat → Int32) (od : Nat → Int32) (bd : Nat → Int32) (bs : Nat → Int32) (u1 : Int32) (u2 : Int32) (out : Int32 × Int32 × (Nat → Int32) × (Nat → Int32) × (Nat → Int32) × (Nat → Int32) × (Nat → Int32)) (h : mi_MO_fails N ki ce wi ma cu gr ru nu nw lo ke un cn sh bd bs u1 u2 = some out) : fw_C l y_MO_fails (.code y_MO_fails b_MO_fails 5 (some .boolean) :: Gw) (fr 5 114) D vwCl (tyA cI cL) [.ref (ad 0), .int u1, .int u2] (wM ad cI cL th ki ce wi ma fo cu gr ru nu gv ca nw lo ke un cn fi fl pa sh od bd bs) (some (.int out.1)) (wM ad cI cL th ki ce wi out.2.1 fo cu gr ru nu gv ca out.2.2.1 out.2.2.2.1 out.2.2.2.2.1 out.2.2.2.2.2.1 out.2.2.2.2.2.2 fi fl pa sh od bd bs) := by
  refine fw_of (by decide) (Nat.le_of_ble_eq_true rfl) ?_
  intro p e s m args below meth c ls A R Q hR hQ S hr hlk hX hA hl hw
  have hK := hX.1
  have hx := S.1
  have hb := S.2.1
  have hown := S.2.2.2.1
  have hg := S.2.2.2.2
  have hl : lv_has ls 5 [(0, .ref (ad 0)), (1, .int u1), (2, .int u2)] := hl
  unfold mi_MO_fails at h
  refine lv_iconst (v := 0) hx hb d_MO_fails_0 (by decide) ?_
  refine lv_istore_n (lv' := [(3, .int (0 : Int32)), (0, .ref (ad 0)), (1, .int u1), (2, .int u2)]) hx hb d_MO_fails_1 rfl hl (by decide) rfl (fun ls hl => ?_)
  have X2 : ∀ (y2 : Int32 × (Nat → Int32)), mr_MO_fails_2 N ki ce wi ma cu gr ru nu nw lo un cn sh bd bs u1 u2 y2 = some out → ∀ (ls : Array Slot) (H : Heap) (locs : List Loc), lv_has ls 5 [(0, .ref (ad 0)), (1, .int u1), (2, .int u2)] → fw_H D vwCl A s.heap (wM ad cI cL th ki ce wi ma fo cu gr ru nu gv ca nw lo y2.2 un cn fi fl pa sh od bd bs) H locs → W p l e R s m args below meth c H locs 0 0 Q (F0 m 28 ls []) := by
    intro y2 h ls H locs hl hw
    unfold mr_MO_fails_2 at h
    refine lv_aload_n hx hb d_MO_fails_28 rfl (lv_at hl 0 rfl) ?_
    refine va_get (ci := 6) (v := .ref (ad 7)) (C := R_MO) (T := F_MO) (N := 24) hx hb hg in_MO hown hK hw.1 0 rfl rfl 10 (by decide) (hg _ q_759) (fun _ h9 => h9) rfl d_MO_fails_29 ?_
    refine lv_iload_n hx hb d_MO_fails_32 rfl (lv_at hl 1 rfl) ?_
    refine lv_iconst (v := 1) hx hb d_MO_fails_33 (by decide) ?_
    refine lv_iload_n hx hb d_MO_fails_34 rfl (lv_at hl 2 rfl) ?_
    refine lv_ishl hx hb d_MO_fails_35 ?_
    refine oc h (fun hc1 h => ?_)
    refine va_iast hx hb hK hw.1 hw.2.1 hw.2.2 7 0 rfl rfl hc1 d_MO_fails_36 (fun H locs hP hD hS => ?_)
    have hw : fw_H D vwCl A s.heap (wM ad cI cL th ki ce wi ma fo cu gr ru nu gv ca (upd nw u1.toNatClampNeg ((1 : Int32) <<< (u2 &&& 31))) lo y2.2 un cn fi fl pa sh od bd bs) H locs := ⟨hP, hD, hS⟩
    refine lv_aload_n hx hb d_MO_fails_37 rfl (lv_at hl 0 rfl) ?_
    refine ob h (fun r38 h38 h => ?_)
    refine fw_callV (As := []) (rest := []) (st1 := []) S (ct_MO_reasonByOne l D ad cI cL N th ki ce wi ma fo cu gr ru nu gv ca (upd nw u1.toNatClampNeg ((1 : Int32) <<< (u2 &&& 31))) lo y2.2 un cn fi fl pa sh od bd bs r38 h38) q_920 q_922 s_31 q_10 k_MO_reasonByOne hd_MO_reasonByOne ⟨by rw [hR]; decide, by rw [hR]; decide⟩ rfl rfl hX hw hA 0 (ci := 6) rfl rfl hl.1 rfl rfl (Nat.le_of_ble_eq_true rfl) d_MO_fails_38 ⟨Nat.zero_le _, Nat.zero_le _⟩ rfl (fun H locs hw => ?_)
    refine lv_aload_n hx hb d_MO_fails_41 rfl (lv_at hl 0 rfl) ?_
    refine ob h (fun r42 h42 h => ?_)
    refine fw_callV (As := []) (rest := []) (st1 := [.int r42]) S (ct_MO_isEmpty l D ad cI cL N th ki ce wi r38.1 fo cu gr ru nu gv ca r38.2.1 r38.2.2.1 y2.2 r38.2.2.2.1 r38.2.2.2.2 fi fl pa sh od bd bs r42 h42) q_984 q_986 s_47 q_10 k_MO_isEmpty hd_MO_isEmpty ⟨by rw [hR]; decide, by rw [hR]; decide⟩ rfl rfl hX hw hA 0 (ci := 6) rfl rfl hl.1 rfl rfl (Nat.le_of_ble_eq_true rfl) d_MO_fails_42 ⟨Nat.zero_le _, Nat.zero_le _⟩ rfl (fun H locs hw => ?_)
    refine lv_istore_n (lv' := [(3, .int r42), (0, .ref (ad 0)), (1, .int u1), (2, .int u2)]) hx hb d_MO_fails_45 rfl hl (by decide) rfl (fun ls hl => ?_)
    refine lv_iconst (v := 0) hx hb d_MO_fails_46 (by decide) ?_
    refine lv_istore (lv' := [(4, .int (0 : Int32)), (3, .int r42), (0, .ref (ad 0)), (1, .int u1), (2, .int u2)]) hx hb d_MO_fails_47 hl (by decide) rfl (fun ls hl => ?_)
    have X49 : ∀ (y49 : Int32 × (Nat → Int32)), mr_MO_fails_49 y2 r38 r42 y49 = some out → ∀ (ls : Array Slot) (H : Heap) (locs : List Loc), lv_has ls 5 [(3, .int r42)] → fw_H D vwCl A s.heap (wM ad cI cL th ki ce wi r38.1 fo cu gr ru nu gv ca y49.2 r38.2.2.1 y2.2 r38.2.2.2.1 r38.2.2.2.2 fi fl pa sh od bd bs) H locs → W p l e R s m args below meth c H locs 0 0 Q (F0 m 78 ls []) := by
      intro y49 h ls H locs hl hw
      unfold mr_MO_fails_49 at h
      refine lv_iload_n hx hb d_MO_fails_78 rfl (lv_at hl 0 rfl) ?_
      refine oc h (fun hc h => ?_)
      have q := Option.some.inj h
      subst q
      exact fw_zret hQ S hr (fw_nz hc) hlk hX hw d_MO_fails_79
    have L49 : ∀ (n49 : Nat) (x49 : Int32 × (Nat → Int32)) (e49 : Int32 × (Nat → Int32)), lp (mb_MO_fails_49 ce y2) n49 x49 = some e49 → (mr_MO_fails_49 y2 r38 r42) e49 = some out → ∀ (ls : Array Slot) (H : Heap) (locs : List Loc), lv_has ls 5 [(0, .ref (ad 0)), (3, .int r42), (4, .int x49.1)] → fw_H D vwCl A s.heap (wM ad cI cL th ki ce wi r38.1 fo cu gr ru nu gv ca x49.2 r38.2.2.1 y2.2 r38.2.2.2.1 r38.2.2.2.2 fi fl pa sh od bd bs) H locs → W p l e R s m args below meth c H locs 0 0 Q (F0 m 49 ls []) := by
      intro n49
      induction n49 with
      | zero => intro x49 e49 h1; exact absurd h1 lp_0
      | succ n49 ih49 =>
        intro x49 e49 h1 hr49 ls H locs hl hw
        rw [lp_s] at h1
        refine ob h1 (fun r49 h hk49 => ?_)
        unfold mb_MO_fails_49 at h
        refine lv_iload hx hb d_MO_fails_49 (lv_at hl 2 rfl) ?_
        refine lv_aload_n hx hb d_MO_fails_51 rfl (lv_at hl 0 rfl) ?_
        refine va_get (ci := 6) (v := .int ce) (C := R_MO) (T := F_MO) (N := 24) hx hb hg in_MO hown hK hw.1 0 rfl rfl 2 (by decide) (hg _ q_751) (fun _ h9 => h9) rfl d_MO_fails_52 ?_
        refine lv_icmp_ge (tgt := 78) hx hb d_MO_fails_55 (by decide) (fun hc => ?_) (fun hc => ?_)
        · have h := oi h hc
          have q := Option.some.inj h
          subst q
          have q := Option.some.inj hk49
          subst q
          exact X49 (x49.1, x49.2) hr49 _ _ _ (lv_sub hl [1] rfl) hw
        · have h := oe h hc
          refine lv_aload_n hx hb d_MO_fails_58 rfl (lv_at hl 0 rfl) ?_
          refine va_get (ci := 6) (v := .ref (ad 7)) (C := R_MO) (T := F_MO) (N := 24) hx hb hg in_MO hown hK hw.1 0 rfl rfl 10 (by decide) (hg _ q_759) (fun _ h9 => h9) rfl d_MO_fails_59 ?_
          refine lv_iload hx hb d_MO_fails_62 (lv_at hl 2 rfl) ?_
          refine lv_aload_n hx hb d_MO_fails_64 rfl (lv_at hl 0 rfl) ?_
          refine va_get (ci := 6) (v := .ref (ad 9)) (C := R_MO) (T := F_MO) (N := 24) hx hb hg in_MO hown hK hw.1 0 rfl rfl 12 (by decide) (hg _ q_761) (fun _ h9 => h9) rfl d_MO_fails_65 ?_
          refine lv_iload hx hb d_MO_fails_68 (lv_at hl 2 rfl) ?_
          refine oc h (fun hc2 h => ?_)
          refine va_iald hx hb hK hw.1 9 0 rfl rfl hc2 d_MO_fails_70 ?_
          refine va_iast hx hb hK hw.1 hw.2.1 hw.2.2 7 0 rfl rfl hc2 d_MO_fails_71 (fun H locs hP hD hS => ?_)
          have hw : fw_H D vwCl A s.heap (wM ad cI cL th ki ce wi r38.1 fo cu gr ru nu gv ca (upd x49.2 x49.1.toNatClampNeg (y2.2 x49.1.toNatClampNeg)) r38.2.2.1 y2.2 r38.2.2.2.1 r38.2.2.2.2 fi fl pa sh od bd bs) H locs := ⟨hP, hD, hS⟩
          refine lv_iinc (k := 2) (v := x49.1 + 1) (lv' := [(4, .int (x49.1 + 1)), (0, .ref (ad 0)), (3, .int r42)]) hx hb d_MO_fails_72 hl rfl (by rw [lit1]) (by decide) rfl (fun ls hl => ?_)
          refine lv_goto (tgt := 49) hx hb d_MO_fails_75 (by decide) ?_
          have q := Option.some.inj h
          subst q
          exact ih49 (x49.1 + 1, upd x49.2 x49.1.toNatClampNeg (y2.2 x49.1.toNatClampNeg)) e49 hk49 hr49 _ _ _ (lv_sub hl [1, 2, 0] rfl) hw
    refine ob h (fun e49 h1 h2 => ?_)
    exact L49 N ((0 : Int32), r38.2.1) e49 h1 h2 _ _ _ (lv_sub hl [2, 1, 0] rfl) hw
  have L2 : ∀ (n2 : Nat) (x2 : Int32 × (Nat → Int32)) (e2 : Int32 × (Nat → Int32)), lp (mb_MO_fails_2 ce nw) n2 x2 = some e2 → (mr_MO_fails_2 N ki ce wi ma cu gr ru nu nw lo un cn sh bd bs u1 u2) e2 = some out → ∀ (ls : Array Slot) (H : Heap) (locs : List Loc), lv_has ls 5 [(0, .ref (ad 0)), (1, .int u1), (2, .int u2), (3, .int x2.1)] → fw_H D vwCl A s.heap (wM ad cI cL th ki ce wi ma fo cu gr ru nu gv ca nw lo x2.2 un cn fi fl pa sh od bd bs) H locs → W p l e R s m args below meth c H locs 0 0 Q (F0 m 2 ls []) := by
    intro n2
    induction n2 with
    | zero => intro x2 e2 h1; exact absurd h1 lp_0
    | succ n2 ih2 =>
      intro x2 e2 h1 hr2 ls H locs hl hw
      rw [lp_s] at h1
      refine ob h1 (fun r2 h hk2 => ?_)
      unfold mb_MO_fails_2 at h
      refine lv_iload_n hx hb d_MO_fails_2 rfl (lv_at hl 3 rfl) ?_
      refine lv_aload_n hx hb d_MO_fails_3 rfl (lv_at hl 0 rfl) ?_
      refine va_get (ci := 6) (v := .int ce) (C := R_MO) (T := F_MO) (N := 24) hx hb hg in_MO hown hK hw.1 0 rfl rfl 2 (by decide) (hg _ q_751) (fun _ h9 => h9) rfl d_MO_fails_4 ?_
      refine lv_icmp_ge (tgt := 28) hx hb d_MO_fails_7 (by decide) (fun hc => ?_) (fun hc => ?_)
      · have h := oi h hc
        have q := Option.some.inj h
        subst q
        have q := Option.some.inj hk2
        subst q
        exact X2 (x2.1, x2.2) hr2 _ _ _ (lv_sub hl [0, 1, 2] rfl) hw
      · have h := oe h hc
        refine lv_aload_n hx hb d_MO_fails_10 rfl (lv_at hl 0 rfl) ?_
        refine va_get (ci := 6) (v := .ref (ad 9)) (C := R_MO) (T := F_MO) (N := 24) hx hb hg in_MO hown hK hw.1 0 rfl rfl 12 (by decide) (hg _ q_761) (fun _ h9 => h9) rfl d_MO_fails_11 ?_
        refine lv_iload_n hx hb d_MO_fails_14 rfl (lv_at hl 3 rfl) ?_
        refine lv_aload_n hx hb d_MO_fails_15 rfl (lv_at hl 0 rfl) ?_
        refine va_get (ci := 6) (v := .ref (ad 7)) (C := R_MO) (T := F_MO) (N := 24) hx hb hg in_MO hown hK hw.1 0 rfl rfl 10 (by decide) (hg _ q_759) (fun _ h9 => h9) rfl d_MO_fails_16 ?_
        refine lv_iload_n hx hb d_MO_fails_19 rfl (lv_at hl 3 rfl) ?_
        refine oc h (fun hc3 h => ?_)
        refine va_iald hx hb hK hw.1 7 0 rfl rfl hc3 d_MO_fails_20 ?_
        refine va_iast hx hb hK hw.1 hw.2.1 hw.2.2 9 0 rfl rfl hc3 d_MO_fails_21 (fun H locs hP hD hS => ?_)
        have hw : fw_H D vwCl A s.heap (wM ad cI cL th ki ce wi ma fo cu gr ru nu gv ca nw lo (upd x2.2 x2.1.toNatClampNeg (nw x2.1.toNatClampNeg)) un cn fi fl pa sh od bd bs) H locs := ⟨hP, hD, hS⟩
        refine lv_iinc (k := 3) (v := x2.1 + 1) (lv' := [(3, .int (x2.1 + 1)), (0, .ref (ad 0)), (1, .int u1), (2, .int u2)]) hx hb d_MO_fails_22 hl rfl (by rw [lit1]) (by decide) rfl (fun ls hl => ?_)
        refine lv_goto (tgt := 2) hx hb d_MO_fails_25 (by decide) ?_
        have q := Option.some.inj h
        subst q
        exact ih2 (x2.1 + 1, upd x2.2 x2.1.toNatClampNeg (nw x2.1.toNatClampNeg)) e2 hk2 hr2 _ _ _ (lv_sub hl [1, 2, 3, 0] rfl) hw
  refine ob h (fun e2 h1 h2 => ?_)
  exact L2 N ((0 : Int32), ke) e2 h1 h2 _ _ _ (lv_sub hl [1, 2, 3, 0] rfl) hw
set_option maxHeartbeats 4000000 in
set_option maxRecDepth 100000 in
theorem ct_MO_reasonByBoth (l : Launch) (D : va_G) (ad : Nat → Nat) (cI cL : ClassId) (N : Nat) (th : Int32) (ki : Int32) (ce : Int32) (wi : Int32) (ma : Int32) (fo : Int32) (cu : Nat → Int32) (gr : Nat → Int32) (ru : Nat → Int32) (nu : Nat → Int32) (gv : Nat → Int32) (ca : Nat → Int32) (nw : Nat → Int32) (lo : Nat → Int32) (ke : Nat → Int32) (un : Nat → Int32) (cn : Nat → Int32) (fi : Nat → Int32) (fl : Nat → Int32) (pa : Nat → Int32) (sh : Nat → Int32) (od : Nat → Int32) (bd : Nat → Int32) (bs : Nat → Int32)  (out : Int32 × (Nat → Int32) × (Nat → Int32) × (Nat → Int32) × (Nat → Int32) × (Nat → Int32)) (h : mi_MO_reasonByBoth N ki ce wi ma cu gr ru nu nw lo ke un cn sh bd bs = some out) : fw_C l y_MO_reasonByBoth (.code y_MO_reasonByBoth b_MO_reasonByBoth 4 (none) :: Gw) (fr 6 138) D vwCl (tyA cI cL) [.ref (ad 0)] (wM ad cI cL th ki ce wi ma fo cu gr ru nu gv ca nw lo ke un cn fi fl pa sh od bd bs) none (wM ad cI cL th ki ce wi out.1 fo cu gr ru nu gv ca out.2.1 out.2.2.1 out.2.2.2.1 out.2.2.2.2.1 out.2.2.2.2.2 fi fl pa sh od bd bs) := by
  refine fw_of (by decide) (Nat.le_of_ble_eq_true rfl) ?_
  intro p e s m args below meth c ls A R Q hR hQ S hr hlk hX hA hl hw
  have hK := hX.1
  have hx := S.1
  have hb := S.2.1
  have hown := S.2.2.2.1
  have hg := S.2.2.2.2
  have hl : lv_has ls 4 [(0, .ref (ad 0))] := hl
  unfold mi_MO_reasonByBoth at h
  refine lv_iconst (v := 1) hx hb d_MO_reasonByBoth_0 (by decide) ?_
  refine lv_istore_n (lv' := [(1, .int (1 : Int32)), (0, .ref (ad 0))]) hx hb d_MO_reasonByBoth_1 rfl hl (by decide) rfl (fun ls hl => ?_)
  refine lv_aload_n hx hb d_MO_reasonByBoth_2 rfl (lv_at hl 1 rfl) ?_
  refine ob h (fun r3 h3 h => ?_)
  refine fw_callV (As := []) (rest := []) (st1 := []) S (ct_MO_reasonByOne l D ad cI cL N th ki ce wi ma fo cu gr ru nu gv ca nw lo ke un cn fi fl pa sh od bd bs r3 h3) q_920 q_922 s_31 q_10 k_MO_reasonByOne hd_MO_reasonByOne ⟨by rw [hR]; decide, by rw [hR]; decide⟩ rfl rfl hX hw hA 0 (ci := 6) rfl rfl hl.1 rfl rfl (Nat.le_of_ble_eq_true rfl) d_MO_reasonByBoth_3 ⟨Nat.zero_le _, Nat.zero_le _⟩ rfl (fun H locs hw => ?_)
  have X6 : ∀ (y6 : Int32 × Int32 × (Nat → Int32) × (Nat → Int32) × (Nat → Int32) × (Nat → Int32) × (Nat → Int32)), mr_MO_reasonByBoth_6 y6 = some out → ∀ (ls : Array Slot) (H : Heap) (locs : List Loc), lv_has ls 4 [] → fw_H D vwCl A s.heap (wM ad cI cL th ki ce wi y6.2.1 fo cu gr ru nu gv ca y6.2.2.1 y6.2.2.2.1 y6.2.2.2.2.1 y6.2.2.2.2.2.1 y6.2.2.2.2.2.2 fi fl pa sh od bd bs) H locs → W p l e R s m args below meth c H locs 0 0 Q (F0 m 87 ls []) := by
    intro y6 h ls H locs hl hw
    unfold mr_MO_reasonByBoth_6 at h
    have q := Option.some.inj h
    subst q
    exact fw_vret hQ S hr hlk hX hw d_MO_reasonByBoth_87
  have L6 : ∀ (n6 : Nat) (x6 : Int32 × Int32 × (Nat → Int32) × (Nat → Int32) × (Nat → Int32) × (Nat → Int32) × (Nat → Int32)) (e6 : Int32 × Int32 × (Nat → Int32) × (Nat → Int32) × (Nat → Int32) × (Nat → Int32) × (Nat → Int32)), lp (mb_MO_reasonByBoth_6 N ki ce wi cu gr ru nu sh bd bs) n6 x6 = some e6 → (mr_MO_reasonByBoth_6) e6 = some out → ∀ (ls : Array Slot) (H : Heap) (locs : List Loc), lv_has ls 4 [(0, .ref (ad 0)), (1, .int x6.1)] → fw_H D vwCl A s.heap (wM ad cI cL th ki ce wi x6.2.1 fo cu gr ru nu gv ca x6.2.2.1 x6.2.2.2.1 x6.2.2.2.2.1 x6.2.2.2.2.2.1 x6.2.2.2.2.2.2 fi fl pa sh od bd bs) H locs → W p l e R s m args below meth c H locs 0 0 Q (F0 m 6 ls []) := by
    intro n6
    induction n6 with
    | zero => intro x6 e6 h1; exact absurd h1 lp_0
    | succ n6 ih6 =>
      intro x6 e6 h1 hr6 ls H locs hl hw
      rw [lp_s] at h1
      refine ob h1 (fun r6 h hk6 => ?_)
      unfold mb_MO_reasonByBoth_6 at h
      refine lv_iload_n hx hb d_MO_reasonByBoth_6 rfl (lv_at hl 1 rfl) ?_
      refine lv_if_eq (tgt := 87) hx hb d_MO_reasonByBoth_7 (by decide) (fun hc => ?_) (fun hc => ?_)
      · have h := oi h hc
        have q := Option.some.inj h
        subst q
        have q := Option.some.inj hk6
        subst q
        exact X6 (x6.1, x6.2.1, x6.2.2.1, x6.2.2.2.1, x6.2.2.2.2.1, x6.2.2.2.2.2.1, x6.2.2.2.2.2.2) hr6 _ _ _ (lv_sub hl [] rfl) hw
      · have h := oe h hc
        refine lv_iconst (v := 0) hx hb d_MO_reasonByBoth_10 (by decide) ?_
        refine lv_istore_n (lv' := [(1, .int (0 : Int32)), (0, .ref (ad 0))]) hx hb d_MO_reasonByBoth_11 rfl hl (by decide) rfl (fun ls hl => ?_)
        refine lv_iconst (v := 0) hx hb d_MO_reasonByBoth_12 (by decide) ?_
        refine lv_istore_n (lv' := [(2, .int (0 : Int32)), (1, .int (0 : Int32)), (0, .ref (ad 0))]) hx hb d_MO_reasonByBoth_13 rfl hl (by decide) rfl (fun ls hl => ?_)
        have X14 : ∀ (y14 : Int32 × Int32 × Int32 × (Nat → Int32) × (Nat → Int32) × (Nat → Int32) × (Nat → Int32) × (Nat → Int32)), mr_MO_reasonByBoth_14 y14 = some r6 → ∀ (ls : Array Slot) (H : Heap) (locs : List Loc), lv_has ls 4 [(0, .ref (ad 0)), (1, .int y14.1)] → fw_H D vwCl A s.heap (wM ad cI cL th ki ce wi y14.2.2.1 fo cu gr ru nu gv ca y14.2.2.2.1 y14.2.2.2.2.1 y14.2.2.2.2.2.1 y14.2.2.2.2.2.2.1 y14.2.2.2.2.2.2.2 fi fl pa sh od bd bs) H locs → W p l e R s m args below meth c H locs 0 0 Q (F0 m 84 ls []) := by
          intro y14 h ls H locs hl hw
          unfold mr_MO_reasonByBoth_14 at h
          refine lv_goto (tgt := 6) hx hb d_MO_reasonByBoth_84 (by decide) ?_
          have q := Option.some.inj h
          subst q
          exact ih6 (y14.1, y14.2.2.1, y14.2.2.2.1, y14.2.2.2.2.1, y14.2.2.2.2.2.1, y14.2.2.2.2.2.2.1, y14.2.2.2.2.2.2.2) e6 hk6 hr6 _ _ _ hl hw
        have L14 : ∀ (n14 : Nat) (x14 : Int32 × Int32 × Int32 × (Nat → Int32) × (Nat → Int32) × (Nat → Int32) × (Nat → Int32) × (Nat → Int32)) (e14 : Int32 × Int32 × Int32 × (Nat → Int32) × (Nat → Int32) × (Nat → Int32) × (Nat → Int32) × (Nat → Int32)), lp (mb_MO_reasonByBoth_14 N ki ce wi cu gr ru nu sh bd bs) n14 x14 = some e14 → (mr_MO_reasonByBoth_14) e14 = some r6 → ∀ (ls : Array Slot) (H : Heap) (locs : List Loc), lv_has ls 4 [(0, .ref (ad 0)), (1, .int x14.1), (2, .int x14.2.1)] → fw_H D vwCl A s.heap (wM ad cI cL th ki ce wi x14.2.2.1 fo cu gr ru nu gv ca x14.2.2.2.1 x14.2.2.2.2.1 x14.2.2.2.2.2.1 x14.2.2.2.2.2.2.1 x14.2.2.2.2.2.2.2 fi fl pa sh od bd bs) H locs → W p l e R s m args below meth c H locs 0 0 Q (F0 m 14 ls []) := by
          intro n14
          induction n14 with
          | zero => intro x14 e14 h1; exact absurd h1 lp_0
          | succ n14 ih14 =>
            intro x14 e14 h1 hr14 ls H locs hl hw
            rw [lp_s] at h1
            refine ob h1 (fun r14 h hk14 => ?_)
            unfold mb_MO_reasonByBoth_14 at h
            refine lv_iload_n hx hb d_MO_reasonByBoth_14 rfl (lv_at hl 2 rfl) ?_
            refine lv_aload_n hx hb d_MO_reasonByBoth_15 rfl (lv_at hl 0 rfl) ?_
            refine va_get (ci := 6) (v := .int ce) (C := R_MO) (T := F_MO) (N := 24) hx hb hg in_MO hown hK hw.1 0 rfl rfl 2 (by decide) (hg _ q_751) (fun _ h9 => h9) rfl d_MO_reasonByBoth_16 ?_
            refine lv_icmp_ge (tgt := 84) hx hb d_MO_reasonByBoth_19 (by decide) (fun hc => ?_) (fun hc => ?_)
            · have h := oi h hc
              have q := Option.some.inj h
              subst q
              have q := Option.some.inj hk14
              subst q
              exact X14 (x14.1, x14.2.1, x14.2.2.1, x14.2.2.2.1, x14.2.2.2.2.1, x14.2.2.2.2.2.1, x14.2.2.2.2.2.2.1, x14.2.2.2.2.2.2.2) hr14 _ _ _ (lv_sub hl [0, 1] rfl) hw
            · have h := oe h hc
              refine lv_iconst (v := 0) hx hb d_MO_reasonByBoth_22 (by decide) ?_
              refine lv_istore_n (lv' := [(3, .int (0 : Int32)), (0, .ref (ad 0)), (1, .int x14.1), (2, .int x14.2.1)]) hx hb d_MO_reasonByBoth_23 rfl hl (by decide) rfl (fun ls hl => ?_)
              have X24 : ∀ (y24 : Int32 × Int32 × Int32 × (Nat → Int32) × (Nat → Int32) × (Nat → Int32) × (Nat → Int32) × (Nat → Int32)), mr_MO_reasonByBoth_24 x14 y24 = some r14 → ∀ (ls : Array Slot) (H : Heap) (locs : List Loc), lv_has ls 4 [(0, .ref (ad 0)), (1, .int y24.1), (2, .int x14.2.1)] → fw_H D vwCl A s.heap (wM ad cI cL th ki ce wi y24.2.2.1 fo cu gr ru nu gv ca y24.2.2.2.1 y24.2.2.2.2.1 y24.2.2.2.2.2.1 y24.2.2.2.2.2.2.1 y24.2.2.2.2.2.2.2 fi fl pa sh od bd bs) H locs → W p l e R s m args below meth c H locs 0 0 Q (F0 m 78 ls []) := by
                intro y24 h ls H locs hl hw
                unfold mr_MO_reasonByBoth_24 at h
                refine lv_iinc (k := 2) (v := x14.2.1 + 1) (lv' := [(2, .int (x14.2.1 + 1)), (0, .ref (ad 0)), (1, .int y24.1)]) hx hb d_MO_reasonByBoth_78 hl rfl (by rw [lit1]) (by decide) rfl (fun ls hl => ?_)
                refine lv_goto (tgt := 14) hx hb d_MO_reasonByBoth_81 (by decide) ?_
                have q := Option.some.inj h
                subst q
                exact ih14 (y24.1, x14.2.1 + 1, y24.2.2.1, y24.2.2.2.1, y24.2.2.2.2.1, y24.2.2.2.2.2.1, y24.2.2.2.2.2.2.1, y24.2.2.2.2.2.2.2) e14 hk14 hr14 _ _ _ (lv_sub hl [1, 2, 0] rfl) hw
              have L24 : ∀ (n24 : Nat) (x24 : Int32 × Int32 × Int32 × (Nat → Int32) × (Nat → Int32) × (Nat → Int32) × (Nat → Int32) × (Nat → Int32)) (e24 : Int32 × Int32 × Int32 × (Nat → Int32) × (Nat → Int32) × (Nat → Int32) × (Nat → Int32) × (Nat → Int32)), lp (mb_MO_reasonByBoth_24 N ki ce wi cu gr ru nu sh bd bs x14) n24 x24 = some e24 → (mr_MO_reasonByBoth_24 x14) e24 = some r14 → ∀ (ls : Array Slot) (H : Heap) (locs : List Loc), lv_has ls 4 [(0, .ref (ad 0)), (1, .int x24.1), (2, .int x14.2.1), (3, .int x24.2.1)] → fw_H D vwCl A s.heap (wM ad cI cL th ki ce wi x24.2.2.1 fo cu gr ru nu gv ca x24.2.2.2.1 x24.2.2.2.2.1 x24.2.2.2.2.2.1 x24.2.2.2.2.2.2.1 x24.2.2.2.2.2.2.2 fi fl pa sh od bd bs) H locs → W p l e R s m args below meth c H locs 0 0 Q (F0 m 24 ls []) := by
                intro n24
                induction n24 with
                | zero => intro x24 e24 h1; exact absurd h1 lp_0
                | succ n24 ih24 =>
                  intro x24 e24 h1 hr24 ls H locs hl hw
                  rw [lp_s] at h1
                  refine ob h1 (fun r24 h hk24 => ?_)
                  unfold mb_MO_reasonByBoth_24 at h
                  refine lv_iload_n hx hb d_MO_reasonByBoth_24 rfl (lv_at hl 3 rfl) ?_
                  refine lv_iconst (v := 5) hx hb d_MO_reasonByBoth_25 (by decide) ?_
                  refine lv_icmp_ge (tgt := 78) hx hb d_MO_reasonByBoth_26 (by decide) (fun hc => ?_) (fun hc => ?_)
                  · have h := oi h hc
                    have q := Option.some.inj h
                    subst q
                    have q := Option.some.inj hk24
                    subst q
                    exact X24 (x24.1, x24.2.1, x24.2.2.1, x24.2.2.2.1, x24.2.2.2.2.1, x24.2.2.2.2.2.1, x24.2.2.2.2.2.2.1, x24.2.2.2.2.2.2.2) hr24 _ _ _ (lv_sub hl [0, 1, 2] rfl) hw
                  · have h := oe h hc
                    refine lv_aload_n hx hb d_MO_reasonByBoth_29 rfl (lv_at hl 0 rfl) ?_
                    refine va_get (ci := 6) (v := .ref (ad 7)) (C := R_MO) (T := F_MO) (N := 24) hx hb hg in_MO hown hK hw.1 0 rfl rfl 10 (by decide) (hg _ q_759) (fun _ h9 => h9) rfl d_MO_reasonByBoth_30 ?_
                    refine lv_iload_n hx hb d_MO_reasonByBoth_33 rfl (lv_at hl 2 rfl) ?_
                    refine oc h (fun hc1 h => ?_)
                    refine va_iald hx hb hK hw.1 7 0 rfl rfl hc1 d_MO_reasonByBoth_34 ?_
                    refine lv_iload_n hx hb d_MO_reasonByBoth_35 rfl (lv_at hl 3 rfl) ?_
                    refine lv_ishr hx hb d_MO_reasonByBoth_36 ?_
                    refine lv_iconst (v := 1) hx hb d_MO_reasonByBoth_37 (by decide) ?_
                    refine lv_iand hx hb d_MO_reasonByBoth_38 ?_
                    refine lv_iconst (v := 1) hx hb d_MO_reasonByBoth_39 (by decide) ?_
                    refine lv_icmp_ne (tgt := 72) hx hb d_MO_reasonByBoth_40 (by decide) (fun hc => ?_) (fun hc => ?_)
                    · have h := oe h hc
                      refine lv_iinc (k := 3) (v := x24.2.1 + 1) (lv' := [(3, .int (x24.2.1 + 1)), (0, .ref (ad 0)), (1, .int x24.1), (2, .int x14.2.1)]) hx hb d_MO_reasonByBoth_72 hl rfl (by rw [lit1]) (by decide) rfl (fun ls hl => ?_)
                      refine lv_goto (tgt := 24) hx hb d_MO_reasonByBoth_75 (by decide) ?_
                      have q := Option.some.inj h
                      subst q
                      exact ih24 (x24.1, x24.2.1 + 1, x24.2.2.1, x24.2.2.2.1, x24.2.2.2.2.1, x24.2.2.2.2.2.1, x24.2.2.2.2.2.2.1, x24.2.2.2.2.2.2.2) e24 hk24 hr24 _ _ _ (lv_sub hl [1, 2, 3, 0] rfl) hw
                    · have h := oi h hc
                      refine lv_aload_n hx hb d_MO_reasonByBoth_43 rfl (lv_at hl 0 rfl) ?_
                      refine lv_iload_n hx hb d_MO_reasonByBoth_44 rfl (lv_at hl 2 rfl) ?_
                      refine lv_iload_n hx hb d_MO_reasonByBoth_45 rfl (lv_at hl 3 rfl) ?_
                      refine ob h (fun r46 h46 h => ?_)
                      refine fw_callV (As := [.int x14.2.1, .int x24.2.1]) (rest := []) (st1 := [.int r46.1]) S (ct_MO_fails l D ad cI cL N th ki ce wi x24.2.2.1 fo cu gr ru nu gv ca x24.2.2.2.1 x24.2.2.2.2.1 x24.2.2.2.2.2.1 x24.2.2.2.2.2.2.1 x24.2.2.2.2.2.2.2 fi fl pa sh od bd bs x14.2.1 x24.2.1 r46 h46) q_980 q_982 s_46 q_10 k_MO_fails hd_MO_fails ⟨by rw [hR]; decide, by rw [hR]; decide⟩ rfl rfl hX hw hA 0 (ci := 6) rfl rfl hl.1 rfl rfl (Nat.le_of_ble_eq_true rfl) d_MO_reasonByBoth_46 ⟨Nat.zero_le _, Nat.zero_le _⟩ rfl (fun H locs hw => ?_)
                      refine lv_if_eq (tgt := 72) hx hb d_MO_reasonByBoth_49 (by decide) (fun hc => ?_) (fun hc => ?_)
                      · have h := oi h hc
                        refine lv_iinc (k := 3) (v := x24.2.1 + 1) (lv' := [(3, .int (x24.2.1 + 1)), (0, .ref (ad 0)), (1, .int x24.1), (2, .int x14.2.1)]) hx hb d_MO_reasonByBoth_72 hl rfl (by rw [lit1]) (by decide) rfl (fun ls hl => ?_)
                        refine lv_goto (tgt := 24) hx hb d_MO_reasonByBoth_75 (by decide) ?_
                        have q := Option.some.inj h
                        subst q
                        exact ih24 (x24.1, x24.2.1 + 1, r46.2.1, r46.2.2.1, r46.2.2.2.1, r46.2.2.2.2.1, r46.2.2.2.2.2.1, r46.2.2.2.2.2.2) e24 hk24 hr24 _ _ _ (lv_sub hl [1, 2, 3, 0] rfl) hw
                      · have h := oe h hc
                        refine lv_aload_n hx hb d_MO_reasonByBoth_52 rfl (lv_at hl 0 rfl) ?_
                        refine va_get (ci := 6) (v := .ref (ad 7)) (C := R_MO) (T := F_MO) (N := 24) hx hb hg in_MO hown hK hw.1 0 rfl rfl 10 (by decide) (hg _ q_759) (fun _ h9 => h9) rfl d_MO_reasonByBoth_53 ?_
                        refine lv_iload_n hx hb d_MO_reasonByBoth_56 rfl (lv_at hl 2 rfl) ?_
                        refine lv_dup2_11 hx hb d_MO_reasonByBoth_57 rfl rfl ?_
                        refine va_iald hx hb hK hw.1 7 0 rfl rfl hc1 d_MO_reasonByBoth_58 ?_
                        refine lv_iconst (v := 1) hx hb d_MO_reasonByBoth_59 (by decide) ?_
                        refine lv_iload_n hx hb d_MO_reasonByBoth_60 rfl (lv_at hl 3 rfl) ?_
                        refine lv_ishl hx hb d_MO_reasonByBoth_61 ?_
                        refine lv_iconst (v := (-1)) hx hb d_MO_reasonByBoth_62 (by decide) ?_
                        refine lv_ixor hx hb d_MO_reasonByBoth_63 ?_
                        refine lv_iand hx hb d_MO_reasonByBoth_64 ?_
                        refine va_iast hx hb hK hw.1 hw.2.1 hw.2.2 7 0 rfl rfl hc1 d_MO_reasonByBoth_65 (fun H locs hP hD hS => ?_)
                        have hw : fw_H D vwCl A s.heap (wM ad cI cL th ki ce wi r46.2.1 fo cu gr ru nu gv ca (upd r46.2.2.1 x14.2.1.toNatClampNeg ((r46.2.2.1 x14.2.1.toNatClampNeg) &&& (((1 : Int32) <<< (x24.2.1 &&& 31)) ^^^ (-1 : Int32)))) r46.2.2.2.1 r46.2.2.2.2.1 r46.2.2.2.2.2.1 r46.2.2.2.2.2.2 fi fl pa sh od bd bs) H locs := ⟨hP, hD, hS⟩
                        refine lv_aload_n hx hb d_MO_reasonByBoth_66 rfl (lv_at hl 0 rfl) ?_
                        refine ob h (fun r67 h67 h => ?_)
                        refine fw_callV (As := []) (rest := []) (st1 := []) S (ct_MO_reasonByOne l D ad cI cL N th ki ce wi r46.2.1 fo cu gr ru nu gv ca (upd r46.2.2.1 x14.2.1.toNatClampNeg ((r46.2.2.1 x14.2.1.toNatClampNeg) &&& (((1 : Int32) <<< (x24.2.1 &&& 31)) ^^^ (-1 : Int32)))) r46.2.2.2.1 r46.2.2.2.2.1 r46.2.2.2.2.2.1 r46.2.2.2.2.2.2 fi fl pa sh od bd bs r67 h67) q_920 q_922 s_31 q_10 k_MO_reasonByOne hd_MO_reasonByOne ⟨by rw [hR]; decide, by rw [hR]; decide⟩ rfl rfl hX hw hA 0 (ci := 6) rfl rfl hl.1 rfl rfl (Nat.le_of_ble_eq_true rfl) d_MO_reasonByBoth_67 ⟨Nat.zero_le _, Nat.zero_le _⟩ rfl (fun H locs hw => ?_)
                        refine lv_iconst (v := 1) hx hb d_MO_reasonByBoth_70 (by decide) ?_
                        refine lv_istore_n (lv' := [(1, .int (1 : Int32)), (0, .ref (ad 0)), (2, .int x14.2.1), (3, .int x24.2.1)]) hx hb d_MO_reasonByBoth_71 rfl hl (by decide) rfl (fun ls hl => ?_)
                        refine lv_iinc (k := 3) (v := x24.2.1 + 1) (lv' := [(3, .int (x24.2.1 + 1)), (1, .int (1 : Int32)), (0, .ref (ad 0)), (2, .int x14.2.1)]) hx hb d_MO_reasonByBoth_72 hl rfl (by rw [lit1]) (by decide) rfl (fun ls hl => ?_)
                        refine lv_goto (tgt := 24) hx hb d_MO_reasonByBoth_75 (by decide) ?_
                        have q := Option.some.inj h
                        subst q
                        exact ih24 ((1 : Int32), x24.2.1 + 1, r67.1, r67.2.1, r67.2.2.1, r46.2.2.2.2.1, r67.2.2.2.1, r67.2.2.2.2) e24 hk24 hr24 _ _ _ (lv_sub hl [2, 1, 3, 0] rfl) hw
              refine ob h (fun e24 h1 h2 => ?_)
              exact L24 N (x14.1, (0 : Int32), x14.2.2.1, x14.2.2.2.1, x14.2.2.2.2.1, x14.2.2.2.2.2.1, x14.2.2.2.2.2.2.1, x14.2.2.2.2.2.2.2) e24 h1 h2 _ _ _ (lv_sub hl [1, 2, 3, 0] rfl) hw
        refine ob h (fun e14 h1 h2 => ?_)
        exact L14 N ((0 : Int32), (0 : Int32), x6.2.1, x6.2.2.1, x6.2.2.2.1, x6.2.2.2.2.1, x6.2.2.2.2.2.1, x6.2.2.2.2.2.2) e14 h1 h2 _ _ _ (lv_sub hl [2, 1, 0] rfl) hw
  refine ob h (fun e6 h1 h2 => ?_)
  exact L6 N ((1 : Int32), r3.1, r3.2.1, r3.2.2.1, ke, r3.2.2.2.1, r3.2.2.2.2) e6 h1 h2 _ _ _ (lv_sub hl [1, 0] rfl) hw
