theorem d_UN_dropAll_0 : decode b_UN_dropAll 0 = .ok (.aload_n 0, 1) := by decide +kernel
theorem d_UN_dropAll_1 : decode b_UN_dropAll 1 = .ok (.iconst 0, 1) := by decide +kernel
theorem d_UN_dropAll_2 : decode b_UN_dropAll 2 = .ok (.putfield 22, 3) := by decide +kernel
theorem d_UN_dropAll_5 : decode b_UN_dropAll 5 = .ok (.aload_n 0, 1) := by decide +kernel
theorem d_UN_dropAll_6 : decode b_UN_dropAll 6 = .ok (.iconst 0, 1) := by decide +kernel
theorem d_UN_dropAll_7 : decode b_UN_dropAll 7 = .ok (.putfield 26, 3) := by decide +kernel
theorem d_UN_dropAll_10 : decode b_UN_dropAll 10 = .ok (.return_, 1) := by decide +kernel
theorem d_UN_fixAll_0 : decode b_UN_fixAll 0 = .ok (.aload_n 0, 1) := by decide +kernel
theorem d_UN_fixAll_1 : decode b_UN_fixAll 1 = .ok (.aload_n 0, 1) := by decide +kernel
theorem d_UN_fixAll_2 : decode b_UN_fixAll 2 = .ok (.getfield 22, 3) := by decide +kernel
theorem d_UN_fixAll_5 : decode b_UN_fixAll 5 = .ok (.putfield 26, 3) := by decide +kernel
theorem d_UN_fixAll_8 : decode b_UN_fixAll 8 = .ok (.return_, 1) := by decide +kernel
theorem d_UN_dropUnfixed_0 : decode b_UN_dropUnfixed 0 = .ok (.aload_n 0, 1) := by decide +kernel
theorem d_UN_dropUnfixed_1 : decode b_UN_dropUnfixed 1 = .ok (.aload_n 0, 1) := by decide +kernel
theorem d_UN_dropUnfixed_2 : decode b_UN_dropUnfixed 2 = .ok (.getfield 26, 3) := by decide +kernel
theorem d_UN_dropUnfixed_5 : decode b_UN_dropUnfixed 5 = .ok (.putfield 22, 3) := by decide +kernel
theorem d_UN_dropUnfixed_8 : decode b_UN_dropUnfixed 8 = .ok (.return_, 1) := by decide +kernel
theorem d_UN_begin_0 : decode b_UN_begin 0 = .ok (.aload_n 0, 1) := by decide +kernel
theorem d_UN_begin_1 : decode b_UN_begin 1 = .ok (.getfield 22, 3) := by decide +kernel
theorem d_UN_begin_4 : decode b_UN_begin 4 = .ok (.bipush 87, 2) := by decide +kernel
theorem d_UN_begin_6 : decode b_UN_begin 6 = .ok (.if_icmp .ge 43, 3) := by decide +kernel
theorem d_UN_begin_9 : decode b_UN_begin 9 = .ok (.aload_n 0, 1) := by decide +kernel
theorem d_UN_begin_10 : decode b_UN_begin 10 = .ok (.getfield 11, 3) := by decide +kernel
theorem d_UN_begin_13 : decode b_UN_begin 13 = .ok (.aload_n 0, 1) := by decide +kernel
theorem d_UN_begin_14 : decode b_UN_begin 14 = .ok (.getfield 22, 3) := by decide +kernel
theorem d_UN_begin_17 : decode b_UN_begin 17 = .ok (.lload_n 1, 1) := by decide +kernel
theorem d_UN_begin_18 : decode b_UN_begin 18 = .ok (.lastore, 1) := by decide +kernel
theorem d_UN_begin_19 : decode b_UN_begin 19 = .ok (.aload_n 0, 1) := by decide +kernel
theorem d_UN_begin_20 : decode b_UN_begin 20 = .ok (.dup, 1) := by decide +kernel
theorem d_UN_begin_21 : decode b_UN_begin 21 = .ok (.getfield 22, 3) := by decide +kernel
theorem d_UN_begin_24 : decode b_UN_begin 24 = .ok (.iconst 1, 1) := by decide +kernel
theorem d_UN_begin_25 : decode b_UN_begin 25 = .ok (.iadd, 1) := by decide +kernel
theorem d_UN_begin_26 : decode b_UN_begin 26 = .ok (.putfield 22, 3) := by decide +kernel
theorem d_UN_begin_29 : decode b_UN_begin 29 = .ok (.aload_n 0, 1) := by decide +kernel
theorem d_UN_begin_30 : decode b_UN_begin 30 = .ok (.getfield 15, 3) := by decide +kernel
theorem d_UN_begin_33 : decode b_UN_begin 33 = .ok (.aload_n 0, 1) := by decide +kernel
theorem d_UN_begin_34 : decode b_UN_begin 34 = .ok (.getfield 22, 3) := by decide +kernel
theorem d_UN_begin_37 : decode b_UN_begin 37 = .ok (.aload_n 0, 1) := by decide +kernel
theorem d_UN_begin_38 : decode b_UN_begin 38 = .ok (.getfield 15, 3) := by decide +kernel
theorem d_UN_begin_41 : decode b_UN_begin 41 = .ok (.aload_n 0, 1) := by decide +kernel
theorem d_UN_begin_42 : decode b_UN_begin 42 = .ok (.getfield 22, 3) := by decide +kernel
theorem d_UN_begin_45 : decode b_UN_begin 45 = .ok (.iconst 1, 1) := by decide +kernel
theorem d_UN_begin_46 : decode b_UN_begin 46 = .ok (.isub, 1) := by decide +kernel
theorem d_UN_begin_47 : decode b_UN_begin 47 = .ok (.iaload, 1) := by decide +kernel
theorem d_UN_begin_48 : decode b_UN_begin 48 = .ok (.iastore, 1) := by decide +kernel
theorem d_UN_begin_49 : decode b_UN_begin 49 = .ok (.return_, 1) := by decide +kernel
theorem d_UN_addWay_0 : decode b_UN_addWay 0 = .ok (.aload_n 0, 1) := by decide +kernel
theorem d_UN_addWay_1 : decode b_UN_addWay 1 = .ok (.getfield 15, 3) := by decide +kernel
theorem d_UN_addWay_4 : decode b_UN_addWay 4 = .ok (.aload_n 0, 1) := by decide +kernel
theorem d_UN_addWay_5 : decode b_UN_addWay 5 = .ok (.getfield 22, 3) := by decide +kernel
theorem d_UN_addWay_8 : decode b_UN_addWay 8 = .ok (.iaload, 1) := by decide +kernel
theorem d_UN_addWay_9 : decode b_UN_addWay 9 = .ok (.istore_n 3, 1) := by decide +kernel
theorem d_UN_addWay_10 : decode b_UN_addWay 10 = .ok (.aload_n 0, 1) := by decide +kernel
theorem d_UN_addWay_11 : decode b_UN_addWay 11 = .ok (.getfield 22, 3) := by decide +kernel
theorem d_UN_addWay_14 : decode b_UN_addWay 14 = .ok (.ifCond .le 29, 3) := by decide +kernel
theorem d_UN_addWay_17 : decode b_UN_addWay 17 = .ok (.iload_n 3, 1) := by decide +kernel
theorem d_UN_addWay_18 : decode b_UN_addWay 18 = .ok (.sipush 326, 3) := by decide +kernel
theorem d_UN_addWay_21 : decode b_UN_addWay 21 = .ok (.if_icmp .ge 22, 3) := by decide +kernel
theorem d_UN_addWay_24 : decode b_UN_addWay 24 = .ok (.aload_n 0, 1) := by decide +kernel
theorem d_UN_addWay_25 : decode b_UN_addWay 25 = .ok (.getfield 19, 3) := by decide +kernel
theorem d_UN_addWay_28 : decode b_UN_addWay 28 = .ok (.iload_n 3, 1) := by decide +kernel
theorem d_UN_addWay_29 : decode b_UN_addWay 29 = .ok (.lload_n 1, 1) := by decide +kernel
theorem d_UN_addWay_30 : decode b_UN_addWay 30 = .ok (.lastore, 1) := by decide +kernel
theorem d_UN_addWay_31 : decode b_UN_addWay 31 = .ok (.aload_n 0, 1) := by decide +kernel
theorem d_UN_addWay_32 : decode b_UN_addWay 32 = .ok (.getfield 15, 3) := by decide +kernel
theorem d_UN_addWay_35 : decode b_UN_addWay 35 = .ok (.aload_n 0, 1) := by decide +kernel
theorem d_UN_addWay_36 : decode b_UN_addWay 36 = .ok (.getfield 22, 3) := by decide +kernel
theorem d_UN_addWay_39 : decode b_UN_addWay 39 = .ok (.iload_n 3, 1) := by decide +kernel
theorem d_UN_addWay_40 : decode b_UN_addWay 40 = .ok (.iconst 1, 1) := by decide +kernel
theorem d_UN_addWay_41 : decode b_UN_addWay 41 = .ok (.iadd, 1) := by decide +kernel
theorem d_UN_addWay_42 : decode b_UN_addWay 42 = .ok (.iastore, 1) := by decide +kernel
theorem d_UN_addWay_43 : decode b_UN_addWay 43 = .ok (.return_, 1) := by decide +kernel
theorem d_UN_haveWays_0 : decode b_UN_haveWays 0 = .ok (.iconst 0, 1) := by decide +kernel
theorem d_UN_haveWays_1 : decode b_UN_haveWays 1 = .ok (.istore_n 1, 1) := by decide +kernel
theorem d_UN_haveWays_2 : decode b_UN_haveWays 2 = .ok (.iload_n 1, 1) := by decide +kernel
theorem d_UN_haveWays_3 : decode b_UN_haveWays 3 = .ok (.aload_n 0, 1) := by decide +kernel
theorem d_UN_haveWays_4 : decode b_UN_haveWays 4 = .ok (.getfield 22, 3) := by decide +kernel
theorem d_UN_haveWays_7 : decode b_UN_haveWays 7 = .ok (.if_icmp .ge 28, 3) := by decide +kernel
theorem d_UN_haveWays_10 : decode b_UN_haveWays 10 = .ok (.aload_n 0, 1) := by decide +kernel
theorem d_UN_haveWays_11 : decode b_UN_haveWays 11 = .ok (.getfield 15, 3) := by decide +kernel
theorem d_UN_haveWays_14 : decode b_UN_haveWays 14 = .ok (.iload_n 1, 1) := by decide +kernel
theorem d_UN_haveWays_15 : decode b_UN_haveWays 15 = .ok (.iaload, 1) := by decide +kernel
theorem d_UN_haveWays_16 : decode b_UN_haveWays 16 = .ok (.aload_n 0, 1) := by decide +kernel
theorem d_UN_haveWays_17 : decode b_UN_haveWays 17 = .ok (.getfield 15, 3) := by decide +kernel
theorem d_UN_haveWays_20 : decode b_UN_haveWays 20 = .ok (.iload_n 1, 1) := by decide +kernel
theorem d_UN_haveWays_21 : decode b_UN_haveWays 21 = .ok (.iconst 1, 1) := by decide +kernel
theorem d_UN_haveWays_22 : decode b_UN_haveWays 22 = .ok (.iadd, 1) := by decide +kernel
theorem d_UN_haveWays_23 : decode b_UN_haveWays 23 = .ok (.iaload, 1) := by decide +kernel
theorem d_UN_haveWays_24 : decode b_UN_haveWays 24 = .ok (.if_icmp .ne 5, 3) := by decide +kernel
theorem d_UN_haveWays_27 : decode b_UN_haveWays 27 = .ok (.iconst 0, 1) := by decide +kernel
theorem d_UN_haveWays_28 : decode b_UN_haveWays 28 = .ok (.ireturn, 1) := by decide +kernel
theorem d_UN_haveWays_29 : decode b_UN_haveWays 29 = .ok (.iinc 1 1, 3) := by decide +kernel
theorem d_UN_haveWays_32 : decode b_UN_haveWays 32 = .ok (.goto (-30), 3) := by decide +kernel
theorem d_UN_haveWays_35 : decode b_UN_haveWays 35 = .ok (.iconst 1, 1) := by decide +kernel
theorem d_UN_haveWays_36 : decode b_UN_haveWays 36 = .ok (.ireturn, 1) := by decide +kernel
theorem d_UN_keptBy_0 : decode b_UN_keptBy 0 = .ok (.lload_n 2, 1) := by decide +kernel
theorem d_UN_keptBy_1 : decode b_UN_keptBy 1 = .ok (.ldc2_w 33, 3) := by decide +kernel
theorem d_UN_keptBy_4 : decode b_UN_keptBy 4 = .ok (.lxor, 1) := by decide +kernel
theorem d_UN_keptBy_5 : decode b_UN_keptBy 5 = .ok (.lstore 4, 2) := by decide +kernel
theorem d_UN_keptBy_7 : decode b_UN_keptBy 7 = .ok (.aload_n 0, 1) := by decide +kernel
theorem d_UN_keptBy_8 : decode b_UN_keptBy 8 = .ok (.getfield 11, 3) := by decide +kernel
theorem d_UN_keptBy_11 : decode b_UN_keptBy 11 = .ok (.iload_n 1, 1) := by decide +kernel
theorem d_UN_keptBy_12 : decode b_UN_keptBy 12 = .ok (.laload, 1) := by decide +kernel
theorem d_UN_keptBy_13 : decode b_UN_keptBy 13 = .ok (.ldc2_w 33, 3) := by decide +kernel
theorem d_UN_keptBy_16 : decode b_UN_keptBy 16 = .ok (.lxor, 1) := by decide +kernel
theorem d_UN_keptBy_17 : decode b_UN_keptBy 17 = .ok (.lstore 6, 2) := by decide +kernel
theorem d_UN_keptBy_19 : decode b_UN_keptBy 19 = .ok (.aload_n 0, 1) := by decide +kernel
theorem d_UN_keptBy_20 : decode b_UN_keptBy 20 = .ok (.getfield 15, 3) := by decide +kernel
theorem d_UN_keptBy_23 : decode b_UN_keptBy 23 = .ok (.iload_n 1, 1) := by decide +kernel
theorem d_UN_keptBy_24 : decode b_UN_keptBy 24 = .ok (.iaload, 1) := by decide +kernel
theorem d_UN_keptBy_25 : decode b_UN_keptBy 25 = .ok (.istore 8, 2) := by decide +kernel
theorem d_UN_keptBy_27 : decode b_UN_keptBy 27 = .ok (.iload 8, 2) := by decide +kernel
theorem d_UN_keptBy_29 : decode b_UN_keptBy 29 = .ok (.aload_n 0, 1) := by decide +kernel
theorem d_UN_keptBy_30 : decode b_UN_keptBy 30 = .ok (.getfield 15, 3) := by decide +kernel
theorem d_UN_keptBy_33 : decode b_UN_keptBy 33 = .ok (.iload_n 1, 1) := by decide +kernel
theorem d_UN_keptBy_34 : decode b_UN_keptBy 34 = .ok (.iconst 1, 1) := by decide +kernel
theorem d_UN_keptBy_35 : decode b_UN_keptBy 35 = .ok (.iadd, 1) := by decide +kernel
theorem d_UN_keptBy_36 : decode b_UN_keptBy 36 = .ok (.iaload, 1) := by decide +kernel
theorem d_UN_keptBy_37 : decode b_UN_keptBy 37 = .ok (.if_icmp .ge 36, 3) := by decide +kernel
theorem d_UN_keptBy_40 : decode b_UN_keptBy 40 = .ok (.aload_n 0, 1) := by decide +kernel
theorem d_UN_keptBy_41 : decode b_UN_keptBy 41 = .ok (.getfield 19, 3) := by decide +kernel
theorem d_UN_keptBy_44 : decode b_UN_keptBy 44 = .ok (.iload 8, 2) := by decide +kernel
theorem d_UN_keptBy_46 : decode b_UN_keptBy 46 = .ok (.laload, 1) := by decide +kernel
theorem d_UN_keptBy_47 : decode b_UN_keptBy 47 = .ok (.lload 4, 2) := by decide +kernel
theorem d_UN_keptBy_49 : decode b_UN_keptBy 49 = .ok (.land, 1) := by decide +kernel
theorem d_UN_keptBy_50 : decode b_UN_keptBy 50 = .ok (.lconst 0, 1) := by decide +kernel
theorem d_UN_keptBy_51 : decode b_UN_keptBy 51 = .ok (.lcmp, 1) := by decide +kernel
theorem d_UN_keptBy_52 : decode b_UN_keptBy 52 = .ok (.ifCond .ne 15, 3) := by decide +kernel
theorem d_UN_keptBy_55 : decode b_UN_keptBy 55 = .ok (.lload 6, 2) := by decide +kernel
theorem d_UN_keptBy_57 : decode b_UN_keptBy 57 = .ok (.aload_n 0, 1) := by decide +kernel
theorem d_UN_keptBy_58 : decode b_UN_keptBy 58 = .ok (.getfield 19, 3) := by decide +kernel
theorem d_UN_keptBy_61 : decode b_UN_keptBy 61 = .ok (.iload 8, 2) := by decide +kernel
theorem d_UN_keptBy_63 : decode b_UN_keptBy 63 = .ok (.laload, 1) := by decide +kernel
theorem d_UN_keptBy_64 : decode b_UN_keptBy 64 = .ok (.lor, 1) := by decide +kernel
theorem d_UN_keptBy_65 : decode b_UN_keptBy 65 = .ok (.lstore 6, 2) := by decide +kernel
theorem d_UN_keptBy_67 : decode b_UN_keptBy 67 = .ok (.iinc 8 1, 3) := by decide +kernel
theorem d_UN_keptBy_70 : decode b_UN_keptBy 70 = .ok (.goto (-43), 3) := by decide +kernel
theorem d_UN_keptBy_73 : decode b_UN_keptBy 73 = .ok (.lload 6, 2) := by decide +kernel
theorem d_UN_keptBy_75 : decode b_UN_keptBy 75 = .ok (.lreturn, 1) := by decide +kernel
theorem d_UN_keptAtOnce_0 : decode b_UN_keptAtOnce 0 = .ok (.lload_n 1, 1) := by decide +kernel
theorem d_UN_keptAtOnce_1 : decode b_UN_keptAtOnce 1 = .ok (.lstore_n 3, 1) := by decide +kernel
theorem d_UN_keptAtOnce_2 : decode b_UN_keptAtOnce 2 = .ok (.iconst 0, 1) := by decide +kernel
theorem d_UN_keptAtOnce_3 : decode b_UN_keptAtOnce 3 = .ok (.istore 5, 2) := by decide +kernel
theorem d_UN_keptAtOnce_5 : decode b_UN_keptAtOnce 5 = .ok (.iload 5, 2) := by decide +kernel
theorem d_UN_keptAtOnce_7 : decode b_UN_keptAtOnce 7 = .ok (.aload_n 0, 1) := by decide +kernel
theorem d_UN_keptAtOnce_8 : decode b_UN_keptAtOnce 8 = .ok (.getfield 22, 3) := by decide +kernel
theorem d_UN_keptAtOnce_11 : decode b_UN_keptAtOnce 11 = .ok (.if_icmp .ge 19, 3) := by decide +kernel
theorem d_UN_keptAtOnce_14 : decode b_UN_keptAtOnce 14 = .ok (.lload_n 3, 1) := by decide +kernel
theorem d_UN_keptAtOnce_15 : decode b_UN_keptAtOnce 15 = .ok (.aload_n 0, 1) := by decide +kernel
theorem d_UN_keptAtOnce_16 : decode b_UN_keptAtOnce 16 = .ok (.iload 5, 2) := by decide +kernel
theorem d_UN_keptAtOnce_18 : decode b_UN_keptAtOnce 18 = .ok (.lload_n 1, 1) := by decide +kernel
theorem d_UN_keptAtOnce_19 : decode b_UN_keptAtOnce 19 = .ok (.invokevirtual 29, 3) := by decide +kernel
theorem d_UN_keptAtOnce_22 : decode b_UN_keptAtOnce 22 = .ok (.land, 1) := by decide +kernel
theorem d_UN_keptAtOnce_23 : decode b_UN_keptAtOnce 23 = .ok (.lstore_n 3, 1) := by decide +kernel
theorem d_UN_keptAtOnce_24 : decode b_UN_keptAtOnce 24 = .ok (.iinc 5 1, 3) := by decide +kernel
theorem d_UN_keptAtOnce_27 : decode b_UN_keptAtOnce 27 = .ok (.goto (-22), 3) := by decide +kernel
theorem d_UN_keptAtOnce_30 : decode b_UN_keptAtOnce 30 = .ok (.lload_n 3, 1) := by decide +kernel
theorem d_UN_keptAtOnce_31 : decode b_UN_keptAtOnce 31 = .ok (.lreturn, 1) := by decide +kernel
theorem d_UN_narrow_0 : decode b_UN_narrow 0 = .ok (.lload_n 1, 1) := by decide +kernel
theorem d_UN_narrow_1 : decode b_UN_narrow 1 = .ok (.lstore 5, 2) := by decide +kernel
theorem d_UN_narrow_3 : decode b_UN_narrow 3 = .ok (.lload_n 3, 1) := by decide +kernel
theorem d_UN_narrow_4 : decode b_UN_narrow 4 = .ok (.lstore 7, 2) := by decide +kernel
theorem d_UN_narrow_6 : decode b_UN_narrow 6 = .ok (.iconst 0, 1) := by decide +kernel
theorem d_UN_narrow_7 : decode b_UN_narrow 7 = .ok (.istore 9, 2) := by decide +kernel
theorem d_UN_narrow_9 : decode b_UN_narrow 9 = .ok (.iload 9, 2) := by decide +kernel
theorem d_UN_narrow_11 : decode b_UN_narrow 11 = .ok (.bipush 64, 2) := by decide +kernel
theorem d_UN_narrow_13 : decode b_UN_narrow 13 = .ok (.if_icmp .gt 94, 3) := by decide +kernel
theorem d_UN_narrow_16 : decode b_UN_narrow 16 = .ok (.lload 7, 2) := by decide +kernel
theorem d_UN_narrow_18 : decode b_UN_narrow 18 = .ok (.lconst 0, 1) := by decide +kernel
theorem d_UN_narrow_19 : decode b_UN_narrow 19 = .ok (.lcmp, 1) := by decide +kernel
theorem d_UN_narrow_20 : decode b_UN_narrow 20 = .ok (.ifCond .eq 87, 3) := by decide +kernel
theorem d_UN_narrow_23 : decode b_UN_narrow 23 = .ok (.lload 5, 2) := by decide +kernel
theorem d_UN_narrow_25 : decode b_UN_narrow 25 = .ok (.lstore 10, 2) := by decide +kernel
theorem d_UN_narrow_27 : decode b_UN_narrow 27 = .ok (.iconst 0, 1) := by decide +kernel
theorem d_UN_narrow_28 : decode b_UN_narrow 28 = .ok (.istore 12, 2) := by decide +kernel
theorem d_UN_narrow_30 : decode b_UN_narrow 30 = .ok (.iload 12, 2) := by decide +kernel
theorem d_UN_narrow_32 : decode b_UN_narrow 32 = .ok (.aload_n 0, 1) := by decide +kernel
theorem d_UN_narrow_33 : decode b_UN_narrow 33 = .ok (.getfield 22, 3) := by decide +kernel
theorem d_UN_narrow_36 : decode b_UN_narrow 36 = .ok (.if_icmp .ge 54, 3) := by decide +kernel
theorem d_UN_narrow_39 : decode b_UN_narrow 39 = .ok (.aload_n 0, 1) := by decide +kernel
theorem d_UN_narrow_40 : decode b_UN_narrow 40 = .ok (.getfield 11, 3) := by decide +kernel
theorem d_UN_narrow_43 : decode b_UN_narrow 43 = .ok (.iload 12, 2) := by decide +kernel
theorem d_UN_narrow_45 : decode b_UN_narrow 45 = .ok (.laload, 1) := by decide +kernel
theorem d_UN_narrow_46 : decode b_UN_narrow 46 = .ok (.lload 7, 2) := by decide +kernel
theorem d_UN_narrow_48 : decode b_UN_narrow 48 = .ok (.land, 1) := by decide +kernel
theorem d_UN_narrow_49 : decode b_UN_narrow 49 = .ok (.lconst 0, 1) := by decide +kernel
theorem d_UN_narrow_50 : decode b_UN_narrow 50 = .ok (.lcmp, 1) := by decide +kernel
theorem d_UN_narrow_51 : decode b_UN_narrow 51 = .ok (.ifCond .eq 33, 3) := by decide +kernel
theorem d_UN_narrow_54 : decode b_UN_narrow 54 = .ok (.lload 5, 2) := by decide +kernel
theorem d_UN_narrow_56 : decode b_UN_narrow 56 = .ok (.aload_n 0, 1) := by decide +kernel
theorem d_UN_narrow_57 : decode b_UN_narrow 57 = .ok (.iload 12, 2) := by decide +kernel
theorem d_UN_narrow_59 : decode b_UN_narrow 59 = .ok (.lload 5, 2) := by decide +kernel
theorem d_UN_narrow_61 : decode b_UN_narrow 61 = .ok (.invokevirtual 29, 3) := by decide +kernel
theorem d_UN_narrow_64 : decode b_UN_narrow 64 = .ok (.land, 1) := by decide +kernel
theorem d_UN_narrow_65 : decode b_UN_narrow 65 = .ok (.lstore 5, 2) := by decide +kernel
theorem d_UN_narrow_67 : decode b_UN_narrow 67 = .ok (.lload 5, 2) := by decide +kernel
theorem d_UN_narrow_69 : decode b_UN_narrow 69 = .ok (.aload_n 0, 1) := by decide +kernel
theorem d_UN_narrow_70 : decode b_UN_narrow 70 = .ok (.getfield 11, 3) := by decide +kernel
theorem d_UN_narrow_73 : decode b_UN_narrow 73 = .ok (.iload 12, 2) := by decide +kernel
theorem d_UN_narrow_75 : decode b_UN_narrow 75 = .ok (.laload, 1) := by decide +kernel
theorem d_UN_narrow_76 : decode b_UN_narrow 76 = .ok (.land, 1) := by decide +kernel
theorem d_UN_narrow_77 : decode b_UN_narrow 77 = .ok (.lconst 0, 1) := by decide +kernel
theorem d_UN_narrow_78 : decode b_UN_narrow 78 = .ok (.lcmp, 1) := by decide +kernel
theorem d_UN_narrow_79 : decode b_UN_narrow 79 = .ok (.ifCond .ne 5, 3) := by decide +kernel
theorem d_UN_narrow_82 : decode b_UN_narrow 82 = .ok (.lconst 0, 1) := by decide +kernel
theorem d_UN_narrow_83 : decode b_UN_narrow 83 = .ok (.lreturn, 1) := by decide +kernel
theorem d_UN_narrow_84 : decode b_UN_narrow 84 = .ok (.iinc 12 1, 3) := by decide +kernel
theorem d_UN_narrow_87 : decode b_UN_narrow 87 = .ok (.goto (-57), 3) := by decide +kernel
theorem d_UN_narrow_90 : decode b_UN_narrow 90 = .ok (.lload 10, 2) := by decide +kernel
theorem d_UN_narrow_92 : decode b_UN_narrow 92 = .ok (.lload 5, 2) := by decide +kernel
theorem d_UN_narrow_94 : decode b_UN_narrow 94 = .ok (.ldc2_w 33, 3) := by decide +kernel
theorem d_UN_narrow_97 : decode b_UN_narrow 97 = .ok (.lxor, 1) := by decide +kernel
theorem d_UN_narrow_98 : decode b_UN_narrow 98 = .ok (.land, 1) := by decide +kernel
theorem d_UN_narrow_99 : decode b_UN_narrow 99 = .ok (.lstore 7, 2) := by decide +kernel
theorem d_UN_narrow_101 : decode b_UN_narrow 101 = .ok (.iinc 9 1, 3) := by decide +kernel
theorem d_UN_narrow_104 : decode b_UN_narrow 104 = .ok (.goto (-95), 3) := by decide +kernel
theorem d_UN_narrow_107 : decode b_UN_narrow 107 = .ok (.lload 5, 2) := by decide +kernel
theorem d_UN_narrow_109 : decode b_UN_narrow 109 = .ok (.lreturn, 1) := by decide +kernel
set_option maxHeartbeats 4000000 in
set_option maxRecDepth 100000 in
theorem ct_UN_dropAll (l : Launch) (D : va_G) (ad : Nat → Nat) (cI cL : ClassId) (N : Nat) (kk : Nat) (kn : Int32) (le : Int64) (ff : Int64) (fo : Int32) (ct : Int32) (fx : Int32) (gv : Nat → Int32) (pg : Nat → Int32) (cu : Nat → Int32) (co : Nat → Int32) (sg : Nat → Int32) (ru : Nat → Int32) (nu : Nat → Int32) (tg : Nat → Int32) (sc : Nat → Int64) (sr : Nat → Int32) (wy : Nat → Int64)  (out : Int32 × Int32) (h : mi_UN_dropAll N ct fx = some out) : fw_C l y_UN_dropAll (.code y_UN_dropAll b_UN_dropAll 1 (none) :: Gw) (fr 0 0) D vwCl (tyA cI cL) [.ref (ad 5)] (wC ad cI cL kk kn le ff fo ct fx gv pg cu co sg ru nu tg sc sr wy) none (wC ad cI cL kk kn le ff fo out.1 out.2 gv pg cu co sg ru nu tg sc sr wy) := by
  refine fw_of (by decide) (Nat.le_of_ble_eq_true rfl) ?_
  intro p e s m args below meth c ls A R Q hR hQ S hr hlk hX hA hl hw
  have hK := hX.1
  have hx := S.1
  have hb := S.2.1
  have hown := S.2.2.2.1
  have hg := S.2.2.2.2
  have hl : lv_has ls 1 [(0, .ref (ad 5))] := hl
  unfold mi_UN_dropAll at h
  refine lv_aload_n hx hb d_UN_dropAll_0 rfl (lv_at hl 0 rfl) ?_
  refine lv_iconst (v := 0) hx hb d_UN_dropAll_1 (by decide) ?_
  refine va_put (ci := 5) (v := .int (0 : Int32)) (ty := .int) (C := R_UN) (T := F_UN) (N := 5) hx hb hg in_UN t_UN t_UN_ok n_UN hown hK hw.1 hw.2.1 hw.2.2 5 rfl rfl 3 (by decide) (hg _ q_134) (fun _ h9 => h9) rfl (by decide +kernel) rfl rfl (Nat.le_of_ble_eq_true rfl) d_UN_dropAll_2 (fun H locs hP hD hS => ?_)
  have hw : fw_H D vwCl A s.heap (wC ad cI cL kk kn le ff fo (0 : Int32) fx gv pg cu co sg ru nu tg sc sr wy) H locs := ⟨hP, hD, hS⟩
  refine lv_aload_n hx hb d_UN_dropAll_5 rfl (lv_at hl 0 rfl) ?_
  refine lv_iconst (v := 0) hx hb d_UN_dropAll_6 (by decide) ?_
  refine va_put (ci := 5) (v := .int (0 : Int32)) (ty := .int) (C := R_UN) (T := F_UN) (N := 5) hx hb hg in_UN t_UN t_UN_ok n_UN hown hK hw.1 hw.2.1 hw.2.2 5 rfl rfl 4 (by decide) (hg _ q_135) (fun _ h9 => h9) rfl (by decide +kernel) rfl rfl (Nat.le_of_ble_eq_true rfl) d_UN_dropAll_7 (fun H locs hP hD hS => ?_)
  have hw : fw_H D vwCl A s.heap (wC ad cI cL kk kn le ff fo (0 : Int32) (0 : Int32) gv pg cu co sg ru nu tg sc sr wy) H locs := ⟨hP, hD, hS⟩
  have q := Option.some.inj h
  subst q
  exact fw_vret hQ S hr hlk hX hw d_UN_dropAll_10
set_option maxHeartbeats 4000000 in
set_option maxRecDepth 100000 in
theorem ct_UN_fixAll (l : Launch) (D : va_G) (ad : Nat → Nat) (cI cL : ClassId) (N : Nat) (kk : Nat) (kn : Int32) (le : Int64) (ff : Int64) (fo : Int32) (ct : Int32) (fx : Int32) (gv : Nat → Int32) (pg : Nat → Int32) (cu : Nat → Int32) (co : Nat → Int32) (sg : Nat → Int32) (ru : Nat → Int32) (nu : Nat → Int32) (tg : Nat → Int32) (sc : Nat → Int64) (sr : Nat → Int32) (wy : Nat → Int64)  (out : Int32) (h : mi_UN_fixAll N ct fx = some out) : fw_C l y_UN_fixAll (.code y_UN_fixAll b_UN_fixAll 1 (none) :: Gw) (fr 0 0) D vwCl (tyA cI cL) [.ref (ad 5)] (wC ad cI cL kk kn le ff fo ct fx gv pg cu co sg ru nu tg sc sr wy) none (wC ad cI cL kk kn le ff fo ct out gv pg cu co sg ru nu tg sc sr wy) := by
  refine fw_of (by decide) (Nat.le_of_ble_eq_true rfl) ?_
  intro p e s m args below meth c ls A R Q hR hQ S hr hlk hX hA hl hw
  have hK := hX.1
  have hx := S.1
  have hb := S.2.1
  have hown := S.2.2.2.1
  have hg := S.2.2.2.2
  have hl : lv_has ls 1 [(0, .ref (ad 5))] := hl
  unfold mi_UN_fixAll at h
  refine lv_aload_n hx hb d_UN_fixAll_0 rfl (lv_at hl 0 rfl) ?_
  refine lv_aload_n hx hb d_UN_fixAll_1 rfl (lv_at hl 0 rfl) ?_
  refine va_get (ci := 5) (v := .int ct) (C := R_UN) (T := F_UN) (N := 5) hx hb hg in_UN hown hK hw.1 5 rfl rfl 3 (by decide) (hg _ q_134) (fun _ h9 => h9) rfl d_UN_fixAll_2 ?_
  refine va_put (ci := 5) (v := .int ct) (ty := .int) (C := R_UN) (T := F_UN) (N := 5) hx hb hg in_UN t_UN t_UN_ok n_UN hown hK hw.1 hw.2.1 hw.2.2 5 rfl rfl 4 (by decide) (hg _ q_135) (fun _ h9 => h9) rfl (by decide +kernel) rfl rfl (Nat.le_of_ble_eq_true rfl) d_UN_fixAll_5 (fun H locs hP hD hS => ?_)
  have hw : fw_H D vwCl A s.heap (wC ad cI cL kk kn le ff fo ct ct gv pg cu co sg ru nu tg sc sr wy) H locs := ⟨hP, hD, hS⟩
  have q := Option.some.inj h
  subst q
  exact fw_vret hQ S hr hlk hX hw d_UN_fixAll_8
set_option maxHeartbeats 4000000 in
set_option maxRecDepth 100000 in
theorem ct_UN_dropUnfixed (l : Launch) (D : va_G) (ad : Nat → Nat) (cI cL : ClassId) (N : Nat) (kk : Nat) (kn : Int32) (le : Int64) (ff : Int64) (fo : Int32) (ct : Int32) (fx : Int32) (gv : Nat → Int32) (pg : Nat → Int32) (cu : Nat → Int32) (co : Nat → Int32) (sg : Nat → Int32) (ru : Nat → Int32) (nu : Nat → Int32) (tg : Nat → Int32) (sc : Nat → Int64) (sr : Nat → Int32) (wy : Nat → Int64)  (out : Int32) (h : mi_UN_dropUnfixed N ct fx = some out) : fw_C l y_UN_dropUnfixed (.code y_UN_dropUnfixed b_UN_dropUnfixed 1 (none) :: Gw) (fr 0 0) D vwCl (tyA cI cL) [.ref (ad 5)] (wC ad cI cL kk kn le ff fo ct fx gv pg cu co sg ru nu tg sc sr wy) none (wC ad cI cL kk kn le ff fo out fx gv pg cu co sg ru nu tg sc sr wy) := by
  refine fw_of (by decide) (Nat.le_of_ble_eq_true rfl) ?_
  intro p e s m args below meth c ls A R Q hR hQ S hr hlk hX hA hl hw
  have hK := hX.1
  have hx := S.1
  have hb := S.2.1
  have hown := S.2.2.2.1
  have hg := S.2.2.2.2
  have hl : lv_has ls 1 [(0, .ref (ad 5))] := hl
  unfold mi_UN_dropUnfixed at h
  refine lv_aload_n hx hb d_UN_dropUnfixed_0 rfl (lv_at hl 0 rfl) ?_
  refine lv_aload_n hx hb d_UN_dropUnfixed_1 rfl (lv_at hl 0 rfl) ?_
  refine va_get (ci := 5) (v := .int fx) (C := R_UN) (T := F_UN) (N := 5) hx hb hg in_UN hown hK hw.1 5 rfl rfl 4 (by decide) (hg _ q_135) (fun _ h9 => h9) rfl d_UN_dropUnfixed_2 ?_
  refine va_put (ci := 5) (v := .int fx) (ty := .int) (C := R_UN) (T := F_UN) (N := 5) hx hb hg in_UN t_UN t_UN_ok n_UN hown hK hw.1 hw.2.1 hw.2.2 5 rfl rfl 3 (by decide) (hg _ q_134) (fun _ h9 => h9) rfl (by decide +kernel) rfl rfl (Nat.le_of_ble_eq_true rfl) d_UN_dropUnfixed_5 (fun H locs hP hD hS => ?_)
  have hw : fw_H D vwCl A s.heap (wC ad cI cL kk kn le ff fo fx fx gv pg cu co sg ru nu tg sc sr wy) H locs := ⟨hP, hD, hS⟩
  have q := Option.some.inj h
  subst q
  exact fw_vret hQ S hr hlk hX hw d_UN_dropUnfixed_8
set_option maxHeartbeats 4000000 in
set_option maxRecDepth 100000 in
theorem ct_UN_begin (l : Launch) (D : va_G) (ad : Nat → Nat) (cI cL : ClassId) (N : Nat) (kk : Nat) (kn : Int32) (le : Int64) (ff : Int64) (fo : Int32) (ct : Int32) (fx : Int32) (gv : Nat → Int32) (pg : Nat → Int32) (cu : Nat → Int32) (co : Nat → Int32) (sg : Nat → Int32) (ru : Nat → Int32) (nu : Nat → Int32) (tg : Nat → Int32) (sc : Nat → Int64) (sr : Nat → Int32) (wy : Nat → Int64) (u1 : Int64) (out : Int32 × (Nat → Int64) × (Nat → Int32)) (h : mi_UN_begin N ct sc sr u1 = some out) : fw_C l y_UN_begin (.code y_UN_begin b_UN_begin 3 (none) :: Gw) (fr 0 0) D vwCl (tyA cI cL) [.ref (ad 5), .long u1] (wC ad cI cL kk kn le ff fo ct fx gv pg cu co sg ru nu tg sc sr wy) none (wC ad cI cL kk kn le ff fo out.1 fx gv pg cu co sg ru nu tg out.2.1 out.2.2 wy) := by
  refine fw_of (by decide) (Nat.le_of_ble_eq_true rfl) ?_
  intro p e s m args below meth c ls A R Q hR hQ S hr hlk hX hA hl hw
  have hK := hX.1
  have hx := S.1
  have hb := S.2.1
  have hown := S.2.2.2.1
  have hg := S.2.2.2.2
  have hl : lv_has ls 3 [(0, .ref (ad 5)), (1, .long u1)] := hl
  unfold mi_UN_begin at h
  refine lv_aload_n hx hb d_UN_begin_0 rfl (lv_at hl 0 rfl) ?_
  refine va_get (ci := 5) (v := .int ct) (C := R_UN) (T := F_UN) (N := 5) hx hb hg in_UN hown hK hw.1 5 rfl rfl 3 (by decide) (hg _ q_134) (fun _ h9 => h9) rfl d_UN_begin_1 ?_
  refine lv_bipush (v := 87) hx hb d_UN_begin_4 (by decide) ?_
  refine lv_icmp_ge (tgt := 49) hx hb d_UN_begin_6 (by decide) (fun hc => ?_) (fun hc => ?_)
  · have h := oi h hc
    have q := Option.some.inj h
    subst q
    exact fw_vret hQ S hr hlk hX hw d_UN_begin_49
  · have h := oe h hc
    refine lv_aload_n hx hb d_UN_begin_9 rfl (lv_at hl 0 rfl) ?_
    refine va_get (ci := 5) (v := .ref (ad 14)) (C := R_UN) (T := F_UN) (N := 5) hx hb hg in_UN hown hK hw.1 5 rfl rfl 0 (by decide) (hg _ q_131) (fun _ h9 => h9) rfl d_UN_begin_10 ?_
    refine lv_aload_n hx hb d_UN_begin_13 rfl (lv_at hl 0 rfl) ?_
    refine va_get (ci := 5) (v := .int ct) (C := R_UN) (T := F_UN) (N := 5) hx hb hg in_UN hown hK hw.1 5 rfl rfl 3 (by decide) (hg _ q_134) (fun _ h9 => h9) rfl d_UN_begin_14 ?_
    refine lv_lload_n hx hb d_UN_begin_17 rfl (lv_at hl 1 rfl) ?_
    refine oc h (fun hc1 h => ?_)
    refine va_last hx hb hK hw.1 hw.2.1 hw.2.2 14 1 rfl rfl hc1 d_UN_begin_18 (fun H locs hP hD hS => ?_)
    have hw : fw_H D vwCl A s.heap (wC ad cI cL kk kn le ff fo ct fx gv pg cu co sg ru nu tg (vp_updL sc ct.toNatClampNeg u1) sr wy) H locs := ⟨hP, hD, hS⟩
    refine lv_aload_n hx hb d_UN_begin_19 rfl (lv_at hl 0 rfl) ?_
    refine lv_dup hx hb d_UN_begin_20 rfl ?_
    refine va_get (ci := 5) (v := .int ct) (C := R_UN) (T := F_UN) (N := 5) hx hb hg in_UN hown hK hw.1 5 rfl rfl 3 (by decide) (hg _ q_134) (fun _ h9 => h9) rfl d_UN_begin_21 ?_
    refine lv_iconst (v := 1) hx hb d_UN_begin_24 (by decide) ?_
    refine lv_iadd hx hb d_UN_begin_25 ?_
    refine va_put (ci := 5) (v := .int (ct + (1 : Int32))) (ty := .int) (C := R_UN) (T := F_UN) (N := 5) hx hb hg in_UN t_UN t_UN_ok n_UN hown hK hw.1 hw.2.1 hw.2.2 5 rfl rfl 3 (by decide) (hg _ q_134) (fun _ h9 => h9) rfl (by decide +kernel) rfl rfl (Nat.le_of_ble_eq_true rfl) d_UN_begin_26 (fun H locs hP hD hS => ?_)
    have hw : fw_H D vwCl A s.heap (wC ad cI cL kk kn le ff fo (ct + (1 : Int32)) fx gv pg cu co sg ru nu tg (vp_updL sc ct.toNatClampNeg u1) sr wy) H locs := ⟨hP, hD, hS⟩
    refine lv_aload_n hx hb d_UN_begin_29 rfl (lv_at hl 0 rfl) ?_
    refine va_get (ci := 5) (v := .ref (ad 15)) (C := R_UN) (T := F_UN) (N := 5) hx hb hg in_UN hown hK hw.1 5 rfl rfl 1 (by decide) (hg _ q_132) (fun _ h9 => h9) rfl d_UN_begin_30 ?_
    refine lv_aload_n hx hb d_UN_begin_33 rfl (lv_at hl 0 rfl) ?_
    refine va_get (ci := 5) (v := .int (ct + (1 : Int32))) (C := R_UN) (T := F_UN) (N := 5) hx hb hg in_UN hown hK hw.1 5 rfl rfl 3 (by decide) (hg _ q_134) (fun _ h9 => h9) rfl d_UN_begin_34 ?_
    refine lv_aload_n hx hb d_UN_begin_37 rfl (lv_at hl 0 rfl) ?_
    refine va_get (ci := 5) (v := .ref (ad 15)) (C := R_UN) (T := F_UN) (N := 5) hx hb hg in_UN hown hK hw.1 5 rfl rfl 1 (by decide) (hg _ q_132) (fun _ h9 => h9) rfl d_UN_begin_38 ?_
    refine lv_aload_n hx hb d_UN_begin_41 rfl (lv_at hl 0 rfl) ?_
    refine va_get (ci := 5) (v := .int (ct + (1 : Int32))) (C := R_UN) (T := F_UN) (N := 5) hx hb hg in_UN hown hK hw.1 5 rfl rfl 3 (by decide) (hg _ q_134) (fun _ h9 => h9) rfl d_UN_begin_42 ?_
    refine lv_iconst (v := 1) hx hb d_UN_begin_45 (by decide) ?_
    refine lv_isub hx hb d_UN_begin_46 ?_
    refine oc h (fun hc2 h => ?_)
    refine va_iald hx hb hK hw.1 15 0 rfl rfl hc2 d_UN_begin_47 ?_
    refine oc h (fun hc3 h => ?_)
    refine va_iast hx hb hK hw.1 hw.2.1 hw.2.2 15 0 rfl rfl hc3 d_UN_begin_48 (fun H locs hP hD hS => ?_)
    have hw : fw_H D vwCl A s.heap (wC ad cI cL kk kn le ff fo (ct + (1 : Int32)) fx gv pg cu co sg ru nu tg (vp_updL sc ct.toNatClampNeg u1) (upd sr (ct + (1 : Int32)).toNatClampNeg (sr ((ct + (1 : Int32)) - (1 : Int32)).toNatClampNeg)) wy) H locs := ⟨hP, hD, hS⟩
    have q := Option.some.inj h
    subst q
    exact fw_vret hQ S hr hlk hX hw d_UN_begin_49
set_option maxHeartbeats 4000000 in
set_option maxRecDepth 100000 in
theorem ct_UN_addWay (l : Launch) (D : va_G) (ad : Nat → Nat) (cI cL : ClassId) (N : Nat) (kk : Nat) (kn : Int32) (le : Int64) (ff : Int64) (fo : Int32) (ct : Int32) (fx : Int32) (gv : Nat → Int32) (pg : Nat → Int32) (cu : Nat → Int32) (co : Nat → Int32) (sg : Nat → Int32) (ru : Nat → Int32) (nu : Nat → Int32) (tg : Nat → Int32) (sc : Nat → Int64) (sr : Nat → Int32) (wy : Nat → Int64) (u1 : Int64) (out : (Nat → Int32) × (Nat → Int64)) (h : mi_UN_addWay N ct sr wy u1 = some out) : fw_C l y_UN_addWay (.code y_UN_addWay b_UN_addWay 4 (none) :: Gw) (fr 0 0) D vwCl (tyA cI cL) [.ref (ad 5), .long u1] (wC ad cI cL kk kn le ff fo ct fx gv pg cu co sg ru nu tg sc sr wy) none (wC ad cI cL kk kn le ff fo ct fx gv pg cu co sg ru nu tg sc out.1 out.2) := by
  refine fw_of (by decide) (Nat.le_of_ble_eq_true rfl) ?_
  intro p e s m args below meth c ls A R Q hR hQ S hr hlk hX hA hl hw
  have hK := hX.1
  have hx := S.1
  have hb := S.2.1
  have hown := S.2.2.2.1
  have hg := S.2.2.2.2
  have hl : lv_has ls 4 [(0, .ref (ad 5)), (1, .long u1)] := hl
  unfold mi_UN_addWay at h
  refine lv_aload_n hx hb d_UN_addWay_0 rfl (lv_at hl 0 rfl) ?_
  refine va_get (ci := 5) (v := .ref (ad 15)) (C := R_UN) (T := F_UN) (N := 5) hx hb hg in_UN hown hK hw.1 5 rfl rfl 1 (by decide) (hg _ q_132) (fun _ h9 => h9) rfl d_UN_addWay_1 ?_
  refine lv_aload_n hx hb d_UN_addWay_4 rfl (lv_at hl 0 rfl) ?_
  refine va_get (ci := 5) (v := .int ct) (C := R_UN) (T := F_UN) (N := 5) hx hb hg in_UN hown hK hw.1 5 rfl rfl 3 (by decide) (hg _ q_134) (fun _ h9 => h9) rfl d_UN_addWay_5 ?_
  refine oc h (fun hc1 h => ?_)
  refine va_iald hx hb hK hw.1 15 0 rfl rfl hc1 d_UN_addWay_8 ?_
  refine lv_istore_n (lv' := [(3, .int (sr ct.toNatClampNeg)), (0, .ref (ad 5)), (1, .long u1)]) hx hb d_UN_addWay_9 rfl hl (by decide) rfl (fun ls hl => ?_)
  refine lv_aload_n hx hb d_UN_addWay_10 rfl (lv_at hl 1 rfl) ?_
  refine va_get (ci := 5) (v := .int ct) (C := R_UN) (T := F_UN) (N := 5) hx hb hg in_UN hown hK hw.1 5 rfl rfl 3 (by decide) (hg _ q_134) (fun _ h9 => h9) rfl d_UN_addWay_11 ?_
  refine lv_if_le (tgt := 43) hx hb d_UN_addWay_14 (by decide) (fun hc => ?_) (fun hc => ?_)
  · have h := oi h hc
    have q := Option.some.inj h
    subst q
    exact fw_vret hQ S hr hlk hX hw d_UN_addWay_43
  · have h := oe h hc
    refine lv_iload_n hx hb d_UN_addWay_17 rfl (lv_at hl 0 rfl) ?_
    refine lv_sipush (v := 326) hx hb d_UN_addWay_18 (by decide) ?_
    refine lv_icmp_ge (tgt := 43) hx hb d_UN_addWay_21 (by decide) (fun hc => ?_) (fun hc => ?_)
    · have h := oi h hc
      have q := Option.some.inj h
      subst q
      exact fw_vret hQ S hr hlk hX hw d_UN_addWay_43
    · have h := oe h hc
      refine lv_aload_n hx hb d_UN_addWay_24 rfl (lv_at hl 1 rfl) ?_
      refine va_get (ci := 5) (v := .ref (ad 16)) (C := R_UN) (T := F_UN) (N := 5) hx hb hg in_UN hown hK hw.1 5 rfl rfl 2 (by decide) (hg _ q_133) (fun _ h9 => h9) rfl d_UN_addWay_25 ?_
      refine lv_iload_n hx hb d_UN_addWay_28 rfl (lv_at hl 0 rfl) ?_
      refine lv_lload_n hx hb d_UN_addWay_29 rfl (lv_at hl 2 rfl) ?_
      refine oc h (fun hc2 h => ?_)
      refine va_last hx hb hK hw.1 hw.2.1 hw.2.2 16 1 rfl rfl hc2 d_UN_addWay_30 (fun H locs hP hD hS => ?_)
      have hw : fw_H D vwCl A s.heap (wC ad cI cL kk kn le ff fo ct fx gv pg cu co sg ru nu tg sc sr (vp_updL wy (sr ct.toNatClampNeg).toNatClampNeg u1)) H locs := ⟨hP, hD, hS⟩
      refine lv_aload_n hx hb d_UN_addWay_31 rfl (lv_at hl 1 rfl) ?_
      refine va_get (ci := 5) (v := .ref (ad 15)) (C := R_UN) (T := F_UN) (N := 5) hx hb hg in_UN hown hK hw.1 5 rfl rfl 1 (by decide) (hg _ q_132) (fun _ h9 => h9) rfl d_UN_addWay_32 ?_
      refine lv_aload_n hx hb d_UN_addWay_35 rfl (lv_at hl 1 rfl) ?_
      refine va_get (ci := 5) (v := .int ct) (C := R_UN) (T := F_UN) (N := 5) hx hb hg in_UN hown hK hw.1 5 rfl rfl 3 (by decide) (hg _ q_134) (fun _ h9 => h9) rfl d_UN_addWay_36 ?_
      refine lv_iload_n hx hb d_UN_addWay_39 rfl (lv_at hl 0 rfl) ?_
      refine lv_iconst (v := 1) hx hb d_UN_addWay_40 (by decide) ?_
      refine lv_iadd hx hb d_UN_addWay_41 ?_
      refine va_iast hx hb hK hw.1 hw.2.1 hw.2.2 15 0 rfl rfl hc1 d_UN_addWay_42 (fun H locs hP hD hS => ?_)
      have hw : fw_H D vwCl A s.heap (wC ad cI cL kk kn le ff fo ct fx gv pg cu co sg ru nu tg sc (upd sr ct.toNatClampNeg ((sr ct.toNatClampNeg) + (1 : Int32))) (vp_updL wy (sr ct.toNatClampNeg).toNatClampNeg u1)) H locs := ⟨hP, hD, hS⟩
      have q := Option.some.inj h
      subst q
      exact fw_vret hQ S hr hlk hX hw d_UN_addWay_43
set_option maxHeartbeats 4000000 in
set_option maxRecDepth 100000 in
theorem ct_UN_haveWays (l : Launch) (D : va_G) (ad : Nat → Nat) (cI cL : ClassId) (N : Nat) (kk : Nat) (kn : Int32) (le : Int64) (ff : Int64) (fo : Int32) (ct : Int32) (fx : Int32) (gv : Nat → Int32) (pg : Nat → Int32) (cu : Nat → Int32) (co : Nat → Int32) (sg : Nat → Int32) (ru : Nat → Int32) (nu : Nat → Int32) (tg : Nat → Int32) (sc : Nat → Int64) (sr : Nat → Int32) (wy : Nat → Int64)  (out : Int32) (h : mi_UN_haveWays N ct sr = some out) : fw_C l y_UN_haveWays (.code y_UN_haveWays b_UN_haveWays 2 (some .boolean) :: Gw) (fr 0 0) D vwCl (tyA cI cL) [.ref (ad 5)] (wC ad cI cL kk kn le ff fo ct fx gv pg cu co sg ru nu tg sc sr wy) (some (.int out)) (wC ad cI cL kk kn le ff fo ct fx gv pg cu co sg ru nu tg sc sr wy) := by
  refine fw_of (by decide) (Nat.le_of_ble_eq_true rfl) ?_
  intro p e s m args below meth c ls A R Q hR hQ S hr hlk hX hA hl hw
  have hK := hX.1
  have hx := S.1
  have hb := S.2.1
  have hown := S.2.2.2.1
  have hg := S.2.2.2.2
  have hl : lv_has ls 2 [(0, .ref (ad 5))] := hl
  unfold mi_UN_haveWays at h
  refine lv_iconst (v := 0) hx hb d_UN_haveWays_0 (by decide) ?_
  refine lv_istore_n (lv' := [(1, .int (0 : Int32)), (0, .ref (ad 5))]) hx hb d_UN_haveWays_1 rfl hl (by decide) rfl (fun ls hl => ?_)
  have X2 : ∀ (y2 : Int32), mr_UN_haveWays_2 y2 = some out → ∀ (ls : Array Slot) (H : Heap) (locs : List Loc), lv_has ls 2 [] → fw_H D vwCl A s.heap (wC ad cI cL kk kn le ff fo ct fx gv pg cu co sg ru nu tg sc sr wy) H locs → W p l e R s m args below meth c H locs 0 0 Q (F0 m 35 ls []) := by
    intro y2 h ls H locs hl hw
    unfold mr_UN_haveWays_2 at h
    refine lv_iconst (v := 1) hx hb d_UN_haveWays_35 (by decide) ?_
    have q := Option.some.inj h
    subst q
    exact fw_zret hQ S hr rfl hlk hX hw d_UN_haveWays_36
  have L2 : ∀ (n2 : Nat) (x2 : Int32) (e2 : (Int32) ⊕ (Int32)), lp (mb_UN_haveWays_2 ct sr) n2 x2 = some e2 → (Sum.elim (mr_UN_haveWays_2) (fun z => some z)) e2 = some out → ∀ (ls : Array Slot) (H : Heap) (locs : List Loc), lv_has ls 2 [(0, .ref (ad 5)), (1, .int x2)] → fw_H D vwCl A s.heap (wC ad cI cL kk kn le ff fo ct fx gv pg cu co sg ru nu tg sc sr wy) H locs → W p l e R s m args below meth c H locs 0 0 Q (F0 m 2 ls []) := by
    intro n2
    induction n2 with
    | zero => intro x2 e2 h1; exact absurd h1 lp_0
    | succ n2 ih2 =>
      intro x2 e2 h1 hr2 ls H locs hl hw
      rw [lp_s] at h1
      refine ob h1 (fun r2 h hk2 => ?_)
      unfold mb_UN_haveWays_2 at h
      refine lv_iload_n hx hb d_UN_haveWays_2 rfl (lv_at hl 1 rfl) ?_
      refine lv_aload_n hx hb d_UN_haveWays_3 rfl (lv_at hl 0 rfl) ?_
      refine va_get (ci := 5) (v := .int ct) (C := R_UN) (T := F_UN) (N := 5) hx hb hg in_UN hown hK hw.1 5 rfl rfl 3 (by decide) (hg _ q_134) (fun _ h9 => h9) rfl d_UN_haveWays_4 ?_
      refine lv_icmp_ge (tgt := 35) hx hb d_UN_haveWays_7 (by decide) (fun hc => ?_) (fun hc => ?_)
      · have h := oi h hc
        have q := Option.some.inj h
        subst q
        have q := Option.some.inj hk2
        subst q
        exact X2 x2 hr2 _ _ _ (lv_sub hl [] rfl) hw
      · have h := oe h hc
        refine lv_aload_n hx hb d_UN_haveWays_10 rfl (lv_at hl 0 rfl) ?_
        refine va_get (ci := 5) (v := .ref (ad 15)) (C := R_UN) (T := F_UN) (N := 5) hx hb hg in_UN hown hK hw.1 5 rfl rfl 1 (by decide) (hg _ q_132) (fun _ h9 => h9) rfl d_UN_haveWays_11 ?_
        refine lv_iload_n hx hb d_UN_haveWays_14 rfl (lv_at hl 1 rfl) ?_
        refine oc h (fun hc1 h => ?_)
        refine va_iald hx hb hK hw.1 15 0 rfl rfl hc1 d_UN_haveWays_15 ?_
        refine lv_aload_n hx hb d_UN_haveWays_16 rfl (lv_at hl 0 rfl) ?_
        refine va_get (ci := 5) (v := .ref (ad 15)) (C := R_UN) (T := F_UN) (N := 5) hx hb hg in_UN hown hK hw.1 5 rfl rfl 1 (by decide) (hg _ q_132) (fun _ h9 => h9) rfl d_UN_haveWays_17 ?_
        refine lv_iload_n hx hb d_UN_haveWays_20 rfl (lv_at hl 1 rfl) ?_
        refine lv_iconst (v := 1) hx hb d_UN_haveWays_21 (by decide) ?_
        refine lv_iadd hx hb d_UN_haveWays_22 ?_
        refine oc h (fun hc2 h => ?_)
        refine va_iald hx hb hK hw.1 15 0 rfl rfl hc2 d_UN_haveWays_23 ?_
        refine lv_icmp_ne (tgt := 29) hx hb d_UN_haveWays_24 (by decide) (fun hc => ?_) (fun hc => ?_)
        · have h := oe h hc
          refine lv_iinc (k := 1) (v := x2 + 1) (lv' := [(1, .int (x2 + 1)), (0, .ref (ad 5))]) hx hb d_UN_haveWays_29 hl rfl (by rw [lit1]) (by decide) rfl (fun ls hl => ?_)
          refine lv_goto (tgt := 2) hx hb d_UN_haveWays_32 (by decide) ?_
          have q := Option.some.inj h
          subst q
          exact ih2 (x2 + 1) e2 hk2 hr2 _ _ _ (lv_sub hl [1, 0] rfl) hw
        · have h := oi h hc
          refine lv_iconst (v := 0) hx hb d_UN_haveWays_27 (by decide) ?_
          have q := Option.some.inj h
          subst q
          have q := Option.some.inj hk2
          subst q
          have q := Option.some.inj hr2
          subst q
          exact fw_zret hQ S hr rfl hlk hX hw d_UN_haveWays_28
  refine ob h (fun e2 h1 h2 => ?_)
  exact L2 N (0 : Int32) e2 h1 h2 _ _ _ (lv_sub hl [1, 0] rfl) hw
set_option maxHeartbeats 4000000 in
set_option maxRecDepth 100000 in
theorem ct_UN_keptBy (l : Launch) (D : va_G) (ad : Nat → Nat) (cI cL : ClassId) (N : Nat) (kk : Nat) (kn : Int32) (le : Int64) (ff : Int64) (fo : Int32) (ct : Int32) (fx : Int32) (gv : Nat → Int32) (pg : Nat → Int32) (cu : Nat → Int32) (co : Nat → Int32) (sg : Nat → Int32) (ru : Nat → Int32) (nu : Nat → Int32) (tg : Nat → Int32) (sc : Nat → Int64) (sr : Nat → Int32) (wy : Nat → Int64) (u1 : Int32) (u2 : Int64) (out : Int64) (h : mi_UN_keptBy N sc sr wy u1 u2 = some out) : fw_C l y_UN_keptBy (.code y_UN_keptBy b_UN_keptBy 9 (some .long) :: Gw) (fr 0 0) D vwCl (tyA cI cL) [.ref (ad 5), .int u1, .long u2] (wC ad cI cL kk kn le ff fo ct fx gv pg cu co sg ru nu tg sc sr wy) (some (.long out)) (wC ad cI cL kk kn le ff fo ct fx gv pg cu co sg ru nu tg sc sr wy) := by
  refine fw_of (by decide) (Nat.le_of_ble_eq_true rfl) ?_
  intro p e s m args below meth c ls A R Q hR hQ S hr hlk hX hA hl hw
  have hK := hX.1
  have hx := S.1
  have hb := S.2.1
  have hown := S.2.2.2.1
  have hg := S.2.2.2.2
  have hl : lv_has ls 9 [(0, .ref (ad 5)), (1, .int u1), (2, .long u2)] := hl
  unfold mi_UN_keptBy at h
  refine lv_lload_n hx hb d_UN_keptBy_0 rfl (lv_at hl 2 rfl) ?_
  refine lv_ldc2 (v := (-1)) hx hb hown (hg _ q_401) d_UN_keptBy_1 ?_
  refine lv_lxor hx hb d_UN_keptBy_4 ?_
  refine lv_lstore (lv' := [(4, .long (u2 ^^^ (-1 : Int64))), (0, .ref (ad 5)), (1, .int u1), (2, .long u2)]) hx hb d_UN_keptBy_5 hl (by decide) rfl (fun ls hl => ?_)
  refine lv_aload_n hx hb d_UN_keptBy_7 rfl (lv_at hl 1 rfl) ?_
  refine va_get (ci := 5) (v := .ref (ad 14)) (C := R_UN) (T := F_UN) (N := 5) hx hb hg in_UN hown hK hw.1 5 rfl rfl 0 (by decide) (hg _ q_131) (fun _ h9 => h9) rfl d_UN_keptBy_8 ?_
  refine lv_iload_n hx hb d_UN_keptBy_11 rfl (lv_at hl 2 rfl) ?_
  refine oc h (fun hc1 h => ?_)
  refine va_lald hx hb hK hw.1 14 1 rfl rfl hc1 d_UN_keptBy_12 ?_
  refine lv_ldc2 (v := (-1)) hx hb hown (hg _ q_401) d_UN_keptBy_13 ?_
  refine lv_lxor hx hb d_UN_keptBy_16 ?_
  refine lv_lstore (lv' := [(6, .long ((sc u1.toNatClampNeg) ^^^ (-1 : Int64))), (4, .long (u2 ^^^ (-1 : Int64))), (0, .ref (ad 5)), (1, .int u1), (2, .long u2)]) hx hb d_UN_keptBy_17 hl (by decide) rfl (fun ls hl => ?_)
  refine lv_aload_n hx hb d_UN_keptBy_19 rfl (lv_at hl 2 rfl) ?_
  refine va_get (ci := 5) (v := .ref (ad 15)) (C := R_UN) (T := F_UN) (N := 5) hx hb hg in_UN hown hK hw.1 5 rfl rfl 1 (by decide) (hg _ q_132) (fun _ h9 => h9) rfl d_UN_keptBy_20 ?_
  refine lv_iload_n hx hb d_UN_keptBy_23 rfl (lv_at hl 3 rfl) ?_
  refine oc h (fun hc2 h => ?_)
  refine va_iald hx hb hK hw.1 15 0 rfl rfl hc2 d_UN_keptBy_24 ?_
  refine lv_istore (lv' := [(8, .int (sr u1.toNatClampNeg)), (6, .long ((sc u1.toNatClampNeg) ^^^ (-1 : Int64))), (4, .long (u2 ^^^ (-1 : Int64))), (0, .ref (ad 5)), (1, .int u1), (2, .long u2)]) hx hb d_UN_keptBy_25 hl (by decide) rfl (fun ls hl => ?_)
  have X27 : ∀ (y27 : Int64 × Int32), mr_UN_keptBy_27 y27 = some out → ∀ (ls : Array Slot) (H : Heap) (locs : List Loc), lv_has ls 9 [(6, .long y27.1)] → fw_H D vwCl A s.heap (wC ad cI cL kk kn le ff fo ct fx gv pg cu co sg ru nu tg sc sr wy) H locs → W p l e R s m args below meth c H locs 0 0 Q (F0 m 73 ls []) := by
    intro y27 h ls H locs hl hw
    unfold mr_UN_keptBy_27 at h
    refine lv_lload hx hb d_UN_keptBy_73 (lv_at hl 0 rfl) ?_
    have q := Option.some.inj h
    subst q
    exact fw_lret hQ S hr hlk hX hw d_UN_keptBy_75
  have L27 : ∀ (n27 : Nat) (x27 : Int64 × Int32) (e27 : Int64 × Int32), lp (mb_UN_keptBy_27 sr wy u1 u2) n27 x27 = some e27 → (mr_UN_keptBy_27) e27 = some out → ∀ (ls : Array Slot) (H : Heap) (locs : List Loc), lv_has ls 9 [(0, .ref (ad 5)), (1, .int u1), (4, .long (u2 ^^^ (-1 : Int64))), (6, .long x27.1), (8, .int x27.2)] → fw_H D vwCl A s.heap (wC ad cI cL kk kn le ff fo ct fx gv pg cu co sg ru nu tg sc sr wy) H locs → W p l e R s m args below meth c H locs 0 0 Q (F0 m 27 ls []) := by
    intro n27
    induction n27 with
    | zero => intro x27 e27 h1; exact absurd h1 lp_0
    | succ n27 ih27 =>
      intro x27 e27 h1 hr27 ls H locs hl hw
      rw [lp_s] at h1
      refine ob h1 (fun r27 h hk27 => ?_)
      unfold mb_UN_keptBy_27 at h
      refine lv_iload hx hb d_UN_keptBy_27 (lv_at hl 4 rfl) ?_
      refine lv_aload_n hx hb d_UN_keptBy_29 rfl (lv_at hl 0 rfl) ?_
      refine va_get (ci := 5) (v := .ref (ad 15)) (C := R_UN) (T := F_UN) (N := 5) hx hb hg in_UN hown hK hw.1 5 rfl rfl 1 (by decide) (hg _ q_132) (fun _ h9 => h9) rfl d_UN_keptBy_30 ?_
      refine lv_iload_n hx hb d_UN_keptBy_33 rfl (lv_at hl 1 rfl) ?_
      refine lv_iconst (v := 1) hx hb d_UN_keptBy_34 (by decide) ?_
      refine lv_iadd hx hb d_UN_keptBy_35 ?_
      refine oc h (fun hc3 h => ?_)
      refine va_iald hx hb hK hw.1 15 0 rfl rfl hc3 d_UN_keptBy_36 ?_
      refine lv_icmp_ge (tgt := 73) hx hb d_UN_keptBy_37 (by decide) (fun hc => ?_) (fun hc => ?_)
      · have h := oi h hc
        have q := Option.some.inj h
        subst q
        have q := Option.some.inj hk27
        subst q
        exact X27 (x27.1, x27.2) hr27 _ _ _ (lv_sub hl [3] rfl) hw
      · have h := oe h hc
        refine lv_aload_n hx hb d_UN_keptBy_40 rfl (lv_at hl 0 rfl) ?_
        refine va_get (ci := 5) (v := .ref (ad 16)) (C := R_UN) (T := F_UN) (N := 5) hx hb hg in_UN hown hK hw.1 5 rfl rfl 2 (by decide) (hg _ q_133) (fun _ h9 => h9) rfl d_UN_keptBy_41 ?_
        refine lv_iload hx hb d_UN_keptBy_44 (lv_at hl 4 rfl) ?_
        refine oc h (fun hc4 h => ?_)
        refine va_lald hx hb hK hw.1 16 1 rfl rfl hc4 d_UN_keptBy_46 ?_
        refine lv_lload hx hb d_UN_keptBy_47 (lv_at hl 2 rfl) ?_
        refine lv_land hx hb d_UN_keptBy_49 ?_
        refine lv_lconst (v := 0) hx hb d_UN_keptBy_50 (by decide) ?_
        refine fw_lcmpN (tgt := 67) hx hb d_UN_keptBy_51 d_UN_keptBy_52 (by decide) (fun hc => ?_) (fun hc => ?_)
        · have h := oe h hc
          refine lv_iinc (k := 4) (v := x27.2 + 1) (lv' := [(8, .int (x27.2 + 1)), (0, .ref (ad 5)), (1, .int u1), (4, .long (u2 ^^^ (-1 : Int64))), (6, .long x27.1)]) hx hb d_UN_keptBy_67 hl rfl (by rw [lit1]) (by decide) rfl (fun ls hl => ?_)
          refine lv_goto (tgt := 27) hx hb d_UN_keptBy_70 (by decide) ?_
          have q := Option.some.inj h
          subst q
          exact ih27 (x27.1, x27.2 + 1) e27 hk27 hr27 _ _ _ (lv_sub hl [1, 2, 3, 4, 0] rfl) hw
        · have h := oi h hc
          refine lv_lload hx hb d_UN_keptBy_55 (lv_at hl 3 rfl) ?_
          refine lv_aload_n hx hb d_UN_keptBy_57 rfl (lv_at hl 0 rfl) ?_
          refine va_get (ci := 5) (v := .ref (ad 16)) (C := R_UN) (T := F_UN) (N := 5) hx hb hg in_UN hown hK hw.1 5 rfl rfl 2 (by decide) (hg _ q_133) (fun _ h9 => h9) rfl d_UN_keptBy_58 ?_
          refine lv_iload hx hb d_UN_keptBy_61 (lv_at hl 4 rfl) ?_
          refine va_lald hx hb hK hw.1 16 1 rfl rfl hc4 d_UN_keptBy_63 ?_
          refine lv_lor hx hb d_UN_keptBy_64 ?_
          refine lv_lstore (lv' := [(6, .long (x27.1 ||| (wy x27.2.toNatClampNeg))), (0, .ref (ad 5)), (1, .int u1), (4, .long (u2 ^^^ (-1 : Int64))), (8, .int x27.2)]) hx hb d_UN_keptBy_65 hl (by decide) rfl (fun ls hl => ?_)
          refine lv_iinc (k := 4) (v := x27.2 + 1) (lv' := [(8, .int (x27.2 + 1)), (6, .long (x27.1 ||| (wy x27.2.toNatClampNeg))), (0, .ref (ad 5)), (1, .int u1), (4, .long (u2 ^^^ (-1 : Int64)))]) hx hb d_UN_keptBy_67 hl rfl (by rw [lit1]) (by decide) rfl (fun ls hl => ?_)
          refine lv_goto (tgt := 27) hx hb d_UN_keptBy_70 (by decide) ?_
          have q := Option.some.inj h
          subst q
          exact ih27 (x27.1 ||| (wy x27.2.toNatClampNeg), x27.2 + 1) e27 hk27 hr27 _ _ _ (lv_sub hl [2, 3, 4, 1, 0] rfl) hw
  refine ob h (fun e27 h1 h2 => ?_)
  exact L27 N ((sc u1.toNatClampNeg) ^^^ (-1 : Int64), sr u1.toNatClampNeg) e27 h1 h2 _ _ _ (lv_sub hl [3, 4, 2, 1, 0] rfl) hw
set_option maxHeartbeats 4000000 in
set_option maxRecDepth 100000 in
theorem ct_UN_keptAtOnce (l : Launch) (D : va_G) (ad : Nat → Nat) (cI cL : ClassId) (N : Nat) (kk : Nat) (kn : Int32) (le : Int64) (ff : Int64) (fo : Int32) (ct : Int32) (fx : Int32) (gv : Nat → Int32) (pg : Nat → Int32) (cu : Nat → Int32) (co : Nat → Int32) (sg : Nat → Int32) (ru : Nat → Int32) (nu : Nat → Int32) (tg : Nat → Int32) (sc : Nat → Int64) (sr : Nat → Int32) (wy : Nat → Int64) (u1 : Int64) (out : Int64) (h : mi_UN_keptAtOnce N ct sc sr wy u1 = some out) : fw_C l y_UN_keptAtOnce (.code y_UN_keptAtOnce b_UN_keptAtOnce 6 (some .long) :: Gw) (fr 1 28) D vwCl (tyA cI cL) [.ref (ad 5), .long u1] (wC ad cI cL kk kn le ff fo ct fx gv pg cu co sg ru nu tg sc sr wy) (some (.long out)) (wC ad cI cL kk kn le ff fo ct fx gv pg cu co sg ru nu tg sc sr wy) := by
  refine fw_of (by decide) (Nat.le_of_ble_eq_true rfl) ?_
  intro p e s m args below meth c ls A R Q hR hQ S hr hlk hX hA hl hw
  have hK := hX.1
  have hx := S.1
  have hb := S.2.1
  have hown := S.2.2.2.1
  have hg := S.2.2.2.2
  have hl : lv_has ls 6 [(0, .ref (ad 5)), (1, .long u1)] := hl
  unfold mi_UN_keptAtOnce at h
  refine lv_lload_n hx hb d_UN_keptAtOnce_0 rfl (lv_at hl 1 rfl) ?_
  refine lv_lstore_n (lv' := [(3, .long u1), (0, .ref (ad 5)), (1, .long u1)]) hx hb d_UN_keptAtOnce_1 rfl hl (by decide) rfl (fun ls hl => ?_)
  refine lv_iconst (v := 0) hx hb d_UN_keptAtOnce_2 (by decide) ?_
  refine lv_istore (lv' := [(5, .int (0 : Int32)), (3, .long u1), (0, .ref (ad 5)), (1, .long u1)]) hx hb d_UN_keptAtOnce_3 hl (by decide) rfl (fun ls hl => ?_)
  have X5 : ∀ (y5 : Int64 × Int32), mr_UN_keptAtOnce_5 y5 = some out → ∀ (ls : Array Slot) (H : Heap) (locs : List Loc), lv_has ls 6 [(3, .long y5.1)] → fw_H D vwCl A s.heap (wC ad cI cL kk kn le ff fo ct fx gv pg cu co sg ru nu tg sc sr wy) H locs → W p l e R s m args below meth c H locs 0 0 Q (F0 m 30 ls []) := by
    intro y5 h ls H locs hl hw
    unfold mr_UN_keptAtOnce_5 at h
    refine lv_lload_n hx hb d_UN_keptAtOnce_30 rfl (lv_at hl 0 rfl) ?_
    have q := Option.some.inj h
    subst q
    exact fw_lret hQ S hr hlk hX hw d_UN_keptAtOnce_31
  have L5 : ∀ (n5 : Nat) (x5 : Int64 × Int32) (e5 : Int64 × Int32), lp (mb_UN_keptAtOnce_5 N ct sc sr wy u1) n5 x5 = some e5 → (mr_UN_keptAtOnce_5) e5 = some out → ∀ (ls : Array Slot) (H : Heap) (locs : List Loc), lv_has ls 6 [(0, .ref (ad 5)), (1, .long u1), (3, .long x5.1), (5, .int x5.2)] → fw_H D vwCl A s.heap (wC ad cI cL kk kn le ff fo ct fx gv pg cu co sg ru nu tg sc sr wy) H locs → W p l e R s m args below meth c H locs 0 0 Q (F0 m 5 ls []) := by
    intro n5
    induction n5 with
    | zero => intro x5 e5 h1; exact absurd h1 lp_0
    | succ n5 ih5 =>
      intro x5 e5 h1 hr5 ls H locs hl hw
      rw [lp_s] at h1
      refine ob h1 (fun r5 h hk5 => ?_)
      unfold mb_UN_keptAtOnce_5 at h
      refine lv_iload hx hb d_UN_keptAtOnce_5 (lv_at hl 3 rfl) ?_
      refine lv_aload_n hx hb d_UN_keptAtOnce_7 rfl (lv_at hl 0 rfl) ?_
      refine va_get (ci := 5) (v := .int ct) (C := R_UN) (T := F_UN) (N := 5) hx hb hg in_UN hown hK hw.1 5 rfl rfl 3 (by decide) (hg _ q_134) (fun _ h9 => h9) rfl d_UN_keptAtOnce_8 ?_
      refine lv_icmp_ge (tgt := 30) hx hb d_UN_keptAtOnce_11 (by decide) (fun hc => ?_) (fun hc => ?_)
      · have h := oi h hc
        have q := Option.some.inj h
        subst q
        have q := Option.some.inj hk5
        subst q
        exact X5 (x5.1, x5.2) hr5 _ _ _ (lv_sub hl [2] rfl) hw
      · have h := oe h hc
        refine lv_lload_n hx hb d_UN_keptAtOnce_14 rfl (lv_at hl 2 rfl) ?_
        refine lv_aload_n hx hb d_UN_keptAtOnce_15 rfl (lv_at hl 0 rfl) ?_
        refine lv_iload hx hb d_UN_keptAtOnce_16 (lv_at hl 3 rfl) ?_
        refine lv_lload_n hx hb d_UN_keptAtOnce_18 rfl (lv_at hl 1 rfl) ?_
        refine ob h (fun r19 h19 h => ?_)
        refine fw_callV (As := [.int x5.2, .long u1]) (rest := [.long x5.1]) (st1 := [.long r19, .long x5.1]) S (ct_UN_keptBy l D ad cI cL N kk kn le ff fo ct fx gv pg cu co sg ru nu tg sc sr wy x5.2 u1 r19 h19) q_397 q_399 s_11 q_7 k_UN_keptBy hd_UN_keptBy ⟨by rw [hR]; decide, by rw [hR]; decide⟩ rfl rfl hX hw hA 5 (ci := 5) rfl rfl hl.1 rfl rfl (Nat.le_of_ble_eq_true rfl) d_UN_keptAtOnce_19 ⟨Nat.zero_le _, Nat.zero_le _⟩ rfl (fun H locs hw => ?_)
        refine lv_land hx hb d_UN_keptAtOnce_22 ?_
        refine lv_lstore_n (lv' := [(3, .long (x5.1 &&& r19)), (0, .ref (ad 5)), (1, .long u1), (5, .int x5.2)]) hx hb d_UN_keptAtOnce_23 rfl hl (by decide) rfl (fun ls hl => ?_)
        refine lv_iinc (k := 3) (v := x5.2 + 1) (lv' := [(5, .int (x5.2 + 1)), (3, .long (x5.1 &&& r19)), (0, .ref (ad 5)), (1, .long u1)]) hx hb d_UN_keptAtOnce_24 hl rfl (by rw [lit1]) (by decide) rfl (fun ls hl => ?_)
        refine lv_goto (tgt := 5) hx hb d_UN_keptAtOnce_27 (by decide) ?_
        have q := Option.some.inj h
        subst q
        exact ih5 (x5.1 &&& r19, x5.2 + 1) e5 hk5 hr5 _ _ _ (lv_sub hl [2, 3, 1, 0] rfl) hw
  refine ob h (fun e5 h1 h2 => ?_)
  exact L5 N (u1, (0 : Int32)) e5 h1 h2 _ _ _ (lv_sub hl [2, 3, 1, 0] rfl) hw
set_option maxHeartbeats 4000000 in
set_option maxRecDepth 100000 in
theorem ct_UN_narrow (l : Launch) (D : va_G) (ad : Nat → Nat) (cI cL : ClassId) (N : Nat) (kk : Nat) (kn : Int32) (le : Int64) (ff : Int64) (fo : Int32) (ct : Int32) (fx : Int32) (gv : Nat → Int32) (pg : Nat → Int32) (cu : Nat → Int32) (co : Nat → Int32) (sg : Nat → Int32) (ru : Nat → Int32) (nu : Nat → Int32) (tg : Nat → Int32) (sc : Nat → Int64) (sr : Nat → Int32) (wy : Nat → Int64) (u1 : Int64) (u3 : Int64) (out : Int64) (h : mi_UN_narrow N ct sc sr wy u1 u3 = some out) : fw_C l y_UN_narrow (.code y_UN_narrow b_UN_narrow 13 (some .long) :: Gw) (fr 1 28) D vwCl (tyA cI cL) [.ref (ad 5), .long u1, .long u3] (wC ad cI cL kk kn le ff fo ct fx gv pg cu co sg ru nu tg sc sr wy) (some (.long out)) (wC ad cI cL kk kn le ff fo ct fx gv pg cu co sg ru nu tg sc sr wy) := by
  refine fw_of (by decide) (Nat.le_of_ble_eq_true rfl) ?_
  intro p e s m args below meth c ls A R Q hR hQ S hr hlk hX hA hl hw
  have hK := hX.1
  have hx := S.1
  have hb := S.2.1
  have hown := S.2.2.2.1
  have hg := S.2.2.2.2
  have hl : lv_has ls 13 [(0, .ref (ad 5)), (1, .long u1), (3, .long u3)] := hl
  unfold mi_UN_narrow at h
  refine lv_lload_n hx hb d_UN_narrow_0 rfl (lv_at hl 1 rfl) ?_
  refine lv_lstore (lv' := [(5, .long u1), (0, .ref (ad 5)), (1, .long u1), (3, .long u3)]) hx hb d_UN_narrow_1 hl (by decide) rfl (fun ls hl => ?_)
  refine lv_lload_n hx hb d_UN_narrow_3 rfl (lv_at hl 3 rfl) ?_
  refine lv_lstore (lv' := [(7, .long u3), (5, .long u1), (0, .ref (ad 5)), (1, .long u1), (3, .long u3)]) hx hb d_UN_narrow_4 hl (by decide) rfl (fun ls hl => ?_)
  refine lv_iconst (v := 0) hx hb d_UN_narrow_6 (by decide) ?_
  refine lv_istore (lv' := [(9, .int (0 : Int32)), (7, .long u3), (5, .long u1), (0, .ref (ad 5)), (1, .long u1), (3, .long u3)]) hx hb d_UN_narrow_7 hl (by decide) rfl (fun ls hl => ?_)
  have X9 : ∀ (y9 : Int64 × Int64 × Int32), mr_UN_narrow_9 y9 = some out → ∀ (ls : Array Slot) (H : Heap) (locs : List Loc), lv_has ls 13 [(5, .long y9.1)] → fw_H D vwCl A s.heap (wC ad cI cL kk kn le ff fo ct fx gv pg cu co sg ru nu tg sc sr wy) H locs → W p l e R s m args below meth c H locs 0 0 Q (F0 m 107 ls []) := by
    intro y9 h ls H locs hl hw
    unfold mr_UN_narrow_9 at h
    refine lv_lload hx hb d_UN_narrow_107 (lv_at hl 0 rfl) ?_
    have q := Option.some.inj h
    subst q
    exact fw_lret hQ S hr hlk hX hw d_UN_narrow_109
  have L9 : ∀ (n9 : Nat) (x9 : Int64 × Int64 × Int32) (e9 : (Int64 × Int64 × Int32) ⊕ (Int64)), lp (mb_UN_narrow_9 N ct sc sr wy) n9 x9 = some e9 → (Sum.elim (mr_UN_narrow_9) (fun z => some z)) e9 = some out → ∀ (ls : Array Slot) (H : Heap) (locs : List Loc), lv_has ls 13 [(0, .ref (ad 5)), (5, .long x9.1), (7, .long x9.2.1), (9, .int x9.2.2)] → fw_H D vwCl A s.heap (wC ad cI cL kk kn le ff fo ct fx gv pg cu co sg ru nu tg sc sr wy) H locs → W p l e R s m args below meth c H locs 0 0 Q (F0 m 9 ls []) := by
    intro n9
    induction n9 with
    | zero => intro x9 e9 h1; exact absurd h1 lp_0
    | succ n9 ih9 =>
      intro x9 e9 h1 hr9 ls H locs hl hw
      rw [lp_s] at h1
      refine ob h1 (fun r9 h hk9 => ?_)
      unfold mb_UN_narrow_9 at h
      refine lv_iload hx hb d_UN_narrow_9 (lv_at hl 3 rfl) ?_
      refine lv_bipush (v := 64) hx hb d_UN_narrow_11 (by decide) ?_
      refine lv_icmp_gt (tgt := 107) hx hb d_UN_narrow_13 (by decide) (fun hc => ?_) (fun hc => ?_)
      · have h := oi h hc
        have q := Option.some.inj h
        subst q
        have q := Option.some.inj hk9
        subst q
        exact X9 (x9.1, x9.2.1, x9.2.2) hr9 _ _ _ (lv_sub hl [1] rfl) hw
      · have h := oe h hc
        refine lv_lload hx hb d_UN_narrow_16 (lv_at hl 2 rfl) ?_
        refine lv_lconst (v := 0) hx hb d_UN_narrow_18 (by decide) ?_
        refine fw_lcmpE (tgt := 107) hx hb d_UN_narrow_19 d_UN_narrow_20 (by decide) (fun hc => ?_) (fun hc => ?_)
        · have h := oi h hc
          have q := Option.some.inj h
          subst q
          have q := Option.some.inj hk9
          subst q
          exact X9 (x9.1, x9.2.1, x9.2.2) hr9 _ _ _ (lv_sub hl [1] rfl) hw
        · have h := oe h hc
          refine lv_lload hx hb d_UN_narrow_23 (lv_at hl 1 rfl) ?_
          refine lv_lstore (lv' := [(10, .long x9.1), (0, .ref (ad 5)), (5, .long x9.1), (7, .long x9.2.1), (9, .int x9.2.2)]) hx hb d_UN_narrow_25 hl (by decide) rfl (fun ls hl => ?_)
          refine lv_iconst (v := 0) hx hb d_UN_narrow_27 (by decide) ?_
          refine lv_istore (lv' := [(12, .int (0 : Int32)), (10, .long x9.1), (0, .ref (ad 5)), (5, .long x9.1), (7, .long x9.2.1), (9, .int x9.2.2)]) hx hb d_UN_narrow_28 hl (by decide) rfl (fun ls hl => ?_)
          have X30 : ∀ (y30 : Int64 × Int32), mr_UN_narrow_30 x9 y30 = some r9 → ∀ (ls : Array Slot) (H : Heap) (locs : List Loc), lv_has ls 13 [(0, .ref (ad 5)), (5, .long y30.1), (9, .int x9.2.2), (10, .long x9.1)] → fw_H D vwCl A s.heap (wC ad cI cL kk kn le ff fo ct fx gv pg cu co sg ru nu tg sc sr wy) H locs → W p l e R s m args below meth c H locs 0 0 Q (F0 m 90 ls []) := by
            intro y30 h ls H locs hl hw
            unfold mr_UN_narrow_30 at h
            refine lv_lload hx hb d_UN_narrow_90 (lv_at hl 3 rfl) ?_
            refine lv_lload hx hb d_UN_narrow_92 (lv_at hl 1 rfl) ?_
            refine lv_ldc2 (v := (-1)) hx hb hown (hg _ q_401) d_UN_narrow_94 ?_
            refine lv_lxor hx hb d_UN_narrow_97 ?_
            refine lv_land hx hb d_UN_narrow_98 ?_
            refine lv_lstore (lv' := [(7, .long (x9.1 &&& (y30.1 ^^^ (-1 : Int64)))), (0, .ref (ad 5)), (5, .long y30.1), (9, .int x9.2.2), (10, .long x9.1)]) hx hb d_UN_narrow_99 hl (by decide) rfl (fun ls hl => ?_)
            refine lv_iinc (k := 3) (v := x9.2.2 + 1) (lv' := [(9, .int (x9.2.2 + 1)), (7, .long (x9.1 &&& (y30.1 ^^^ (-1 : Int64)))), (0, .ref (ad 5)), (5, .long y30.1), (10, .long x9.1)]) hx hb d_UN_narrow_101 hl rfl (by rw [lit1]) (by decide) rfl (fun ls hl => ?_)
            refine lv_goto (tgt := 9) hx hb d_UN_narrow_104 (by decide) ?_
            have q := Option.some.inj h
            subst q
            exact ih9 (y30.1, x9.1 &&& (y30.1 ^^^ (-1 : Int64)), x9.2.2 + 1) e9 hk9 hr9 _ _ _ (lv_sub hl [2, 3, 1, 0] rfl) hw
          have L30 : ∀ (n30 : Nat) (x30 : Int64 × Int32) (e30 : (Int64 × Int32) ⊕ (Int64)), lp (mb_UN_narrow_30 N ct sc sr wy x9) n30 x30 = some e30 → (Sum.elim (mr_UN_narrow_30 x9) (fun z => some (.inr (.inr z)))) e30 = some r9 → ∀ (ls : Array Slot) (H : Heap) (locs : List Loc), lv_has ls 13 [(0, .ref (ad 5)), (5, .long x30.1), (7, .long x9.2.1), (9, .int x9.2.2), (10, .long x9.1), (12, .int x30.2)] → fw_H D vwCl A s.heap (wC ad cI cL kk kn le ff fo ct fx gv pg cu co sg ru nu tg sc sr wy) H locs → W p l e R s m args below meth c H locs 0 0 Q (F0 m 30 ls []) := by
            intro n30
            induction n30 with
            | zero => intro x30 e30 h1; exact absurd h1 lp_0
            | succ n30 ih30 =>
              intro x30 e30 h1 hr30 ls H locs hl hw
              rw [lp_s] at h1
              refine ob h1 (fun r30 h hk30 => ?_)
              unfold mb_UN_narrow_30 at h
              refine lv_iload hx hb d_UN_narrow_30 (lv_at hl 5 rfl) ?_
              refine lv_aload_n hx hb d_UN_narrow_32 rfl (lv_at hl 0 rfl) ?_
              refine va_get (ci := 5) (v := .int ct) (C := R_UN) (T := F_UN) (N := 5) hx hb hg in_UN hown hK hw.1 5 rfl rfl 3 (by decide) (hg _ q_134) (fun _ h9 => h9) rfl d_UN_narrow_33 ?_
              refine lv_icmp_ge (tgt := 90) hx hb d_UN_narrow_36 (by decide) (fun hc => ?_) (fun hc => ?_)
              · have h := oi h hc
                have q := Option.some.inj h
                subst q
                have q := Option.some.inj hk30
                subst q
                exact X30 (x30.1, x30.2) hr30 _ _ _ (lv_sub hl [0, 1, 3, 4] rfl) hw
              · have h := oe h hc
                refine lv_aload_n hx hb d_UN_narrow_39 rfl (lv_at hl 0 rfl) ?_
                refine va_get (ci := 5) (v := .ref (ad 14)) (C := R_UN) (T := F_UN) (N := 5) hx hb hg in_UN hown hK hw.1 5 rfl rfl 0 (by decide) (hg _ q_131) (fun _ h9 => h9) rfl d_UN_narrow_40 ?_
                refine lv_iload hx hb d_UN_narrow_43 (lv_at hl 5 rfl) ?_
                refine oc h (fun hc1 h => ?_)
                refine va_lald hx hb hK hw.1 14 1 rfl rfl hc1 d_UN_narrow_45 ?_
                refine lv_lload hx hb d_UN_narrow_46 (lv_at hl 2 rfl) ?_
                refine lv_land hx hb d_UN_narrow_48 ?_
                refine lv_lconst (v := 0) hx hb d_UN_narrow_49 (by decide) ?_
                refine fw_lcmpE (tgt := 84) hx hb d_UN_narrow_50 d_UN_narrow_51 (by decide) (fun hc => ?_) (fun hc => ?_)
                · have h := oi h hc
                  refine lv_iinc (k := 5) (v := x30.2 + 1) (lv' := [(12, .int (x30.2 + 1)), (0, .ref (ad 5)), (5, .long x30.1), (7, .long x9.2.1), (9, .int x9.2.2), (10, .long x9.1)]) hx hb d_UN_narrow_84 hl rfl (by rw [lit1]) (by decide) rfl (fun ls hl => ?_)
                  refine lv_goto (tgt := 30) hx hb d_UN_narrow_87 (by decide) ?_
                  have q := Option.some.inj h
                  subst q
                  exact ih30 (x30.1, x30.2 + 1) e30 hk30 hr30 _ _ _ (lv_sub hl [1, 2, 3, 4, 5, 0] rfl) hw
                · have h := oe h hc
                  refine lv_lload hx hb d_UN_narrow_54 (lv_at hl 1 rfl) ?_
                  refine lv_aload_n hx hb d_UN_narrow_56 rfl (lv_at hl 0 rfl) ?_
                  refine lv_iload hx hb d_UN_narrow_57 (lv_at hl 5 rfl) ?_
                  refine lv_lload hx hb d_UN_narrow_59 (lv_at hl 1 rfl) ?_
                  refine ob h (fun r61 h61 h => ?_)
                  refine fw_callV (As := [.int x30.2, .long x30.1]) (rest := [.long x30.1]) (st1 := [.long r61, .long x30.1]) S (ct_UN_keptBy l D ad cI cL N kk kn le ff fo ct fx gv pg cu co sg ru nu tg sc sr wy x30.2 x30.1 r61 h61) q_397 q_399 s_11 q_7 k_UN_keptBy hd_UN_keptBy ⟨by rw [hR]; decide, by rw [hR]; decide⟩ rfl rfl hX hw hA 5 (ci := 5) rfl rfl hl.1 rfl rfl (Nat.le_of_ble_eq_true rfl) d_UN_narrow_61 ⟨Nat.zero_le _, Nat.zero_le _⟩ rfl (fun H locs hw => ?_)
                  refine lv_land hx hb d_UN_narrow_64 ?_
                  refine lv_lstore (lv' := [(5, .long (x30.1 &&& r61)), (0, .ref (ad 5)), (7, .long x9.2.1), (9, .int x9.2.2), (10, .long x9.1), (12, .int x30.2)]) hx hb d_UN_narrow_65 hl (by decide) rfl (fun ls hl => ?_)
                  refine lv_lload hx hb d_UN_narrow_67 (lv_at hl 0 rfl) ?_
                  refine lv_aload_n hx hb d_UN_narrow_69 rfl (lv_at hl 1 rfl) ?_
                  refine va_get (ci := 5) (v := .ref (ad 14)) (C := R_UN) (T := F_UN) (N := 5) hx hb hg in_UN hown hK hw.1 5 rfl rfl 0 (by decide) (hg _ q_131) (fun _ h9 => h9) rfl d_UN_narrow_70 ?_
                  refine lv_iload hx hb d_UN_narrow_73 (lv_at hl 5 rfl) ?_
                  refine va_lald hx hb hK hw.1 14 1 rfl rfl hc1 d_UN_narrow_75 ?_
                  refine lv_land hx hb d_UN_narrow_76 ?_
                  refine lv_lconst (v := 0) hx hb d_UN_narrow_77 (by decide) ?_
                  refine fw_lcmpN (tgt := 84) hx hb d_UN_narrow_78 d_UN_narrow_79 (by decide) (fun hc => ?_) (fun hc => ?_)
                  · have h := oe h hc
                    refine lv_iinc (k := 5) (v := x30.2 + 1) (lv' := [(12, .int (x30.2 + 1)), (5, .long (x30.1 &&& r61)), (0, .ref (ad 5)), (7, .long x9.2.1), (9, .int x9.2.2), (10, .long x9.1)]) hx hb d_UN_narrow_84 hl rfl (by rw [lit1]) (by decide) rfl (fun ls hl => ?_)
                    refine lv_goto (tgt := 30) hx hb d_UN_narrow_87 (by decide) ?_
                    have q := Option.some.inj h
                    subst q
                    exact ih30 (x30.1 &&& r61, x30.2 + 1) e30 hk30 hr30 _ _ _ (lv_sub hl [2, 1, 3, 4, 5, 0] rfl) hw
                  · have h := oi h hc
                    refine lv_lconst (v := 0) hx hb d_UN_narrow_82 (by decide) ?_
                    have q := Option.some.inj h
                    subst q
                    have q := Option.some.inj hk30
                    subst q
                    have q := Option.some.inj hr30
                    subst q
                    have q := Option.some.inj hk9
                    subst q
                    have q := Option.some.inj hr9
                    subst q
                    exact fw_lret hQ S hr hlk hX hw d_UN_narrow_83
          refine ob h (fun e30 h1 h2 => ?_)
          exact L30 N (x9.1, (0 : Int32)) e30 h1 h2 _ _ _ (lv_sub hl [2, 3, 4, 5, 1, 0] rfl) hw
  refine ob h (fun e9 h1 h2 => ?_)
  exact L9 N (u1, u3, (0 : Int32)) e9 h1 h2 _ _ _ (lv_sub hl [3, 2, 1, 0] rfl) hw
