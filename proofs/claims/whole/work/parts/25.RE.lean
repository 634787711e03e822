theorem d_RE_byLines_0 : decode b_RE_byLines 0 = .ok (.aload_n 0, 1) := by decide +kernel
theorem d_RE_byLines_1 : decode b_RE_byLines 1 = .ok (.getfield 12, 3) := by decide +kernel
theorem d_RE_byLines_4 : decode b_RE_byLines 4 = .ok (.lload_n 1, 1) := by decide +kernel
theorem d_RE_byLines_5 : decode b_RE_byLines 5 = .ok (.ldc2_w 18, 3) := by decide +kernel
theorem d_RE_byLines_8 : decode b_RE_byLines 8 = .ok (.invokevirtual 20, 3) := by decide +kernel
theorem d_RE_byLines_11 : decode b_RE_byLines 11 = .ok (.lreturn, 1) := by decide +kernel
theorem d_RE_firstByLines_0 : decode b_RE_firstByLines 0 = .ok (.lload_n 1, 1) := by decide +kernel
theorem d_RE_firstByLines_1 : decode b_RE_firstByLines 1 = .ok (.aload_n 0, 1) := by decide +kernel
theorem d_RE_firstByLines_2 : decode b_RE_firstByLines 2 = .ok (.getfield 12, 3) := by decide +kernel
theorem d_RE_firstByLines_5 : decode b_RE_firstByLines 5 = .ok (.lload_n 1, 1) := by decide +kernel
theorem d_RE_firstByLines_6 : decode b_RE_firstByLines 6 = .ok (.invokevirtual 32, 3) := by decide +kernel
theorem d_RE_firstByLines_9 : decode b_RE_firstByLines 9 = .ok (.ldc2_w 18, 3) := by decide +kernel
theorem d_RE_firstByLines_12 : decode b_RE_firstByLines 12 = .ok (.lxor, 1) := by decide +kernel
theorem d_RE_firstByLines_13 : decode b_RE_firstByLines 13 = .ok (.land, 1) := by decide +kernel
theorem d_RE_firstByLines_14 : decode b_RE_firstByLines 14 = .ok (.lstore_n 3, 1) := by decide +kernel
theorem d_RE_firstByLines_15 : decode b_RE_firstByLines 15 = .ok (.lload_n 3, 1) := by decide +kernel
theorem d_RE_firstByLines_16 : decode b_RE_firstByLines 16 = .ok (.lload_n 3, 1) := by decide +kernel
theorem d_RE_firstByLines_17 : decode b_RE_firstByLines 17 = .ok (.lneg, 1) := by decide +kernel
theorem d_RE_firstByLines_18 : decode b_RE_firstByLines 18 = .ok (.land, 1) := by decide +kernel
theorem d_RE_firstByLines_19 : decode b_RE_firstByLines 19 = .ok (.lreturn, 1) := by decide +kernel
theorem d_RE_firstOpenCell_0 : decode b_RE_firstOpenCell 0 = .ok (.iconst 0, 1) := by decide +kernel
theorem d_RE_firstOpenCell_1 : decode b_RE_firstOpenCell 1 = .ok (.istore_n 3, 1) := by decide +kernel
theorem d_RE_firstOpenCell_2 : decode b_RE_firstOpenCell 2 = .ok (.iload_n 3, 1) := by decide +kernel
theorem d_RE_firstOpenCell_3 : decode b_RE_firstOpenCell 3 = .ok (.aload_n 0, 1) := by decide +kernel
theorem d_RE_firstOpenCell_4 : decode b_RE_firstOpenCell 4 = .ok (.getfield 35, 3) := by decide +kernel
theorem d_RE_firstOpenCell_7 : decode b_RE_firstOpenCell 7 = .ok (.if_icmp .ge 25, 3) := by decide +kernel
theorem d_RE_firstOpenCell_10 : decode b_RE_firstOpenCell 10 = .ok (.lload_n 1, 1) := by decide +kernel
theorem d_RE_firstOpenCell_11 : decode b_RE_firstOpenCell 11 = .ok (.aload_n 0, 1) := by decide +kernel
theorem d_RE_firstOpenCell_12 : decode b_RE_firstOpenCell 12 = .ok (.iload_n 3, 1) := by decide +kernel
theorem d_RE_firstOpenCell_13 : decode b_RE_firstOpenCell 13 = .ok (.invokevirtual 70, 3) := by decide +kernel
theorem d_RE_firstOpenCell_16 : decode b_RE_firstOpenCell 16 = .ok (.land, 1) := by decide +kernel
theorem d_RE_firstOpenCell_17 : decode b_RE_firstOpenCell 17 = .ok (.invokestatic 78, 3) := by decide +kernel
theorem d_RE_firstOpenCell_20 : decode b_RE_firstOpenCell 20 = .ok (.iconst 1, 1) := by decide +kernel
theorem d_RE_firstOpenCell_21 : decode b_RE_firstOpenCell 21 = .ok (.if_icmp .le 5, 3) := by decide +kernel
theorem d_RE_firstOpenCell_24 : decode b_RE_firstOpenCell 24 = .ok (.iload_n 3, 1) := by decide +kernel
theorem d_RE_firstOpenCell_25 : decode b_RE_firstOpenCell 25 = .ok (.ireturn, 1) := by decide +kernel
theorem d_RE_firstOpenCell_26 : decode b_RE_firstOpenCell 26 = .ok (.iinc 3 1, 3) := by decide +kernel
theorem d_RE_firstOpenCell_29 : decode b_RE_firstOpenCell 29 = .ok (.goto (-27), 3) := by decide +kernel
theorem d_RE_firstOpenCell_32 : decode b_RE_firstOpenCell 32 = .ok (.iconst (-1), 1) := by decide +kernel
theorem d_RE_firstOpenCell_33 : decode b_RE_firstOpenCell 33 = .ok (.ireturn, 1) := by decide +kernel
theorem d_RE_isRefuted_0 : decode b_RE_isRefuted 0 = .ok (.aload_n 1, 1) := by decide +kernel
theorem d_RE_isRefuted_1 : decode b_RE_isRefuted 1 = .ok (.iload 4, 2) := by decide +kernel
theorem d_RE_isRefuted_3 : decode b_RE_isRefuted 3 = .ok (.iload 5, 2) := by decide +kernel
theorem d_RE_isRefuted_5 : decode b_RE_isRefuted 5 = .ok (.invokevirtual 51, 3) := by decide +kernel
theorem d_RE_isRefuted_8 : decode b_RE_isRefuted 8 = .ok (.lstore 6, 2) := by decide +kernel
theorem d_RE_isRefuted_10 : decode b_RE_isRefuted 10 = .ok (.lload_n 2, 1) := by decide +kernel
theorem d_RE_isRefuted_11 : decode b_RE_isRefuted 11 = .ok (.aload_n 1, 1) := by decide +kernel
theorem d_RE_isRefuted_12 : decode b_RE_isRefuted 12 = .ok (.iload 4, 2) := by decide +kernel
theorem d_RE_isRefuted_14 : decode b_RE_isRefuted 14 = .ok (.invokevirtual 70, 3) := by decide +kernel
theorem d_RE_isRefuted_17 : decode b_RE_isRefuted 17 = .ok (.land, 1) := by decide +kernel
theorem d_RE_isRefuted_18 : decode b_RE_isRefuted 18 = .ok (.lload 6, 2) := by decide +kernel
theorem d_RE_isRefuted_20 : decode b_RE_isRefuted 20 = .ok (.ldc2_w 18, 3) := by decide +kernel
theorem d_RE_isRefuted_23 : decode b_RE_isRefuted 23 = .ok (.lxor, 1) := by decide +kernel
theorem d_RE_isRefuted_24 : decode b_RE_isRefuted 24 = .ok (.land, 1) := by decide +kernel
theorem d_RE_isRefuted_25 : decode b_RE_isRefuted 25 = .ok (.lstore 8, 2) := by decide +kernel
theorem d_RE_isRefuted_27 : decode b_RE_isRefuted 27 = .ok (.lload_n 2, 1) := by decide +kernel
theorem d_RE_isRefuted_28 : decode b_RE_isRefuted 28 = .ok (.lload 6, 2) := by decide +kernel
theorem d_RE_isRefuted_30 : decode b_RE_isRefuted 30 = .ok (.land, 1) := by decide +kernel
theorem d_RE_isRefuted_31 : decode b_RE_isRefuted 31 = .ok (.lconst 0, 1) := by decide +kernel
theorem d_RE_isRefuted_32 : decode b_RE_isRefuted 32 = .ok (.lcmp, 1) := by decide +kernel
theorem d_RE_isRefuted_33 : decode b_RE_isRefuted 33 = .ok (.ifCond .eq 29, 3) := by decide +kernel
theorem d_RE_isRefuted_36 : decode b_RE_isRefuted 36 = .ok (.aload_n 0, 1) := by decide +kernel
theorem d_RE_isRefuted_37 : decode b_RE_isRefuted 37 = .ok (.getfield 12, 3) := by decide +kernel
theorem d_RE_isRefuted_40 : decode b_RE_isRefuted 40 = .ok (.lload_n 2, 1) := by decide +kernel
theorem d_RE_isRefuted_41 : decode b_RE_isRefuted 41 = .ok (.lload 8, 2) := by decide +kernel
theorem d_RE_isRefuted_43 : decode b_RE_isRefuted 43 = .ok (.ldc2_w 18, 3) := by decide +kernel
theorem d_RE_isRefuted_46 : decode b_RE_isRefuted 46 = .ok (.lxor, 1) := by decide +kernel
theorem d_RE_isRefuted_47 : decode b_RE_isRefuted 47 = .ok (.land, 1) := by decide +kernel
theorem d_RE_isRefuted_48 : decode b_RE_isRefuted 48 = .ok (.lload 8, 2) := by decide +kernel
theorem d_RE_isRefuted_50 : decode b_RE_isRefuted 50 = .ok (.invokevirtual 20, 3) := by decide +kernel
theorem d_RE_isRefuted_53 : decode b_RE_isRefuted 53 = .ok (.lconst 0, 1) := by decide +kernel
theorem d_RE_isRefuted_54 : decode b_RE_isRefuted 54 = .ok (.lcmp, 1) := by decide +kernel
theorem d_RE_isRefuted_55 : decode b_RE_isRefuted 55 = .ok (.ifCond .ne 7, 3) := by decide +kernel
theorem d_RE_isRefuted_58 : decode b_RE_isRefuted 58 = .ok (.iconst 1, 1) := by decide +kernel
theorem d_RE_isRefuted_59 : decode b_RE_isRefuted 59 = .ok (.goto 4, 3) := by decide +kernel
theorem d_RE_isRefuted_62 : decode b_RE_isRefuted 62 = .ok (.iconst 0, 1) := by decide +kernel
theorem d_RE_isRefuted_63 : decode b_RE_isRefuted 63 = .ok (.ireturn, 1) := by decide +kernel
theorem d_RE_firstBySupposing_0 : decode b_RE_firstBySupposing 0 = .ok (.iconst 0, 1) := by decide +kernel
theorem d_RE_firstBySupposing_1 : decode b_RE_firstBySupposing 1 = .ok (.istore 4, 2) := by decide +kernel
theorem d_RE_firstBySupposing_3 : decode b_RE_firstBySupposing 3 = .ok (.iload 4, 2) := by decide +kernel
theorem d_RE_firstBySupposing_5 : decode b_RE_firstBySupposing 5 = .ok (.aload_n 1, 1) := by decide +kernel
theorem d_RE_firstBySupposing_6 : decode b_RE_firstBySupposing 6 = .ok (.getfield 35, 3) := by decide +kernel
theorem d_RE_firstBySupposing_9 : decode b_RE_firstBySupposing 9 = .ok (.if_icmp .ge 57, 3) := by decide +kernel
theorem d_RE_firstBySupposing_12 : decode b_RE_firstBySupposing 12 = .ok (.aload_n 1, 1) := by decide +kernel
theorem d_RE_firstBySupposing_13 : decode b_RE_firstBySupposing 13 = .ok (.getfield 41, 3) := by decide +kernel
theorem d_RE_firstBySupposing_16 : decode b_RE_firstBySupposing 16 = .ok (.istore 5, 2) := by decide +kernel
theorem d_RE_firstBySupposing_18 : decode b_RE_firstBySupposing 18 = .ok (.iload 5, 2) := by decide +kernel
theorem d_RE_firstBySupposing_20 : decode b_RE_firstBySupposing 20 = .ok (.aload_n 1, 1) := by decide +kernel
theorem d_RE_firstBySupposing_21 : decode b_RE_firstBySupposing 21 = .ok (.getfield 41, 3) := by decide +kernel
theorem d_RE_firstBySupposing_24 : decode b_RE_firstBySupposing 24 = .ok (.aload_n 1, 1) := by decide +kernel
theorem d_RE_firstBySupposing_25 : decode b_RE_firstBySupposing 25 = .ok (.getfield 44, 3) := by decide +kernel
theorem d_RE_firstBySupposing_28 : decode b_RE_firstBySupposing 28 = .ok (.iadd, 1) := by decide +kernel
theorem d_RE_firstBySupposing_29 : decode b_RE_firstBySupposing 29 = .ok (.if_icmp .ge 31, 3) := by decide +kernel
theorem d_RE_firstBySupposing_32 : decode b_RE_firstBySupposing 32 = .ok (.aload_n 0, 1) := by decide +kernel
theorem d_RE_firstBySupposing_33 : decode b_RE_firstBySupposing 33 = .ok (.aload_n 1, 1) := by decide +kernel
theorem d_RE_firstBySupposing_34 : decode b_RE_firstBySupposing 34 = .ok (.lload_n 2, 1) := by decide +kernel
theorem d_RE_firstBySupposing_35 : decode b_RE_firstBySupposing 35 = .ok (.iload 4, 2) := by decide +kernel
theorem d_RE_firstBySupposing_37 : decode b_RE_firstBySupposing 37 = .ok (.iload 5, 2) := by decide +kernel
theorem d_RE_firstBySupposing_39 : decode b_RE_firstBySupposing 39 = .ok (.invokevirtual 47, 3) := by decide +kernel
theorem d_RE_firstBySupposing_42 : decode b_RE_firstBySupposing 42 = .ok (.ifCond .eq 12, 3) := by decide +kernel
theorem d_RE_firstBySupposing_45 : decode b_RE_firstBySupposing 45 = .ok (.aload_n 1, 1) := by decide +kernel
theorem d_RE_firstBySupposing_46 : decode b_RE_firstBySupposing 46 = .ok (.iload 4, 2) := by decide +kernel
theorem d_RE_firstBySupposing_48 : decode b_RE_firstBySupposing 48 = .ok (.iload 5, 2) := by decide +kernel
theorem d_RE_firstBySupposing_50 : decode b_RE_firstBySupposing 50 = .ok (.invokevirtual 51, 3) := by decide +kernel
theorem d_RE_firstBySupposing_53 : decode b_RE_firstBySupposing 53 = .ok (.lreturn, 1) := by decide +kernel
theorem d_RE_firstBySupposing_54 : decode b_RE_firstBySupposing 54 = .ok (.iinc 5 1, 3) := by decide +kernel
theorem d_RE_firstBySupposing_57 : decode b_RE_firstBySupposing 57 = .ok (.goto (-39), 3) := by decide +kernel
theorem d_RE_firstBySupposing_60 : decode b_RE_firstBySupposing 60 = .ok (.iinc 4 1, 3) := by decide +kernel
theorem d_RE_firstBySupposing_63 : decode b_RE_firstBySupposing 63 = .ok (.goto (-60), 3) := by decide +kernel
theorem d_RE_firstBySupposing_66 : decode b_RE_firstBySupposing 66 = .ok (.lconst 0, 1) := by decide +kernel
theorem d_RE_firstBySupposing_67 : decode b_RE_firstBySupposing 67 = .ok (.lreturn, 1) := by decide +kernel
theorem d_RE_supposeEach_0 : decode b_RE_supposeEach 0 = .ok (.lload_n 2, 1) := by decide +kernel
theorem d_RE_supposeEach_1 : decode b_RE_supposeEach 1 = .ok (.lstore 4, 2) := by decide +kernel
theorem d_RE_supposeEach_3 : decode b_RE_supposeEach 3 = .ok (.iconst 0, 1) := by decide +kernel
theorem d_RE_supposeEach_4 : decode b_RE_supposeEach 4 = .ok (.istore 6, 2) := by decide +kernel
theorem d_RE_supposeEach_6 : decode b_RE_supposeEach 6 = .ok (.iload 6, 2) := by decide +kernel
theorem d_RE_supposeEach_8 : decode b_RE_supposeEach 8 = .ok (.aload_n 1, 1) := by decide +kernel
theorem d_RE_supposeEach_9 : decode b_RE_supposeEach 9 = .ok (.getfield 35, 3) := by decide +kernel
theorem d_RE_supposeEach_12 : decode b_RE_supposeEach 12 = .ok (.if_icmp .ge 79, 3) := by decide +kernel
theorem d_RE_supposeEach_15 : decode b_RE_supposeEach 15 = .ok (.aload_n 1, 1) := by decide +kernel
theorem d_RE_supposeEach_16 : decode b_RE_supposeEach 16 = .ok (.getfield 41, 3) := by decide +kernel
theorem d_RE_supposeEach_19 : decode b_RE_supposeEach 19 = .ok (.istore 7, 2) := by decide +kernel
theorem d_RE_supposeEach_21 : decode b_RE_supposeEach 21 = .ok (.iload 7, 2) := by decide +kernel
theorem d_RE_supposeEach_23 : decode b_RE_supposeEach 23 = .ok (.aload_n 1, 1) := by decide +kernel
theorem d_RE_supposeEach_24 : decode b_RE_supposeEach 24 = .ok (.getfield 41, 3) := by decide +kernel
theorem d_RE_supposeEach_27 : decode b_RE_supposeEach 27 = .ok (.aload_n 1, 1) := by decide +kernel
theorem d_RE_supposeEach_28 : decode b_RE_supposeEach 28 = .ok (.getfield 44, 3) := by decide +kernel
theorem d_RE_supposeEach_31 : decode b_RE_supposeEach 31 = .ok (.iadd, 1) := by decide +kernel
theorem d_RE_supposeEach_32 : decode b_RE_supposeEach 32 = .ok (.if_icmp .ge 53, 3) := by decide +kernel
theorem d_RE_supposeEach_35 : decode b_RE_supposeEach 35 = .ok (.aload_n 0, 1) := by decide +kernel
theorem d_RE_supposeEach_36 : decode b_RE_supposeEach 36 = .ok (.aload_n 1, 1) := by decide +kernel
theorem d_RE_supposeEach_37 : decode b_RE_supposeEach 37 = .ok (.lload 4, 2) := by decide +kernel
theorem d_RE_supposeEach_39 : decode b_RE_supposeEach 39 = .ok (.iload 6, 2) := by decide +kernel
theorem d_RE_supposeEach_41 : decode b_RE_supposeEach 41 = .ok (.iload 7, 2) := by decide +kernel
theorem d_RE_supposeEach_43 : decode b_RE_supposeEach 43 = .ok (.invokevirtual 47, 3) := by decide +kernel
theorem d_RE_supposeEach_46 : decode b_RE_supposeEach 46 = .ok (.ifCond .eq 33, 3) := by decide +kernel
theorem d_RE_supposeEach_49 : decode b_RE_supposeEach 49 = .ok (.aload_n 1, 1) := by decide +kernel
theorem d_RE_supposeEach_50 : decode b_RE_supposeEach 50 = .ok (.iload 6, 2) := by decide +kernel
theorem d_RE_supposeEach_52 : decode b_RE_supposeEach 52 = .ok (.iload 7, 2) := by decide +kernel
theorem d_RE_supposeEach_54 : decode b_RE_supposeEach 54 = .ok (.invokevirtual 51, 3) := by decide +kernel
theorem d_RE_supposeEach_57 : decode b_RE_supposeEach 57 = .ok (.lstore 8, 2) := by decide +kernel
theorem d_RE_supposeEach_59 : decode b_RE_supposeEach 59 = .ok (.aload_n 0, 1) := by decide +kernel
theorem d_RE_supposeEach_60 : decode b_RE_supposeEach 60 = .ok (.getfield 12, 3) := by decide +kernel
theorem d_RE_supposeEach_63 : decode b_RE_supposeEach 63 = .ok (.lload 4, 2) := by decide +kernel
theorem d_RE_supposeEach_65 : decode b_RE_supposeEach 65 = .ok (.lload 8, 2) := by decide +kernel
theorem d_RE_supposeEach_67 : decode b_RE_supposeEach 67 = .ok (.ldc2_w 18, 3) := by decide +kernel
theorem d_RE_supposeEach_70 : decode b_RE_supposeEach 70 = .ok (.lxor, 1) := by decide +kernel
theorem d_RE_supposeEach_71 : decode b_RE_supposeEach 71 = .ok (.land, 1) := by decide +kernel
theorem d_RE_supposeEach_72 : decode b_RE_supposeEach 72 = .ok (.lload 8, 2) := by decide +kernel
theorem d_RE_supposeEach_74 : decode b_RE_supposeEach 74 = .ok (.invokevirtual 20, 3) := by decide +kernel
theorem d_RE_supposeEach_77 : decode b_RE_supposeEach 77 = .ok (.lstore 4, 2) := by decide +kernel
theorem d_RE_supposeEach_79 : decode b_RE_supposeEach 79 = .ok (.iinc 7 1, 3) := by decide +kernel
theorem d_RE_supposeEach_82 : decode b_RE_supposeEach 82 = .ok (.goto (-61), 3) := by decide +kernel
theorem d_RE_supposeEach_85 : decode b_RE_supposeEach 85 = .ok (.iinc 6 1, 3) := by decide +kernel
theorem d_RE_supposeEach_88 : decode b_RE_supposeEach 88 = .ok (.goto (-82), 3) := by decide +kernel
theorem d_RE_supposeEach_91 : decode b_RE_supposeEach 91 = .ok (.lload 4, 2) := by decide +kernel
theorem d_RE_supposeEach_93 : decode b_RE_supposeEach 93 = .ok (.lreturn, 1) := by decide +kernel
theorem d_RE_byBoth_0 : decode b_RE_byBoth 0 = .ok (.aload_n 0, 1) := by decide +kernel
theorem d_RE_byBoth_1 : decode b_RE_byBoth 1 = .ok (.lload_n 2, 1) := by decide +kernel
theorem d_RE_byBoth_2 : decode b_RE_byBoth 2 = .ok (.invokevirtual 24, 3) := by decide +kernel
theorem d_RE_byBoth_5 : decode b_RE_byBoth 5 = .ok (.lstore 4, 2) := by decide +kernel
theorem d_RE_byBoth_7 : decode b_RE_byBoth 7 = .ok (.ldc2_w 18, 3) := by decide +kernel
theorem d_RE_byBoth_10 : decode b_RE_byBoth 10 = .ok (.lstore 6, 2) := by decide +kernel
theorem d_RE_byBoth_12 : decode b_RE_byBoth 12 = .ok (.iconst 0, 1) := by decide +kernel
theorem d_RE_byBoth_13 : decode b_RE_byBoth 13 = .ok (.istore 8, 2) := by decide +kernel
theorem d_RE_byBoth_15 : decode b_RE_byBoth 15 = .ok (.iload 8, 2) := by decide +kernel
theorem d_RE_byBoth_17 : decode b_RE_byBoth 17 = .ok (.bipush 64, 2) := by decide +kernel
theorem d_RE_byBoth_19 : decode b_RE_byBoth 19 = .ok (.if_icmp .gt 40, 3) := by decide +kernel
theorem d_RE_byBoth_22 : decode b_RE_byBoth 22 = .ok (.lload 6, 2) := by decide +kernel
theorem d_RE_byBoth_24 : decode b_RE_byBoth 24 = .ok (.lconst 0, 1) := by decide +kernel
theorem d_RE_byBoth_25 : decode b_RE_byBoth 25 = .ok (.lcmp, 1) := by decide +kernel
theorem d_RE_byBoth_26 : decode b_RE_byBoth 26 = .ok (.ifCond .eq 33, 3) := by decide +kernel
theorem d_RE_byBoth_29 : decode b_RE_byBoth 29 = .ok (.lload 4, 2) := by decide +kernel
theorem d_RE_byBoth_31 : decode b_RE_byBoth 31 = .ok (.lstore 9, 2) := by decide +kernel
theorem d_RE_byBoth_33 : decode b_RE_byBoth 33 = .ok (.aload_n 0, 1) := by decide +kernel
theorem d_RE_byBoth_34 : decode b_RE_byBoth 34 = .ok (.aload_n 1, 1) := by decide +kernel
theorem d_RE_byBoth_35 : decode b_RE_byBoth 35 = .ok (.lload 4, 2) := by decide +kernel
theorem d_RE_byBoth_37 : decode b_RE_byBoth 37 = .ok (.invokevirtual 28, 3) := by decide +kernel
theorem d_RE_byBoth_40 : decode b_RE_byBoth 40 = .ok (.lstore 4, 2) := by decide +kernel
theorem d_RE_byBoth_42 : decode b_RE_byBoth 42 = .ok (.lload 9, 2) := by decide +kernel
theorem d_RE_byBoth_44 : decode b_RE_byBoth 44 = .ok (.lload 4, 2) := by decide +kernel
theorem d_RE_byBoth_46 : decode b_RE_byBoth 46 = .ok (.ldc2_w 18, 3) := by decide +kernel
theorem d_RE_byBoth_49 : decode b_RE_byBoth 49 = .ok (.lxor, 1) := by decide +kernel
theorem d_RE_byBoth_50 : decode b_RE_byBoth 50 = .ok (.land, 1) := by decide +kernel
theorem d_RE_byBoth_51 : decode b_RE_byBoth 51 = .ok (.lstore 6, 2) := by decide +kernel
theorem d_RE_byBoth_53 : decode b_RE_byBoth 53 = .ok (.iinc 8 1, 3) := by decide +kernel
theorem d_RE_byBoth_56 : decode b_RE_byBoth 56 = .ok (.goto (-41), 3) := by decide +kernel
theorem d_RE_byBoth_59 : decode b_RE_byBoth 59 = .ok (.lload 4, 2) := by decide +kernel
theorem d_RE_byBoth_61 : decode b_RE_byBoth 61 = .ok (.lreturn, 1) := by decide +kernel
theorem d_RE_search_0 : decode b_RE_search 0 = .ok (.aload_n 0, 1) := by decide +kernel
theorem d_RE_search_1 : decode b_RE_search 1 = .ok (.getfield 12, 3) := by decide +kernel
theorem d_RE_search_4 : decode b_RE_search 4 = .ok (.lload_n 2, 1) := by decide +kernel
theorem d_RE_search_5 : decode b_RE_search 5 = .ok (.lload 4, 2) := by decide +kernel
theorem d_RE_search_7 : decode b_RE_search 7 = .ok (.invokevirtual 20, 3) := by decide +kernel
theorem d_RE_search_10 : decode b_RE_search 10 = .ok (.lstore 8, 2) := by decide +kernel
theorem d_RE_search_12 : decode b_RE_search 12 = .ok (.lload 8, 2) := by decide +kernel
theorem d_RE_search_14 : decode b_RE_search 14 = .ok (.lconst 0, 1) := by decide +kernel
theorem d_RE_search_15 : decode b_RE_search 15 = .ok (.lcmp, 1) := by decide +kernel
theorem d_RE_search_16 : decode b_RE_search 16 = .ok (.ifCond .ne 4, 3) := by decide +kernel
theorem d_RE_search_19 : decode b_RE_search 19 = .ok (.return_, 1) := by decide +kernel
theorem d_RE_search_20 : decode b_RE_search 20 = .ok (.aload_n 1, 1) := by decide +kernel
theorem d_RE_search_21 : decode b_RE_search 21 = .ok (.lload 8, 2) := by decide +kernel
theorem d_RE_search_23 : decode b_RE_search 23 = .ok (.invokestatic 74, 3) := by decide +kernel
theorem d_RE_search_26 : decode b_RE_search 26 = .ok (.istore 10, 2) := by decide +kernel
theorem d_RE_search_28 : decode b_RE_search 28 = .ok (.iload 10, 2) := by decide +kernel
theorem d_RE_search_30 : decode b_RE_search 30 = .ok (.iconst (-1), 1) := by decide +kernel
theorem d_RE_search_31 : decode b_RE_search 31 = .ok (.if_icmp .ne 34, 3) := by decide +kernel
theorem d_RE_search_34 : decode b_RE_search 34 = .ok (.aload_n 0, 1) := by decide +kernel
theorem d_RE_search_35 : decode b_RE_search 35 = .ok (.aload_n 0, 1) := by decide +kernel
theorem d_RE_search_36 : decode b_RE_search 36 = .ok (.getfield 55, 3) := by decide +kernel
theorem d_RE_search_39 : decode b_RE_search 39 = .ok (.ifCond .ne 8, 3) := by decide +kernel
theorem d_RE_search_42 : decode b_RE_search 42 = .ok (.lload 8, 2) := by decide +kernel
theorem d_RE_search_44 : decode b_RE_search 44 = .ok (.goto 7, 3) := by decide +kernel
theorem d_RE_search_47 : decode b_RE_search 47 = .ok (.aload_n 0, 1) := by decide +kernel
theorem d_RE_search_48 : decode b_RE_search 48 = .ok (.getfield 58, 3) := by decide +kernel
theorem d_RE_search_51 : decode b_RE_search 51 = .ok (.putfield 58, 3) := by decide +kernel
theorem d_RE_search_54 : decode b_RE_search 54 = .ok (.aload_n 0, 1) := by decide +kernel
theorem d_RE_search_55 : decode b_RE_search 55 = .ok (.dup, 1) := by decide +kernel
theorem d_RE_search_56 : decode b_RE_search 56 = .ok (.getfield 55, 3) := by decide +kernel
theorem d_RE_search_59 : decode b_RE_search 59 = .ok (.iconst 1, 1) := by decide +kernel
theorem d_RE_search_60 : decode b_RE_search 60 = .ok (.iadd, 1) := by decide +kernel
theorem d_RE_search_61 : decode b_RE_search 61 = .ok (.putfield 55, 3) := by decide +kernel
theorem d_RE_search_64 : decode b_RE_search 64 = .ok (.return_, 1) := by decide +kernel
theorem d_RE_search_65 : decode b_RE_search 65 = .ok (.aload_n 1, 1) := by decide +kernel
theorem d_RE_search_66 : decode b_RE_search 66 = .ok (.getfield 41, 3) := by decide +kernel
theorem d_RE_search_69 : decode b_RE_search 69 = .ok (.istore 11, 2) := by decide +kernel
theorem d_RE_search_71 : decode b_RE_search 71 = .ok (.iload 11, 2) := by decide +kernel
theorem d_RE_search_73 : decode b_RE_search 73 = .ok (.aload_n 1, 1) := by decide +kernel
theorem d_RE_search_74 : decode b_RE_search 74 = .ok (.getfield 41, 3) := by decide +kernel
theorem d_RE_search_77 : decode b_RE_search 77 = .ok (.aload_n 1, 1) := by decide +kernel
theorem d_RE_search_78 : decode b_RE_search 78 = .ok (.getfield 44, 3) := by decide +kernel
theorem d_RE_search_81 : decode b_RE_search 81 = .ok (.iadd, 1) := by decide +kernel
theorem d_RE_search_82 : decode b_RE_search 82 = .ok (.if_icmp .ge 87, 3) := by decide +kernel
theorem d_RE_search_85 : decode b_RE_search 85 = .ok (.iload 7, 2) := by decide +kernel
theorem d_RE_search_87 : decode b_RE_search 87 = .ok (.aload_n 1, 1) := by decide +kernel
theorem d_RE_search_88 : decode b_RE_search 88 = .ok (.getfield 35, 3) := by decide +kernel
theorem d_RE_search_91 : decode b_RE_search 91 = .ok (.if_icmp .ge 78, 3) := by decide +kernel
theorem d_RE_search_94 : decode b_RE_search 94 = .ok (.aload_n 1, 1) := by decide +kernel
theorem d_RE_search_95 : decode b_RE_search 95 = .ok (.iload 10, 2) := by decide +kernel
theorem d_RE_search_97 : decode b_RE_search 97 = .ok (.iload 11, 2) := by decide +kernel
theorem d_RE_search_99 : decode b_RE_search 99 = .ok (.invokevirtual 51, 3) := by decide +kernel
theorem d_RE_search_102 : decode b_RE_search 102 = .ok (.lstore 12, 2) := by decide +kernel
theorem d_RE_search_104 : decode b_RE_search 104 = .ok (.lload 8, 2) := by decide +kernel
theorem d_RE_search_106 : decode b_RE_search 106 = .ok (.aload_n 1, 1) := by decide +kernel
theorem d_RE_search_107 : decode b_RE_search 107 = .ok (.iload 10, 2) := by decide +kernel
theorem d_RE_search_109 : decode b_RE_search 109 = .ok (.invokevirtual 70, 3) := by decide +kernel
theorem d_RE_search_112 : decode b_RE_search 112 = .ok (.land, 1) := by decide +kernel
theorem d_RE_search_113 : decode b_RE_search 113 = .ok (.lload 12, 2) := by decide +kernel
theorem d_RE_search_115 : decode b_RE_search 115 = .ok (.ldc2_w 18, 3) := by decide +kernel
theorem d_RE_search_118 : decode b_RE_search 118 = .ok (.lxor, 1) := by decide +kernel
theorem d_RE_search_119 : decode b_RE_search 119 = .ok (.land, 1) := by decide +kernel
theorem d_RE_search_120 : decode b_RE_search 120 = .ok (.lstore 14, 2) := by decide +kernel
theorem d_RE_search_122 : decode b_RE_search 122 = .ok (.lload 8, 2) := by decide +kernel
theorem d_RE_search_124 : decode b_RE_search 124 = .ok (.lload 12, 2) := by decide +kernel
theorem d_RE_search_126 : decode b_RE_search 126 = .ok (.land, 1) := by decide +kernel
theorem d_RE_search_127 : decode b_RE_search 127 = .ok (.lconst 0, 1) := by decide +kernel
theorem d_RE_search_128 : decode b_RE_search 128 = .ok (.lcmp, 1) := by decide +kernel
theorem d_RE_search_129 : decode b_RE_search 129 = .ok (.ifCond .eq 34, 3) := by decide +kernel
theorem d_RE_search_132 : decode b_RE_search 132 = .ok (.aload_n 0, 1) := by decide +kernel
theorem d_RE_search_133 : decode b_RE_search 133 = .ok (.getfield 55, 3) := by decide +kernel
theorem d_RE_search_136 : decode b_RE_search 136 = .ok (.iload 6, 2) := by decide +kernel
theorem d_RE_search_138 : decode b_RE_search 138 = .ok (.if_icmp .ge 25, 3) := by decide +kernel
theorem d_RE_search_141 : decode b_RE_search 141 = .ok (.aload_n 0, 1) := by decide +kernel
theorem d_RE_search_142 : decode b_RE_search 142 = .ok (.aload_n 1, 1) := by decide +kernel
theorem d_RE_search_143 : decode b_RE_search 143 = .ok (.lload 8, 2) := by decide +kernel
theorem d_RE_search_145 : decode b_RE_search 145 = .ok (.lload 14, 2) := by decide +kernel
theorem d_RE_search_147 : decode b_RE_search 147 = .ok (.ldc2_w 18, 3) := by decide +kernel
theorem d_RE_search_150 : decode b_RE_search 150 = .ok (.lxor, 1) := by decide +kernel
theorem d_RE_search_151 : decode b_RE_search 151 = .ok (.land, 1) := by decide +kernel
theorem d_RE_search_152 : decode b_RE_search 152 = .ok (.lload 14, 2) := by decide +kernel
theorem d_RE_search_154 : decode b_RE_search 154 = .ok (.iload 6, 2) := by decide +kernel
theorem d_RE_search_156 : decode b_RE_search 156 = .ok (.iload 7, 2) := by decide +kernel
theorem d_RE_search_158 : decode b_RE_search 158 = .ok (.iconst 1, 1) := by decide +kernel
theorem d_RE_search_159 : decode b_RE_search 159 = .ok (.iadd, 1) := by decide +kernel
theorem d_RE_search_160 : decode b_RE_search 160 = .ok (.invokevirtual 66, 3) := by decide +kernel
theorem d_RE_search_163 : decode b_RE_search 163 = .ok (.iinc 11 1, 3) := by decide +kernel
theorem d_RE_search_166 : decode b_RE_search 166 = .ok (.goto (-95), 3) := by decide +kernel
theorem d_RE_search_169 : decode b_RE_search 169 = .ok (.return_, 1) := by decide +kernel
theorem d_RE_countFillings_0 : decode b_RE_countFillings 0 = .ok (.aload_n 0, 1) := by decide +kernel
theorem d_RE_countFillings_1 : decode b_RE_countFillings 1 = .ok (.iconst 0, 1) := by decide +kernel
theorem d_RE_countFillings_2 : decode b_RE_countFillings 2 = .ok (.putfield 55, 3) := by decide +kernel
theorem d_RE_countFillings_5 : decode b_RE_countFillings 5 = .ok (.aload_n 0, 1) := by decide +kernel
theorem d_RE_countFillings_6 : decode b_RE_countFillings 6 = .ok (.lconst 0, 1) := by decide +kernel
theorem d_RE_countFillings_7 : decode b_RE_countFillings 7 = .ok (.putfield 58, 3) := by decide +kernel
theorem d_RE_countFillings_10 : decode b_RE_countFillings 10 = .ok (.aload_n 0, 1) := by decide +kernel
theorem d_RE_countFillings_11 : decode b_RE_countFillings 11 = .ok (.getfield 12, 3) := by decide +kernel
theorem d_RE_countFillings_14 : decode b_RE_countFillings 14 = .ok (.invokevirtual 62, 3) := by decide +kernel
theorem d_RE_countFillings_17 : decode b_RE_countFillings 17 = .ok (.ifCond .eq 15, 3) := by decide +kernel
theorem d_RE_countFillings_20 : decode b_RE_countFillings 20 = .ok (.aload_n 0, 1) := by decide +kernel
theorem d_RE_countFillings_21 : decode b_RE_countFillings 21 = .ok (.aload_n 1, 1) := by decide +kernel
theorem d_RE_countFillings_22 : decode b_RE_countFillings 22 = .ok (.lload_n 2, 1) := by decide +kernel
theorem d_RE_countFillings_23 : decode b_RE_countFillings 23 = .ok (.ldc2_w 18, 3) := by decide +kernel
theorem d_RE_countFillings_26 : decode b_RE_countFillings 26 = .ok (.iload 4, 2) := by decide +kernel
theorem d_RE_countFillings_28 : decode b_RE_countFillings 28 = .ok (.iconst 0, 1) := by decide +kernel
theorem d_RE_countFillings_29 : decode b_RE_countFillings 29 = .ok (.invokevirtual 66, 3) := by decide +kernel
theorem d_RE_countFillings_32 : decode b_RE_countFillings 32 = .ok (.aload_n 0, 1) := by decide +kernel
theorem d_RE_countFillings_33 : decode b_RE_countFillings 33 = .ok (.getfield 55, 3) := by decide +kernel
theorem d_RE_countFillings_36 : decode b_RE_countFillings 36 = .ok (.ireturn, 1) := by decide +kernel
set_option maxHeartbeats 4000000 in
set_option maxRecDepth 100000 in
theorem ct_RE_byLines (l : Launch) (D : va_G) (ad : Nat → Nat) (cI cL : ClassId) (N : Nat) (kk : Nat) (kn : Int32) (le : Int64) (ff : Int64) (fo : Int32) (ct : Int32) (fx : Int32) (gv : Nat → Int32) (pg : Nat → Int32) (cu : Nat → Int32) (co : Nat → Int32) (sg : Nat → Int32) (ru : Nat → Int32) (nu : Nat → Int32) (tg : Nat → Int32) (sc : Nat → Int64) (sr : Nat → Int32) (wy : Nat → Int64) (u1 : Int64) (out : Int64) (h : mi_RE_byLines N ct sc sr wy u1 = some out) : fw_C l y_RE_byLines (.code y_RE_byLines b_RE_byLines 3 (some .long) :: Gw) (fr 2 60) D vwCl (tyA cI cL) [.ref (ad 4), .long u1] (wC ad cI cL kk kn le ff fo ct fx gv pg cu co sg ru nu tg sc sr wy) (some (.long out)) (wC ad cI cL kk kn le ff fo ct fx gv pg cu co sg ru nu tg sc sr wy) := by
  refine fw_of (by decide) (Nat.le_of_ble_eq_true rfl) ?_
  intro p e s m args below meth c ls A R Q hR hQ S hr hlk hX hA hl hw
  have hK := hX.1
  have hx := S.1
  have hb := S.2.1
  have hown := S.2.2.2.1
  have hg := S.2.2.2.2
  have hl : lv_has ls 3 [(0, .ref (ad 4)), (1, .long u1)] := hl
  unfold mi_RE_byLines at h
  refine lv_aload_n hx hb d_RE_byLines_0 rfl (lv_at hl 0 rfl) ?_
  refine va_get (ci := 4) (v := .ref (ad 5)) (C := R_RE) (T := F_RE) (N := 3) hx hb hg in_RE hown hK hw.1 4 rfl rfl 0 (by decide) (hg _ q_148) (fun _ h9 => h9) rfl d_RE_byLines_1 ?_
  refine lv_lload_n hx hb d_RE_byLines_4 rfl (lv_at hl 1 rfl) ?_
  refine lv_ldc2 (v := (-1)) hx hb hown (hg _ q_388) d_RE_byLines_5 ?_
  refine ob h (fun r8 h8 h => ?_)
  refine fw_callV (As := [.long u1, .long (-1 : Int64)]) (rest := []) (st1 := [.long r8]) S (ct_UN_narrow l D ad cI cL N kk kn le ff fo ct fx gv pg cu co sg ru nu tg sc sr wy u1 (-1 : Int64) r8 h8) q_393 q_394 q_395 q_7 k_UN_narrow hd_UN_narrow ⟨by rw [hR]; decide, by rw [hR]; decide⟩ rfl rfl hX hw hA 5 (ci := 5) rfl rfl hl.1 rfl rfl (Nat.le_of_ble_eq_true rfl) d_RE_byLines_8 ⟨Nat.zero_le _, Nat.zero_le _⟩ rfl (fun H locs hw => ?_)
  have q := Option.some.inj h
  subst q
  exact fw_lret hQ S hr hlk hX hw d_RE_byLines_11
set_option maxHeartbeats 4000000 in
set_option maxRecDepth 100000 in
theorem ct_RE_firstByLines (l : Launch) (D : va_G) (ad : Nat → Nat) (cI cL : ClassId) (N : Nat) (kk : Nat) (kn : Int32) (le : Int64) (ff : Int64) (fo : Int32) (ct : Int32) (fx : Int32) (gv : Nat → Int32) (pg : Nat → Int32) (cu : Nat → Int32) (co : Nat → Int32) (sg : Nat → Int32) (ru : Nat → Int32) (nu : Nat → Int32) (tg : Nat → Int32) (sc : Nat → Int64) (sr : Nat → Int32) (wy : Nat → Int64) (u1 : Int64) (out : Int64) (h : mi_RE_firstByLines N ct sc sr wy u1 = some out) : fw_C l y_RE_firstByLines (.code y_RE_firstByLines b_RE_firstByLines 5 (some .long) :: Gw) (fr 2 53) D vwCl (tyA cI cL) [.ref (ad 4), .long u1] (wC ad cI cL kk kn le ff fo ct fx gv pg cu co sg ru nu tg sc sr wy) (some (.long out)) (wC ad cI cL kk kn le ff fo ct fx gv pg cu co sg ru nu tg sc sr wy) := by
  refine fw_of (by decide) (Nat.le_of_ble_eq_true rfl) ?_
  intro p e s m args below meth c ls A R Q hR hQ S hr hlk hX hA hl hw
  have hK := hX.1
  have hx := S.1
  have hb := S.2.1
  have hown := S.2.2.2.1
  have hg := S.2.2.2.2
  have hl : lv_has ls 5 [(0, .ref (ad 4)), (1, .long u1)] := hl
  unfold mi_RE_firstByLines at h
  refine lv_lload_n hx hb d_RE_firstByLines_0 rfl (lv_at hl 1 rfl) ?_
  refine lv_aload_n hx hb d_RE_firstByLines_1 rfl (lv_at hl 0 rfl) ?_
  refine va_get (ci := 4) (v := .ref (ad 5)) (C := R_RE) (T := F_RE) (N := 3) hx hb hg in_RE hown hK hw.1 4 rfl rfl 0 (by decide) (hg _ q_148) (fun _ h9 => h9) rfl d_RE_firstByLines_2 ?_
  refine lv_lload_n hx hb d_RE_firstByLines_5 rfl (lv_at hl 1 rfl) ?_
  refine ob h (fun r6 h6 h => ?_)
  refine fw_callV (As := [.long u1]) (rest := [.long u1]) (st1 := [.long r6, .long u1]) S (ct_UN_keptAtOnce l D ad cI cL N kk kn le ff fo ct fx gv pg cu co sg ru nu tg sc sr wy u1 r6 h6) q_426 q_427 q_428 q_7 k_UN_keptAtOnce hd_UN_keptAtOnce ⟨by rw [hR]; decide, by rw [hR]; decide⟩ rfl rfl hX hw hA 5 (ci := 5) rfl rfl hl.1 rfl rfl (Nat.le_of_ble_eq_true rfl) d_RE_firstByLines_6 ⟨Nat.zero_le _, Nat.zero_le _⟩ rfl (fun H locs hw => ?_)
  refine lv_ldc2 (v := (-1)) hx hb hown (hg _ q_388) d_RE_firstByLines_9 ?_
  refine lv_lxor hx hb d_RE_firstByLines_12 ?_
  refine lv_land hx hb d_RE_firstByLines_13 ?_
  refine lv_lstore_n (lv' := [(3, .long (u1 &&& (r6 ^^^ (-1 : Int64)))), (0, .ref (ad 4)), (1, .long u1)]) hx hb d_RE_firstByLines_14 rfl hl (by decide) rfl (fun ls hl => ?_)
  refine lv_lload_n hx hb d_RE_firstByLines_15 rfl (lv_at hl 0 rfl) ?_
  refine lv_lload_n hx hb d_RE_firstByLines_16 rfl (lv_at hl 0 rfl) ?_
  refine lv_lneg hx hb d_RE_firstByLines_17 ?_
  refine lv_land hx hb d_RE_firstByLines_18 ?_
  have q := Option.some.inj h
  subst q
  exact fw_lret hQ S hr hlk hX hw d_RE_firstByLines_19
set_option maxHeartbeats 4000000 in
set_option maxRecDepth 100000 in
theorem ct_RE_firstOpenCell (l : Launch) (D : va_G) (ad : Nat → Nat) (cI cL : ClassId) (N : Nat) (kr : Nat) (hkr : K3 kr) (kk : Nat) (kn : Int32) (le : Int64) (ff : Int64) (fo : Int32) (ct : Int32) (fx : Int32) (gv : Nat → Int32) (pg : Nat → Int32) (cu : Nat → Int32) (co : Nat → Int32) (sg : Nat → Int32) (ru : Nat → Int32) (nu : Nat → Int32) (tg : Nat → Int32) (sc : Nat → Int64) (sr : Nat → Int32) (wy : Nat → Int64) (u1 : Int64) (out : Int32) (h : mi_RE_firstOpenCell N kr u1 = some out) : fw_C l y_RE_firstOpenCell (.code y_RE_firstOpenCell b_RE_firstOpenCell 4 (some .int) :: Gw) (fr 1 21) D vwCl (tyA cI cL) [.ref (ad kr), .long u1] (wC ad cI cL kk kn le ff fo ct fx gv pg cu co sg ru nu tg sc sr wy) (some (.int out)) (wC ad cI cL kk kn le ff fo ct fx gv pg cu co sg ru nu tg sc sr wy) := by
  refine fw_of (by decide) (Nat.le_of_ble_eq_true rfl) ?_
  intro p e s m args below meth c ls A R Q hR hQ S hr hlk hX hA hl hw
  have hK := hX.1
  have hx := S.1
  have hb := S.2.1
  have hown := S.2.2.2.1
  have hg := S.2.2.2.2
  have hl : lv_has ls 4 [(0, .ref (ad kr)), (1, .long u1)] := hl
  unfold mi_RE_firstOpenCell at h
  refine lv_iconst (v := 0) hx hb d_RE_firstOpenCell_0 (by decide) ?_
  refine lv_istore_n (lv' := [(3, .int (0 : Int32)), (0, .ref (ad kr)), (1, .long u1)]) hx hb d_RE_firstOpenCell_1 rfl hl (by decide) rfl (fun ls hl => ?_)
  have X2 : ∀ (y2 : Int32), mr_RE_firstOpenCell_2 y2 = some out → ∀ (ls : Array Slot) (H : Heap) (locs : List Loc), lv_has ls 4 [] → fw_H D vwCl A s.heap (wC ad cI cL kk kn le ff fo ct fx gv pg cu co sg ru nu tg sc sr wy) H locs → W p l e R s m args below meth c H locs 0 0 Q (F0 m 32 ls []) := by
    intro y2 h ls H locs hl hw
    unfold mr_RE_firstOpenCell_2 at h
    refine lv_iconst (v := (-1)) hx hb d_RE_firstOpenCell_32 (by decide) ?_
    have q := Option.some.inj h
    subst q
    exact fw_iret hQ S hr hlk hX hw d_RE_firstOpenCell_33
  have L2 : ∀ (n2 : Nat) (x2 : Int32) (e2 : (Int32) ⊕ (Int32)), lp (mb_RE_firstOpenCell_2 N kr u1) n2 x2 = some e2 → (Sum.elim (mr_RE_firstOpenCell_2) (fun z => some z)) e2 = some out → ∀ (ls : Array Slot) (H : Heap) (locs : List Loc), lv_has ls 4 [(0, .ref (ad kr)), (1, .long u1), (3, .int x2)] → fw_H D vwCl A s.heap (wC ad cI cL kk kn le ff fo ct fx gv pg cu co sg ru nu tg sc sr wy) H locs → W p l e R s m args below meth c H locs 0 0 Q (F0 m 2 ls []) := by
    intro n2
    induction n2 with
    | zero => intro x2 e2 h1; exact absurd h1 lp_0
    | succ n2 ih2 =>
      intro x2 e2 h1 hr2 ls H locs hl hw
      rw [lp_s] at h1
      refine ob h1 (fun r2 h hk2 => ?_)
      unfold mb_RE_firstOpenCell_2 at h
      refine lv_iload_n hx hb d_RE_firstOpenCell_2 rfl (lv_at hl 2 rfl) ?_
      refine lv_aload_n hx hb d_RE_firstOpenCell_3 rfl (lv_at hl 0 rfl) ?_
      refine fk_cells S hK hw hkr (hg _ q_48) d_RE_firstOpenCell_4 ?_
      refine lv_icmp_ge (tgt := 32) hx hb d_RE_firstOpenCell_7 (by decide) (fun hc => ?_) (fun hc => ?_)
      · have h := oi h hc
        have q := Option.some.inj h
        subst q
        have q := Option.some.inj hk2
        subst q
        exact X2 x2 hr2 _ _ _ (lv_sub hl [] rfl) hw
      · have h := oe h hc
        refine lv_lload_n hx hb d_RE_firstOpenCell_10 rfl (lv_at hl 1 rfl) ?_
        refine lv_aload_n hx hb d_RE_firstOpenCell_11 rfl (lv_at hl 0 rfl) ?_
        refine lv_iload_n hx hb d_RE_firstOpenCell_12 rfl (lv_at hl 2 rfl) ?_
        refine ob h (fun r13 h13 h => ?_)
        refine fw_callK (As := [.int x2]) (rest := [.long u1]) (st1 := [.long r13, .long u1]) S (ct_KD_allOf l D ad cI cL N kr hkr kk kn le ff fo ct fx gv pg cu co sg ru nu tg sc sr wy x2 r13 h13) hkr q_405 q_207 q_208 q_209 q_210 q_206 q_2 k_KD_allOf hd_KD_allOf rfl ⟨by rw [hR]; decide, by rw [hR]; decide⟩ rfl rfl hX hw hA rfl rfl rfl hl.1 rfl rfl (Nat.le_of_ble_eq_true rfl) d_RE_firstOpenCell_13 ⟨Nat.zero_le _, Nat.zero_le _⟩ rfl (fun H locs hw => ?_)
        refine lv_land hx hb d_RE_firstOpenCell_16 ?_
        refine ob h (fun r17 h17 h => ?_)
        refine fw_callS (As := [.long (u1 &&& r13)]) (rest := []) (st1 := [.int r17]) S (ct_JL_bitCount l D (tyA cI cL) (wC ad cI cL kk kn le ff fo ct fx gv pg cu co sg ru nu tg sc sr wy) N (u1 &&& r13) r17 h17) q_406 q_407 q_18 k_JL_bitCount hd_JL_bitCount ⟨by rw [hR]; decide, by rw [hR]; decide⟩ rfl rfl hX hw hA hl.1 rfl rfl (Nat.le_of_ble_eq_true rfl) d_RE_firstOpenCell_17 ⟨Nat.zero_le _, Nat.zero_le _⟩ rfl (fun H locs hw => ?_)
        refine lv_iconst (v := 1) hx hb d_RE_firstOpenCell_20 (by decide) ?_
        refine lv_icmp_le (tgt := 26) hx hb d_RE_firstOpenCell_21 (by decide) (fun hc => ?_) (fun hc => ?_)
        · have h := oi h hc
          refine lv_iinc (k := 2) (v := x2 + 1) (lv' := [(3, .int (x2 + 1)), (0, .ref (ad kr)), (1, .long u1)]) hx hb d_RE_firstOpenCell_26 hl rfl (by rw [lit1]) (by decide) rfl (fun ls hl => ?_)
          refine lv_goto (tgt := 2) hx hb d_RE_firstOpenCell_29 (by decide) ?_
          have q := Option.some.inj h
          subst q
          exact ih2 (x2 + 1) e2 hk2 hr2 _ _ _ (lv_sub hl [1, 2, 0] rfl) hw
        · have h := oe h hc
          refine lv_iload_n hx hb d_RE_firstOpenCell_24 rfl (lv_at hl 2 rfl) ?_
          have q := Option.some.inj h
          subst q
          have q := Option.some.inj hk2
          subst q
          have q := Option.some.inj hr2
          subst q
          exact fw_iret hQ S hr hlk hX hw d_RE_firstOpenCell_25
  refine ob h (fun e2 h1 h2 => ?_)
  exact L2 N (0 : Int32) e2 h1 h2 _ _ _ (lv_sub hl [1, 2, 0] rfl) hw
set_option maxHeartbeats 4000000 in
set_option maxRecDepth 100000 in
theorem ct_RE_isRefuted (l : Launch) (D : va_G) (ad : Nat → Nat) (cI cL : ClassId) (N : Nat) (kr : Nat) (hkr : K3 kr) (kk : Nat) (kn : Int32) (le : Int64) (ff : Int64) (fo : Int32) (ct : Int32) (fx : Int32) (gv : Nat → Int32) (pg : Nat → Int32) (cu : Nat → Int32) (co : Nat → Int32) (sg : Nat → Int32) (ru : Nat → Int32) (nu : Nat → Int32) (tg : Nat → Int32) (sc : Nat → Int64) (sr : Nat → Int32) (wy : Nat → Int64) (u2 : Int64) (u4 : Int32) (u5 : Int32) (out : Int32) (h : mi_RE_isRefuted N kr ct sc sr wy u2 u4 u5 = some out) : fw_C l y_RE_isRefuted (.code y_RE_isRefuted b_RE_isRefuted 10 (some .boolean) :: Gw) (fr 2 60) D vwCl (tyA cI cL) [.ref (ad 4), .ref (ad kr), .long u2, .int u4, .int u5] (wC ad cI cL kk kn le ff fo ct fx gv pg cu co sg ru nu tg sc sr wy) (some (.int out)) (wC ad cI cL kk kn le ff fo ct fx gv pg cu co sg ru nu tg sc sr wy) := by
  refine fw_of (by decide) (Nat.le_of_ble_eq_true rfl) ?_
  intro p e s m args below meth c ls A R Q hR hQ S hr hlk hX hA hl hw
  have hK := hX.1
  have hx := S.1
  have hb := S.2.1
  have hown := S.2.2.2.1
  have hg := S.2.2.2.2
  have hl : lv_has ls 10 [(0, .ref (ad 4)), (1, .ref (ad kr)), (2, .long u2), (4, .int u4), (5, .int u5)] := hl
  unfold mi_RE_isRefuted at h
  refine lv_aload_n hx hb d_RE_isRefuted_0 rfl (lv_at hl 1 rfl) ?_
  refine lv_iload hx hb d_RE_isRefuted_1 (lv_at hl 3 rfl) ?_
  refine lv_iload hx hb d_RE_isRefuted_3 (lv_at hl 4 rfl) ?_
  refine ob h (fun r5 h5 h => ?_)
  refine fw_callK (As := [.int u4, .int u5]) (rest := []) (st1 := [.long r5]) S (ct_KD_bit l D ad cI cL N kr hkr kk kn le ff fo ct fx gv pg cu co sg ru nu tg sc sr wy u4 u5 r5 h5) hkr q_412 q_1024 q_1025 q_1026 q_1027 q_243 q_2 k_KD_bit hd_KD_bit rfl ⟨by rw [hR]; decide, by rw [hR]; decide⟩ rfl rfl hX hw hA rfl rfl rfl hl.1 rfl rfl (Nat.le_of_ble_eq_true rfl) d_RE_isRefuted_5 ⟨Nat.zero_le _, Nat.zero_le _⟩ rfl (fun H locs hw => ?_)
  refine lv_lstore (lv' := [(6, .long r5), (0, .ref (ad 4)), (1, .ref (ad kr)), (2, .long u2), (4, .int u4), (5, .int u5)]) hx hb d_RE_isRefuted_8 hl (by decide) rfl (fun ls hl => ?_)
  refine lv_lload_n hx hb d_RE_isRefuted_10 rfl (lv_at hl 3 rfl) ?_
  refine lv_aload_n hx hb d_RE_isRefuted_11 rfl (lv_at hl 2 rfl) ?_
  refine lv_iload hx hb d_RE_isRefuted_12 (lv_at hl 4 rfl) ?_
  refine ob h (fun r14 h14 h => ?_)
  refine fw_callK (As := [.int u4]) (rest := [.long u2]) (st1 := [.long r14, .long u2]) S (ct_KD_allOf l D ad cI cL N kr hkr kk kn le ff fo ct fx gv pg cu co sg ru nu tg sc sr wy u4 r14 h14) hkr q_405 q_207 q_208 q_209 q_210 q_206 q_2 k_KD_allOf hd_KD_allOf rfl ⟨by rw [hR]; decide, by rw [hR]; decide⟩ rfl rfl hX hw hA rfl rfl rfl hl.1 rfl rfl (Nat.le_of_ble_eq_true rfl) d_RE_isRefuted_14 ⟨Nat.zero_le _, Nat.zero_le _⟩ rfl (fun H locs hw => ?_)
  refine lv_land hx hb d_RE_isRefuted_17 ?_
  refine lv_lload hx hb d_RE_isRefuted_18 (lv_at hl 0 rfl) ?_
  refine lv_ldc2 (v := (-1)) hx hb hown (hg _ q_388) d_RE_isRefuted_20 ?_
  refine lv_lxor hx hb d_RE_isRefuted_23 ?_
  refine lv_land hx hb d_RE_isRefuted_24 ?_
  refine lv_lstore (lv' := [(8, .long ((u2 &&& r14) &&& (r5 ^^^ (-1 : Int64)))), (6, .long r5), (0, .ref (ad 4)), (1, .ref (ad kr)), (2, .long u2), (4, .int u4), (5, .int u5)]) hx hb d_RE_isRefuted_25 hl (by decide) rfl (fun ls hl => ?_)
  refine lv_lload_n hx hb d_RE_isRefuted_27 rfl (lv_at hl 4 rfl) ?_
  refine lv_lload hx hb d_RE_isRefuted_28 (lv_at hl 1 rfl) ?_
  refine lv_land hx hb d_RE_isRefuted_30 ?_
  refine lv_lconst (v := 0) hx hb d_RE_isRefuted_31 (by decide) ?_
  refine fw_lcmpE (tgt := 62) hx hb d_RE_isRefuted_32 d_RE_isRefuted_33 (by decide) (fun hc => ?_) (fun hc => ?_)
  · have h := oi h hc
    refine lv_iconst (v := 0) hx hb d_RE_isRefuted_62 (by decide) ?_
    have q := Option.some.inj h
    subst q
    exact fw_zret hQ S hr rfl hlk hX hw d_RE_isRefuted_63
  · have h := oe h hc
    refine lv_aload_n hx hb d_RE_isRefuted_36 rfl (lv_at hl 2 rfl) ?_
    refine va_get (ci := 4) (v := .ref (ad 5)) (C := R_RE) (T := F_RE) (N := 3) hx hb hg in_RE hown hK hw.1 4 rfl rfl 0 (by decide) (hg _ q_148) (fun _ h9 => h9) rfl d_RE_isRefuted_37 ?_
    refine lv_lload_n hx hb d_RE_isRefuted_40 rfl (lv_at hl 4 rfl) ?_
    refine lv_lload hx hb d_RE_isRefuted_41 (lv_at hl 0 rfl) ?_
    refine lv_ldc2 (v := (-1)) hx hb hown (hg _ q_388) d_RE_isRefuted_43 ?_
    refine lv_lxor hx hb d_RE_isRefuted_46 ?_
    refine lv_land hx hb d_RE_isRefuted_47 ?_
    refine lv_lload hx hb d_RE_isRefuted_48 (lv_at hl 0 rfl) ?_
    refine ob h (fun r50 h50 h => ?_)
    refine fw_callV (As := [.long (u2 &&& (((u2 &&& r14) &&& (r5 ^^^ (-1 : Int64))) ^^^ (-1 : Int64))), .long ((u2 &&& r14) &&& (r5 ^^^ (-1 : Int64)))]) (rest := []) (st1 := [.long r50]) S (ct_UN_narrow l D ad cI cL N kk kn le ff fo ct fx gv pg cu co sg ru nu tg sc sr wy (u2 &&& (((u2 &&& r14) &&& (r5 ^^^ (-1 : Int64))) ^^^ (-1 : Int64))) ((u2 &&& r14) &&& (r5 ^^^ (-1 : Int64))) r50 h50) q_393 q_394 q_395 q_7 k_UN_narrow hd_UN_narrow ⟨by rw [hR]; decide, by rw [hR]; decide⟩ rfl rfl hX hw hA 5 (ci := 5) rfl rfl hl.1 rfl rfl (Nat.le_of_ble_eq_true rfl) d_RE_isRefuted_50 ⟨Nat.zero_le _, Nat.zero_le _⟩ rfl (fun H locs hw => ?_)
    refine lv_lconst (v := 0) hx hb d_RE_isRefuted_53 (by decide) ?_
    refine fw_lcmpN (tgt := 62) hx hb d_RE_isRefuted_54 d_RE_isRefuted_55 (by decide) (fun hc => ?_) (fun hc => ?_)
    · have h := oe h hc
      refine lv_iconst (v := 0) hx hb d_RE_isRefuted_62 (by decide) ?_
      have q := Option.some.inj h
      subst q
      exact fw_zret hQ S hr rfl hlk hX hw d_RE_isRefuted_63
    · have h := oi h hc
      refine lv_iconst (v := 1) hx hb d_RE_isRefuted_58 (by decide) ?_
      refine lv_goto (tgt := 63) hx hb d_RE_isRefuted_59 (by decide) ?_
      have q := Option.some.inj h
      subst q
      exact fw_zret hQ S hr rfl hlk hX hw d_RE_isRefuted_63
set_option maxHeartbeats 4000000 in
set_option maxRecDepth 100000 in
theorem ct_RE_firstBySupposing (l : Launch) (D : va_G) (ad : Nat → Nat) (cI cL : ClassId) (N : Nat) (kr : Nat) (hkr : K3 kr) (kk : Nat) (kn : Int32) (le : Int64) (ff : Int64) (fo : Int32) (ct : Int32) (fx : Int32) (gv : Nat → Int32) (pg : Nat → Int32) (cu : Nat → Int32) (co : Nat → Int32) (sg : Nat → Int32) (ru : Nat → Int32) (nu : Nat → Int32) (tg : Nat → Int32) (sc : Nat → Int64) (sr : Nat → Int32) (wy : Nat → Int64) (u2 : Int64) (out : Int64) (h : mi_RE_firstBySupposing N kr ct sc sr wy u2 = some out) : fw_C l y_RE_firstBySupposing (.code y_RE_firstBySupposing b_RE_firstBySupposing 6 (some .long) :: Gw) (fr 3 89) D vwCl (tyA cI cL) [.ref (ad 4), .ref (ad kr), .long u2] (wC ad cI cL kk kn le ff fo ct fx gv pg cu co sg ru nu tg sc sr wy) (some (.long out)) (wC ad cI cL kk kn le ff fo ct fx gv pg cu co sg ru nu tg sc sr wy) := by
  refine fw_of (by decide) (Nat.le_of_ble_eq_true rfl) ?_
  intro p e s m args below meth c ls A R Q hR hQ S hr hlk hX hA hl hw
  have hK := hX.1
  have hx := S.1
  have hb := S.2.1
  have hown := S.2.2.2.1
  have hg := S.2.2.2.2
  have hl : lv_has ls 6 [(0, .ref (ad 4)), (1, .ref (ad kr)), (2, .long u2)] := hl
  unfold mi_RE_firstBySupposing at h
  refine lv_iconst (v := 0) hx hb d_RE_firstBySupposing_0 (by decide) ?_
  refine lv_istore (lv' := [(4, .int (0 : Int32)), (0, .ref (ad 4)), (1, .ref (ad kr)), (2, .long u2)]) hx hb d_RE_firstBySupposing_1 hl (by decide) rfl (fun ls hl => ?_)
  have X3 : ∀ (y3 : Int32), mr_RE_firstBySupposing_3 y3 = some out → ∀ (ls : Array Slot) (H : Heap) (locs : List Loc), lv_has ls 6 [] → fw_H D vwCl A s.heap (wC ad cI cL kk kn le ff fo ct fx gv pg cu co sg ru nu tg sc sr wy) H locs → W p l e R s m args below meth c H locs 0 0 Q (F0 m 66 ls []) := by
    intro y3 h ls H locs hl hw
    unfold mr_RE_firstBySupposing_3 at h
    refine lv_lconst (v := 0) hx hb d_RE_firstBySupposing_66 (by decide) ?_
    have q := Option.some.inj h
    subst q
    exact fw_lret hQ S hr hlk hX hw d_RE_firstBySupposing_67
  have L3 : ∀ (n3 : Nat) (x3 : Int32) (e3 : (Int32) ⊕ (Int64)), lp (mb_RE_firstBySupposing_3 N kr ct sc sr wy u2) n3 x3 = some e3 → (Sum.elim (mr_RE_firstBySupposing_3) (fun z => some z)) e3 = some out → ∀ (ls : Array Slot) (H : Heap) (locs : List Loc), lv_has ls 6 [(0, .ref (ad 4)), (1, .ref (ad kr)), (2, .long u2), (4, .int x3)] → fw_H D vwCl A s.heap (wC ad cI cL kk kn le ff fo ct fx gv pg cu co sg ru nu tg sc sr wy) H locs → W p l e R s m args below meth c H locs 0 0 Q (F0 m 3 ls []) := by
    intro n3
    induction n3 with
    | zero => intro x3 e3 h1; exact absurd h1 lp_0
    | succ n3 ih3 =>
      intro x3 e3 h1 hr3 ls H locs hl hw
      rw [lp_s] at h1
      refine ob h1 (fun r3 h hk3 => ?_)
      unfold mb_RE_firstBySupposing_3 at h
      refine lv_iload hx hb d_RE_firstBySupposing_3 (lv_at hl 3 rfl) ?_
      refine lv_aload_n hx hb d_RE_firstBySupposing_5 rfl (lv_at hl 1 rfl) ?_
      refine fk_cells S hK hw hkr (hg _ q_48) d_RE_firstBySupposing_6 ?_
      refine lv_icmp_ge (tgt := 66) hx hb d_RE_firstBySupposing_9 (by decide) (fun hc => ?_) (fun hc => ?_)
      · have h := oi h hc
        have q := Option.some.inj h
        subst q
        have q := Option.some.inj hk3
        subst q
        exact X3 x3 hr3 _ _ _ (lv_sub hl [] rfl) hw
      · have h := oe h hc
        refine lv_aload_n hx hb d_RE_firstBySupposing_12 rfl (lv_at hl 1 rfl) ?_
        refine fk_least S hK hw hkr (hg _ q_50) d_RE_firstBySupposing_13 ?_
        refine lv_istore (lv' := [(5, .int (k_least kr)), (0, .ref (ad 4)), (1, .ref (ad kr)), (2, .long u2), (4, .int x3)]) hx hb d_RE_firstBySupposing_16 hl (by decide) rfl (fun ls hl => ?_)
        have X18 : ∀ (y18 : Int32), mr_RE_firstBySupposing_18 x3 y18 = some r3 → ∀ (ls : Array Slot) (H : Heap) (locs : List Loc), lv_has ls 6 [(0, .ref (ad 4)), (1, .ref (ad kr)), (2, .long u2), (4, .int x3)] → fw_H D vwCl A s.heap (wC ad cI cL kk kn le ff fo ct fx gv pg cu co sg ru nu tg sc sr wy) H locs → W p l e R s m args below meth c H locs 0 0 Q (F0 m 60 ls []) := by
          intro y18 h ls H locs hl hw
          unfold mr_RE_firstBySupposing_18 at h
          refine lv_iinc (k := 3) (v := x3 + 1) (lv' := [(4, .int (x3 + 1)), (0, .ref (ad 4)), (1, .ref (ad kr)), (2, .long u2)]) hx hb d_RE_firstBySupposing_60 hl rfl (by rw [lit1]) (by decide) rfl (fun ls hl => ?_)
          refine lv_goto (tgt := 3) hx hb d_RE_firstBySupposing_63 (by decide) ?_
          have q := Option.some.inj h
          subst q
          exact ih3 (x3 + 1) e3 hk3 hr3 _ _ _ (lv_sub hl [1, 2, 3, 0] rfl) hw
        have L18 : ∀ (n18 : Nat) (x18 : Int32) (e18 : (Int32) ⊕ (Int64)), lp (mb_RE_firstBySupposing_18 N kr ct sc sr wy u2 x3) n18 x18 = some e18 → (Sum.elim (mr_RE_firstBySupposing_18 x3) (fun z => some (.inr (.inr z)))) e18 = some r3 → ∀ (ls : Array Slot) (H : Heap) (locs : List Loc), lv_has ls 6 [(0, .ref (ad 4)), (1, .ref (ad kr)), (2, .long u2), (4, .int x3), (5, .int x18)] → fw_H D vwCl A s.heap (wC ad cI cL kk kn le ff fo ct fx gv pg cu co sg ru nu tg sc sr wy) H locs → W p l e R s m args below meth c H locs 0 0 Q (F0 m 18 ls []) := by
          intro n18
          induction n18 with
          | zero => intro x18 e18 h1; exact absurd h1 lp_0
          | succ n18 ih18 =>
            intro x18 e18 h1 hr18 ls H locs hl hw
            rw [lp_s] at h1
            refine ob h1 (fun r18 h hk18 => ?_)
            unfold mb_RE_firstBySupposing_18 at h
            refine lv_iload hx hb d_RE_firstBySupposing_18 (lv_at hl 4 rfl) ?_
            refine lv_aload_n hx hb d_RE_firstBySupposing_20 rfl (lv_at hl 1 rfl) ?_
            refine fk_least S hK hw hkr (hg _ q_50) d_RE_firstBySupposing_21 ?_
            refine lv_aload_n hx hb d_RE_firstBySupposing_24 rfl (lv_at hl 1 rfl) ?_
            refine fk_values S hK hw hkr (hg _ q_54) d_RE_firstBySupposing_25 ?_
            refine lv_iadd hx hb d_RE_firstBySupposing_28 ?_
            refine lv_icmp_ge (tgt := 60) hx hb d_RE_firstBySupposing_29 (by decide) (fun hc => ?_) (fun hc => ?_)
            · have h := oi h hc
              have q := Option.some.inj h
              subst q
              have q := Option.some.inj hk18
              subst q
              exact X18 x18 hr18 _ _ _ (lv_sub hl [0, 1, 2, 3] rfl) hw
            · have h := oe h hc
              refine lv_aload_n hx hb d_RE_firstBySupposing_32 rfl (lv_at hl 0 rfl) ?_
              refine lv_aload_n hx hb d_RE_firstBySupposing_33 rfl (lv_at hl 1 rfl) ?_
              refine lv_lload_n hx hb d_RE_firstBySupposing_34 rfl (lv_at hl 2 rfl) ?_
              refine lv_iload hx hb d_RE_firstBySupposing_35 (lv_at hl 3 rfl) ?_
              refine lv_iload hx hb d_RE_firstBySupposing_37 (lv_at hl 4 rfl) ?_
              refine ob h (fun r39 h39 h => ?_)
              refine fw_callV (As := [.ref (ad kr), .long u2, .int x3, .int x18]) (rest := []) (st1 := [.int r39]) S (ct_RE_isRefuted l D ad cI cL N kr hkr kk kn le ff fo ct fx gv pg cu co sg ru nu tg sc sr wy u2 x3 x18 r39 h39) q_434 q_436 s_12 q_6 k_RE_isRefuted hd_RE_isRefuted ⟨by rw [hR]; decide, by rw [hR]; decide⟩ rfl rfl hX hw hA 4 (ci := 4) rfl rfl hl.1 rfl rfl (Nat.le_of_ble_eq_true rfl) d_RE_firstBySupposing_39 ⟨Nat.zero_le _, Nat.zero_le _⟩ rfl (fun H locs hw => ?_)
              refine lv_if_eq (tgt := 54) hx hb d_RE_firstBySupposing_42 (by decide) (fun hc => ?_) (fun hc => ?_)
              · have h := oi h hc
                refine lv_iinc (k := 4) (v := x18 + 1) (lv' := [(5, .int (x18 + 1)), (0, .ref (ad 4)), (1, .ref (ad kr)), (2, .long u2), (4, .int x3)]) hx hb d_RE_firstBySupposing_54 hl rfl (by rw [lit1]) (by decide) rfl (fun ls hl => ?_)
                refine lv_goto (tgt := 18) hx hb d_RE_firstBySupposing_57 (by decide) ?_
                have q := Option.some.inj h
                subst q
                exact ih18 (x18 + 1) e18 hk18 hr18 _ _ _ (lv_sub hl [1, 2, 3, 4, 0] rfl) hw
              · have h := oe h hc
                refine lv_aload_n hx hb d_RE_firstBySupposing_45 rfl (lv_at hl 1 rfl) ?_
                refine lv_iload hx hb d_RE_firstBySupposing_46 (lv_at hl 3 rfl) ?_
                refine lv_iload hx hb d_RE_firstBySupposing_48 (lv_at hl 4 rfl) ?_
                refine ob h (fun r50 h50 h => ?_)
                refine fw_callK (As := [.int x3, .int x18]) (rest := []) (st1 := [.long r50]) S (ct_KD_bit l D ad cI cL N kr hkr kk kn le ff fo ct fx gv pg cu co sg ru nu tg sc sr wy x3 x18 r50 h50) hkr q_412 q_1024 q_1025 q_1026 q_1027 q_243 q_2 k_KD_bit hd_KD_bit rfl ⟨by rw [hR]; decide, by rw [hR]; decide⟩ rfl rfl hX hw hA rfl rfl rfl hl.1 rfl rfl (Nat.le_of_ble_eq_true rfl) d_RE_firstBySupposing_50 ⟨Nat.zero_le _, Nat.zero_le _⟩ rfl (fun H locs hw => ?_)
                have q := Option.some.inj h
                subst q
                have q := Option.some.inj hk18
                subst q
                have q := Option.some.inj hr18
                subst q
                have q := Option.some.inj hk3
                subst q
                have q := Option.some.inj hr3
                subst q
                exact fw_lret hQ S hr hlk hX hw d_RE_firstBySupposing_53
        refine ob h (fun e18 h1 h2 => ?_)
        exact L18 N (k_least kr) e18 h1 h2 _ _ _ (lv_sub hl [1, 2, 3, 4, 0] rfl) hw
  refine ob h (fun e3 h1 h2 => ?_)
  exact L3 N (0 : Int32) e3 h1 h2 _ _ _ (lv_sub hl [1, 2, 3, 0] rfl) hw
set_option maxHeartbeats 4000000 in
set_option maxRecDepth 100000 in
theorem ct_RE_supposeEach (l : Launch) (D : va_G) (ad : Nat → Nat) (cI cL : ClassId) (N : Nat) (kr : Nat) (hkr : K3 kr) (kk : Nat) (kn : Int32) (le : Int64) (ff : Int64) (fo : Int32) (ct : Int32) (fx : Int32) (gv : Nat → Int32) (pg : Nat → Int32) (cu : Nat → Int32) (co : Nat → Int32) (sg : Nat → Int32) (ru : Nat → Int32) (nu : Nat → Int32) (tg : Nat → Int32) (sc : Nat → Int64) (sr : Nat → Int32) (wy : Nat → Int64) (u2 : Int64) (out : Int64) (h : mi_RE_supposeEach N kr ct sc sr wy u2 = some out) : fw_C l y_RE_supposeEach (.code y_RE_supposeEach b_RE_supposeEach 10 (some .long) :: Gw) (fr 3 89) D vwCl (tyA cI cL) [.ref (ad 4), .ref (ad kr), .long u2] (wC ad cI cL kk kn le ff fo ct fx gv pg cu co sg ru nu tg sc sr wy) (some (.long out)) (wC ad cI cL kk kn le ff fo ct fx gv pg cu co sg ru nu tg sc sr wy) := by
  refine fw_of (by decide) (Nat.le_of_ble_eq_true rfl) ?_
  intro p e s m args below meth c ls A R Q hR hQ S hr hlk hX hA hl hw
  have hK := hX.1
  have hx := S.1
  have hb := S.2.1
  have hown := S.2.2.2.1
  have hg := S.2.2.2.2
  have hl : lv_has ls 10 [(0, .ref (ad 4)), (1, .ref (ad kr)), (2, .long u2)] := hl
  unfold mi_RE_supposeEach at h
  refine lv_lload_n hx hb d_RE_supposeEach_0 rfl (lv_at hl 2 rfl) ?_
  refine lv_lstore (lv' := [(4, .long u2), (0, .ref (ad 4)), (1, .ref (ad kr)), (2, .long u2)]) hx hb d_RE_supposeEach_1 hl (by decide) rfl (fun ls hl => ?_)
  refine lv_iconst (v := 0) hx hb d_RE_supposeEach_3 (by decide) ?_
  refine lv_istore (lv' := [(6, .int (0 : Int32)), (4, .long u2), (0, .ref (ad 4)), (1, .ref (ad kr)), (2, .long u2)]) hx hb d_RE_supposeEach_4 hl (by decide) rfl (fun ls hl => ?_)
  have X6 : ∀ (y6 : Int64 × Int32), mr_RE_supposeEach_6 y6 = some out → ∀ (ls : Array Slot) (H : Heap) (locs : List Loc), lv_has ls 10 [(4, .long y6.1)] → fw_H D vwCl A s.heap (wC ad cI cL kk kn le ff fo ct fx gv pg cu co sg ru nu tg sc sr wy) H locs → W p l e R s m args below meth c H locs 0 0 Q (F0 m 91 ls []) := by
    intro y6 h ls H locs hl hw
    unfold mr_RE_supposeEach_6 at h
    refine lv_lload hx hb d_RE_supposeEach_91 (lv_at hl 0 rfl) ?_
    have q := Option.some.inj h
    subst q
    exact fw_lret hQ S hr hlk hX hw d_RE_supposeEach_93
  have L6 : ∀ (n6 : Nat) (x6 : Int64 × Int32) (e6 : Int64 × Int32), lp (mb_RE_supposeEach_6 N kr ct sc sr wy) n6 x6 = some e6 → (mr_RE_supposeEach_6) e6 = some out → ∀ (ls : Array Slot) (H : Heap) (locs : List Loc), lv_has ls 10 [(0, .ref (ad 4)), (1, .ref (ad kr)), (4, .long x6.1), (6, .int x6.2)] → fw_H D vwCl A s.heap (wC ad cI cL kk kn le ff fo ct fx gv pg cu co sg ru nu tg sc sr wy) H locs → W p l e R s m args below meth c H locs 0 0 Q (F0 m 6 ls []) := by
    intro n6
    induction n6 with
    | zero => intro x6 e6 h1; exact absurd h1 lp_0
    | succ n6 ih6 =>
      intro x6 e6 h1 hr6 ls H locs hl hw
      rw [lp_s] at h1
      refine ob h1 (fun r6 h hk6 => ?_)
      unfold mb_RE_supposeEach_6 at h
      refine lv_iload hx hb d_RE_supposeEach_6 (lv_at hl 3 rfl) ?_
      refine lv_aload_n hx hb d_RE_supposeEach_8 rfl (lv_at hl 1 rfl) ?_
      refine fk_cells S hK hw hkr (hg _ q_48) d_RE_supposeEach_9 ?_
      refine lv_icmp_ge (tgt := 91) hx hb d_RE_supposeEach_12 (by decide) (fun hc => ?_) (fun hc => ?_)
      · have h := oi h hc
        have q := Option.some.inj h
        subst q
        have q := Option.some.inj hk6
        subst q
        exact X6 (x6.1, x6.2) hr6 _ _ _ (lv_sub hl [2] rfl) hw
      · have h := oe h hc
        refine lv_aload_n hx hb d_RE_supposeEach_15 rfl (lv_at hl 1 rfl) ?_
        refine fk_least S hK hw hkr (hg _ q_50) d_RE_supposeEach_16 ?_
        refine lv_istore (lv' := [(7, .int (k_least kr)), (0, .ref (ad 4)), (1, .ref (ad kr)), (4, .long x6.1), (6, .int x6.2)]) hx hb d_RE_supposeEach_19 hl (by decide) rfl (fun ls hl => ?_)
        have X21 : ∀ (y21 : Int64 × Int32), mr_RE_supposeEach_21 x6 y21 = some r6 → ∀ (ls : Array Slot) (H : Heap) (locs : List Loc), lv_has ls 10 [(0, .ref (ad 4)), (1, .ref (ad kr)), (4, .long y21.1), (6, .int x6.2)] → fw_H D vwCl A s.heap (wC ad cI cL kk kn le ff fo ct fx gv pg cu co sg ru nu tg sc sr wy) H locs → W p l e R s m args below meth c H locs 0 0 Q (F0 m 85 ls []) := by
          intro y21 h ls H locs hl hw
          unfold mr_RE_supposeEach_21 at h
          refine lv_iinc (k := 3) (v := x6.2 + 1) (lv' := [(6, .int (x6.2 + 1)), (0, .ref (ad 4)), (1, .ref (ad kr)), (4, .long y21.1)]) hx hb d_RE_supposeEach_85 hl rfl (by rw [lit1]) (by decide) rfl (fun ls hl => ?_)
          refine lv_goto (tgt := 6) hx hb d_RE_supposeEach_88 (by decide) ?_
          have q := Option.some.inj h
          subst q
          exact ih6 (y21.1, x6.2 + 1) e6 hk6 hr6 _ _ _ (lv_sub hl [1, 2, 3, 0] rfl) hw
        have L21 : ∀ (n21 : Nat) (x21 : Int64 × Int32) (e21 : Int64 × Int32), lp (mb_RE_supposeEach_21 N kr ct sc sr wy x6) n21 x21 = some e21 → (mr_RE_supposeEach_21 x6) e21 = some r6 → ∀ (ls : Array Slot) (H : Heap) (locs : List Loc), lv_has ls 10 [(0, .ref (ad 4)), (1, .ref (ad kr)), (4, .long x21.1), (6, .int x6.2), (7, .int x21.2)] → fw_H D vwCl A s.heap (wC ad cI cL kk kn le ff fo ct fx gv pg cu co sg ru nu tg sc sr wy) H locs → W p l e R s m args below meth c H locs 0 0 Q (F0 m 21 ls []) := by
          intro n21
          induction n21 with
          | zero => intro x21 e21 h1; exact absurd h1 lp_0
          | succ n21 ih21 =>
            intro x21 e21 h1 hr21 ls H locs hl hw
            rw [lp_s] at h1
            refine ob h1 (fun r21 h hk21 => ?_)
            unfold mb_RE_supposeEach_21 at h
            refine lv_iload hx hb d_RE_supposeEach_21 (lv_at hl 4 rfl) ?_
            refine lv_aload_n hx hb d_RE_supposeEach_23 rfl (lv_at hl 1 rfl) ?_
            refine fk_least S hK hw hkr (hg _ q_50) d_RE_supposeEach_24 ?_
            refine lv_aload_n hx hb d_RE_supposeEach_27 rfl (lv_at hl 1 rfl) ?_
            refine fk_values S hK hw hkr (hg _ q_54) d_RE_supposeEach_28 ?_
            refine lv_iadd hx hb d_RE_supposeEach_31 ?_
            refine lv_icmp_ge (tgt := 85) hx hb d_RE_supposeEach_32 (by decide) (fun hc => ?_) (fun hc => ?_)
            · have h := oi h hc
              have q := Option.some.inj h
              subst q
              have q := Option.some.inj hk21
              subst q
              exact X21 (x21.1, x21.2) hr21 _ _ _ (lv_sub hl [0, 1, 2, 3] rfl) hw
            · have h := oe h hc
              refine lv_aload_n hx hb d_RE_supposeEach_35 rfl (lv_at hl 0 rfl) ?_
              refine lv_aload_n hx hb d_RE_supposeEach_36 rfl (lv_at hl 1 rfl) ?_
              refine lv_lload hx hb d_RE_supposeEach_37 (lv_at hl 2 rfl) ?_
              refine lv_iload hx hb d_RE_supposeEach_39 (lv_at hl 3 rfl) ?_
              refine lv_iload hx hb d_RE_supposeEach_41 (lv_at hl 4 rfl) ?_
              refine ob h (fun r43 h43 h => ?_)
              refine fw_callV (As := [.ref (ad kr), .long x21.1, .int x6.2, .int x21.2]) (rest := []) (st1 := [.int r43]) S (ct_RE_isRefuted l D ad cI cL N kr hkr kk kn le ff fo ct fx gv pg cu co sg ru nu tg sc sr wy x21.1 x6.2 x21.2 r43 h43) q_434 q_436 s_12 q_6 k_RE_isRefuted hd_RE_isRefuted ⟨by rw [hR]; decide, by rw [hR]; decide⟩ rfl rfl hX hw hA 4 (ci := 4) rfl rfl hl.1 rfl rfl (Nat.le_of_ble_eq_true rfl) d_RE_supposeEach_43 ⟨Nat.zero_le _, Nat.zero_le _⟩ rfl (fun H locs hw => ?_)
              refine lv_if_eq (tgt := 79) hx hb d_RE_supposeEach_46 (by decide) (fun hc => ?_) (fun hc => ?_)
              · have h := oi h hc
                refine lv_iinc (k := 4) (v := x21.2 + 1) (lv' := [(7, .int (x21.2 + 1)), (0, .ref (ad 4)), (1, .ref (ad kr)), (4, .long x21.1), (6, .int x6.2)]) hx hb d_RE_supposeEach_79 hl rfl (by rw [lit1]) (by decide) rfl (fun ls hl => ?_)
                refine lv_goto (tgt := 21) hx hb d_RE_supposeEach_82 (by decide) ?_
                have q := Option.some.inj h
                subst q
                exact ih21 (x21.1, x21.2 + 1) e21 hk21 hr21 _ _ _ (lv_sub hl [1, 2, 3, 4, 0] rfl) hw
              · have h := oe h hc
                refine lv_aload_n hx hb d_RE_supposeEach_49 rfl (lv_at hl 1 rfl) ?_
                refine lv_iload hx hb d_RE_supposeEach_50 (lv_at hl 3 rfl) ?_
                refine lv_iload hx hb d_RE_supposeEach_52 (lv_at hl 4 rfl) ?_
                refine ob h (fun r54 h54 h => ?_)
                refine fw_callK (As := [.int x6.2, .int x21.2]) (rest := []) (st1 := [.long r54]) S (ct_KD_bit l D ad cI cL N kr hkr kk kn le ff fo ct fx gv pg cu co sg ru nu tg sc sr wy x6.2 x21.2 r54 h54) hkr q_412 q_1024 q_1025 q_1026 q_1027 q_243 q_2 k_KD_bit hd_KD_bit rfl ⟨by rw [hR]; decide, by rw [hR]; decide⟩ rfl rfl hX hw hA rfl rfl rfl hl.1 rfl rfl (Nat.le_of_ble_eq_true rfl) d_RE_supposeEach_54 ⟨Nat.zero_le _, Nat.zero_le _⟩ rfl (fun H locs hw => ?_)
                refine lv_lstore (lv' := [(8, .long r54), (0, .ref (ad 4)), (1, .ref (ad kr)), (4, .long x21.1), (6, .int x6.2), (7, .int x21.2)]) hx hb d_RE_supposeEach_57 hl (by decide) rfl (fun ls hl => ?_)
                refine lv_aload_n hx hb d_RE_supposeEach_59 rfl (lv_at hl 1 rfl) ?_
                refine va_get (ci := 4) (v := .ref (ad 5)) (C := R_RE) (T := F_RE) (N := 3) hx hb hg in_RE hown hK hw.1 4 rfl rfl 0 (by decide) (hg _ q_148) (fun _ h9 => h9) rfl d_RE_supposeEach_60 ?_
                refine lv_lload hx hb d_RE_supposeEach_63 (lv_at hl 3 rfl) ?_
                refine lv_lload hx hb d_RE_supposeEach_65 (lv_at hl 0 rfl) ?_
                refine lv_ldc2 (v := (-1)) hx hb hown (hg _ q_388) d_RE_supposeEach_67 ?_
                refine lv_lxor hx hb d_RE_supposeEach_70 ?_
                refine lv_land hx hb d_RE_supposeEach_71 ?_
                refine lv_lload hx hb d_RE_supposeEach_72 (lv_at hl 0 rfl) ?_
                refine ob h (fun r74 h74 h => ?_)
                refine fw_callV (As := [.long (x21.1 &&& (r54 ^^^ (-1 : Int64))), .long r54]) (rest := []) (st1 := [.long r74]) S (ct_UN_narrow l D ad cI cL N kk kn le ff fo ct fx gv pg cu co sg ru nu tg sc sr wy (x21.1 &&& (r54 ^^^ (-1 : Int64))) r54 r74 h74) q_393 q_394 q_395 q_7 k_UN_narrow hd_UN_narrow ⟨by rw [hR]; decide, by rw [hR]; decide⟩ rfl rfl hX hw hA 5 (ci := 5) rfl rfl hl.1 rfl rfl (Nat.le_of_ble_eq_true rfl) d_RE_supposeEach_74 ⟨Nat.zero_le _, Nat.zero_le _⟩ rfl (fun H locs hw => ?_)
                refine lv_lstore (lv' := [(4, .long r74), (8, .long r54), (0, .ref (ad 4)), (1, .ref (ad kr)), (6, .int x6.2), (7, .int x21.2)]) hx hb d_RE_supposeEach_77 hl (by decide) rfl (fun ls hl => ?_)
                refine lv_iinc (k := 5) (v := x21.2 + 1) (lv' := [(7, .int (x21.2 + 1)), (4, .long r74), (8, .long r54), (0, .ref (ad 4)), (1, .ref (ad kr)), (6, .int x6.2)]) hx hb d_RE_supposeEach_79 hl rfl (by rw [lit1]) (by decide) rfl (fun ls hl => ?_)
                refine lv_goto (tgt := 21) hx hb d_RE_supposeEach_82 (by decide) ?_
                have q := Option.some.inj h
                subst q
                exact ih21 (r74, x21.2 + 1) e21 hk21 hr21 _ _ _ (lv_sub hl [3, 4, 1, 5, 0] rfl) hw
        refine ob h (fun e21 h1 h2 => ?_)
        exact L21 N (x6.1, k_least kr) e21 h1 h2 _ _ _ (lv_sub hl [1, 2, 3, 4, 0] rfl) hw
  refine ob h (fun e6 h1 h2 => ?_)
  exact L6 N (u2, (0 : Int32)) e6 h1 h2 _ _ _ (lv_sub hl [2, 3, 1, 0] rfl) hw
set_option maxHeartbeats 4000000 in
set_option maxRecDepth 100000 in
theorem ct_RE_byBoth (l : Launch) (D : va_G) (ad : Nat → Nat) (cI cL : ClassId) (N : Nat) (kr : Nat) (hkr : K3 kr) (kk : Nat) (kn : Int32) (le : Int64) (ff : Int64) (fo : Int32) (ct : Int32) (fx : Int32) (gv : Nat → Int32) (pg : Nat → Int32) (cu : Nat → Int32) (co : Nat → Int32) (sg : Nat → Int32) (ru : Nat → Int32) (nu : Nat → Int32) (tg : Nat → Int32) (sc : Nat → Int64) (sr : Nat → Int32) (wy : Nat → Int64) (u2 : Int64) (out : Int64) (h : mi_RE_byBoth N kr ct sc sr wy u2 = some out) : fw_C l y_RE_byBoth (.code y_RE_byBoth b_RE_byBoth 11 (some .long) :: Gw) (fr 4 118) D vwCl (tyA cI cL) [.ref (ad 4), .ref (ad kr), .long u2] (wC ad cI cL kk kn le ff fo ct fx gv pg cu co sg ru nu tg sc sr wy) (some (.long out)) (wC ad cI cL kk kn le ff fo ct fx gv pg cu co sg ru nu tg sc sr wy) := by
  refine fw_of (by decide) (Nat.le_of_ble_eq_true rfl) ?_
  intro p e s m args below meth c ls A R Q hR hQ S hr hlk hX hA hl hw
  have hK := hX.1
  have hx := S.1
  have hb := S.2.1
  have hown := S.2.2.2.1
  have hg := S.2.2.2.2
  have hl : lv_has ls 11 [(0, .ref (ad 4)), (1, .ref (ad kr)), (2, .long u2)] := hl
  unfold mi_RE_byBoth at h
  refine lv_aload_n hx hb d_RE_byBoth_0 rfl (lv_at hl 0 rfl) ?_
  refine lv_lload_n hx hb d_RE_byBoth_1 rfl (lv_at hl 2 rfl) ?_
  refine ob h (fun r2 h2 h => ?_)
  refine fw_callV (As := [.long u2]) (rest := []) (st1 := [.long r2]) S (ct_RE_byLines l D ad cI cL N kk kn le ff fo ct fx gv pg cu co sg ru nu tg sc sr wy u2 r2 h2) q_473 q_466 q_467 q_6 k_RE_byLines hd_RE_byLines ⟨by rw [hR]; decide, by rw [hR]; decide⟩ rfl rfl hX hw hA 4 (ci := 4) rfl rfl hl.1 rfl rfl (Nat.le_of_ble_eq_true rfl) d_RE_byBoth_2 ⟨Nat.zero_le _, Nat.zero_le _⟩ rfl (fun H locs hw => ?_)
  refine lv_lstore (lv' := [(4, .long r2), (0, .ref (ad 4)), (1, .ref (ad kr)), (2, .long u2)]) hx hb d_RE_byBoth_5 hl (by decide) rfl (fun ls hl => ?_)
  refine lv_ldc2 (v := (-1)) hx hb hown (hg _ q_388) d_RE_byBoth_7 ?_
  refine lv_lstore (lv' := [(6, .long (-1 : Int64)), (4, .long r2), (0, .ref (ad 4)), (1, .ref (ad kr)), (2, .long u2)]) hx hb d_RE_byBoth_10 hl (by decide) rfl (fun ls hl => ?_)
  refine lv_iconst (v := 0) hx hb d_RE_byBoth_12 (by decide) ?_
  refine lv_istore (lv' := [(8, .int (0 : Int32)), (6, .long (-1 : Int64)), (4, .long r2), (0, .ref (ad 4)), (1, .ref (ad kr)), (2, .long u2)]) hx hb d_RE_byBoth_13 hl (by decide) rfl (fun ls hl => ?_)
  have X15 : ∀ (y15 : Int64 × Int64 × Int32), mr_RE_byBoth_15 y15 = some out → ∀ (ls : Array Slot) (H : Heap) (locs : List Loc), lv_has ls 11 [(4, .long y15.1)] → fw_H D vwCl A s.heap (wC ad cI cL kk kn le ff fo ct fx gv pg cu co sg ru nu tg sc sr wy) H locs → W p l e R s m args below meth c H locs 0 0 Q (F0 m 59 ls []) := by
    intro y15 h ls H locs hl hw
    unfold mr_RE_byBoth_15 at h
    refine lv_lload hx hb d_RE_byBoth_59 (lv_at hl 0 rfl) ?_
    have q := Option.some.inj h
    subst q
    exact fw_lret hQ S hr hlk hX hw d_RE_byBoth_61
  have L15 : ∀ (n15 : Nat) (x15 : Int64 × Int64 × Int32) (e15 : Int64 × Int64 × Int32), lp (mb_RE_byBoth_15 N kr ct sc sr wy) n15 x15 = some e15 → (mr_RE_byBoth_15) e15 = some out → ∀ (ls : Array Slot) (H : Heap) (locs : List Loc), lv_has ls 11 [(0, .ref (ad 4)), (1, .ref (ad kr)), (4, .long x15.1), (6, .long x15.2.1), (8, .int x15.2.2)] → fw_H D vwCl A s.heap (wC ad cI cL kk kn le ff fo ct fx gv pg cu co sg ru nu tg sc sr wy) H locs → W p l e R s m args below meth c H locs 0 0 Q (F0 m 15 ls []) := by
    intro n15
    induction n15 with
    | zero => intro x15 e15 h1; exact absurd h1 lp_0
    | succ n15 ih15 =>
      intro x15 e15 h1 hr15 ls H locs hl hw
      rw [lp_s] at h1
      refine ob h1 (fun r15 h hk15 => ?_)
      unfold mb_RE_byBoth_15 at h
      refine lv_iload hx hb d_RE_byBoth_15 (lv_at hl 4 rfl) ?_
      refine lv_bipush (v := 64) hx hb d_RE_byBoth_17 (by decide) ?_
      refine lv_icmp_gt (tgt := 59) hx hb d_RE_byBoth_19 (by decide) (fun hc => ?_) (fun hc => ?_)
      · have h := oi h hc
        have q := Option.some.inj h
        subst q
        have q := Option.some.inj hk15
        subst q
        exact X15 (x15.1, x15.2.1, x15.2.2) hr15 _ _ _ (lv_sub hl [2] rfl) hw
      · have h := oe h hc
        refine lv_lload hx hb d_RE_byBoth_22 (lv_at hl 3 rfl) ?_
        refine lv_lconst (v := 0) hx hb d_RE_byBoth_24 (by decide) ?_
        refine fw_lcmpE (tgt := 59) hx hb d_RE_byBoth_25 d_RE_byBoth_26 (by decide) (fun hc => ?_) (fun hc => ?_)
        · have h := oi h hc
          have q := Option.some.inj h
          subst q
          have q := Option.some.inj hk15
          subst q
          exact X15 (x15.1, x15.2.1, x15.2.2) hr15 _ _ _ (lv_sub hl [2] rfl) hw
        · have h := oe h hc
          refine lv_lload hx hb d_RE_byBoth_29 (lv_at hl 2 rfl) ?_
          refine lv_lstore (lv' := [(9, .long x15.1), (0, .ref (ad 4)), (1, .ref (ad kr)), (4, .long x15.1), (6, .long x15.2.1), (8, .int x15.2.2)]) hx hb d_RE_byBoth_31 hl (by decide) rfl (fun ls hl => ?_)
          refine lv_aload_n hx hb d_RE_byBoth_33 rfl (lv_at hl 1 rfl) ?_
          refine lv_aload_n hx hb d_RE_byBoth_34 rfl (lv_at hl 2 rfl) ?_
          refine lv_lload hx hb d_RE_byBoth_35 (lv_at hl 3 rfl) ?_
          refine ob h (fun r37 h37 h => ?_)
          refine fw_callV (As := [.ref (ad kr), .long x15.1]) (rest := []) (st1 := [.long r37]) S (ct_RE_supposeEach l D ad cI cL N kr hkr kk kn le ff fo ct fx gv pg cu co sg ru nu tg sc sr wy x15.1 r37 h37) q_474 q_476 s_13 q_6 k_RE_supposeEach hd_RE_supposeEach ⟨by rw [hR]; decide, by rw [hR]; decide⟩ rfl rfl hX hw hA 4 (ci := 4) rfl rfl hl.1 rfl rfl (Nat.le_of_ble_eq_true rfl) d_RE_byBoth_37 ⟨Nat.zero_le _, Nat.zero_le _⟩ rfl (fun H locs hw => ?_)
          refine lv_lstore (lv' := [(4, .long r37), (9, .long x15.1), (0, .ref (ad 4)), (1, .ref (ad kr)), (6, .long x15.2.1), (8, .int x15.2.2)]) hx hb d_RE_byBoth_40 hl (by decide) rfl (fun ls hl => ?_)
          refine lv_lload hx hb d_RE_byBoth_42 (lv_at hl 1 rfl) ?_
          refine lv_lload hx hb d_RE_byBoth_44 (lv_at hl 0 rfl) ?_
          refine lv_ldc2 (v := (-1)) hx hb hown (hg _ q_388) d_RE_byBoth_46 ?_
          refine lv_lxor hx hb d_RE_byBoth_49 ?_
          refine lv_land hx hb d_RE_byBoth_50 ?_
          refine lv_lstore (lv' := [(6, .long (x15.1 &&& (r37 ^^^ (-1 : Int64)))), (4, .long r37), (9, .long x15.1), (0, .ref (ad 4)), (1, .ref (ad kr)), (8, .int x15.2.2)]) hx hb d_RE_byBoth_51 hl (by decide) rfl (fun ls hl => ?_)
          refine lv_iinc (k := 5) (v := x15.2.2 + 1) (lv' := [(8, .int (x15.2.2 + 1)), (6, .long (x15.1 &&& (r37 ^^^ (-1 : Int64)))), (4, .long r37), (9, .long x15.1), (0, .ref (ad 4)), (1, .ref (ad kr))]) hx hb d_RE_byBoth_53 hl rfl (by rw [lit1]) (by decide) rfl (fun ls hl => ?_)
          refine lv_goto (tgt := 15) hx hb d_RE_byBoth_56 (by decide) ?_
          have q := Option.some.inj h
          subst q
          exact ih15 (r37, x15.1 &&& (r37 ^^^ (-1 : Int64)), x15.2.2 + 1) e15 hk15 hr15 _ _ _ (lv_sub hl [4, 5, 2, 1, 0] rfl) hw
  refine ob h (fun e15 h1 h2 => ?_)
  exact L15 N (r2, (-1 : Int64), (0 : Int32)) e15 h1 h2 _ _ _ (lv_sub hl [3, 4, 2, 1, 0] rfl) hw
set_option maxHeartbeats 4000000 in
set_option maxRecDepth 100000 in
theorem ct_RE_search (l : Launch) (D : va_G) (ad : Nat → Nat) (cI cL : ClassId) (N : Nat) : ∀ (dd : Nat) (kr : Nat) (hkr : K3 kr) (kk : Nat) (kn : Int32) (le : Int64) (ff : Int64) (fo : Int32) (ct : Int32) (fx : Int32) (gv : Nat → Int32) (pg : Nat → Int32) (cu : Nat → Int32) (co : Nat → Int32) (sg : Nat → Int32) (ru : Nat → Int32) (nu : Nat → Int32) (tg : Nat → Int32) (sc : Nat → Int64) (sr : Nat → Int32) (wy : Nat → Int64) (u2 : Int64) (u4 : Int64) (u6 : Int32) (u7 : Int32) (out : Int64 × Int32) (h : mi_RE_search N dd kr ff fo ct sc sr wy u2 u4 u6 u7 = some out), fw_C l y_RE_search (.code y_RE_search b_RE_search 16 (none) :: Gw) (fr (2 + dd) (60 + dd * 35)) D vwCl (tyA cI cL) [.ref (ad 4), .ref (ad kr), .long u2, .long u4, .int u6, .int u7] (wC ad cI cL kk kn le ff fo ct fx gv pg cu co sg ru nu tg sc sr wy) none (wC ad cI cL kk kn le out.1 out.2 ct fx gv pg cu co sg ru nu tg sc sr wy) := by
  intro dd
  induction dd with
  | zero => intro kr hkr kk kn le ff fo ct fx gv pg cu co sg ru nu tg sc sr wy u2 u4 u6 u7 out h; exact absurd h (fun q => nomatch q)
  | succ dd ih =>
    intro kr hkr kk kn le ff fo ct fx gv pg cu co sg ru nu tg sc sr wy u2 u4 u6 u7 out h
    have h : mn_RE_search N (mi_RE_search N dd) kr ff fo ct sc sr wy u2 u4 u6 u7 = some out := h
    generalize mi_RE_search N dd = rc at h ih
    refine fw_of (by decide) (Nat.le_of_ble_eq_true rfl) ?_
    intro p e s m args below meth c ls A R Q hR hQ S hr hlk hX hA hl hw
    have hK := hX.1
    have hx := S.1
    have hb := S.2.1
    have hown := S.2.2.2.1
    have hg := S.2.2.2.2
    have hl : lv_has ls 16 [(0, .ref (ad 4)), (1, .ref (ad kr)), (2, .long u2), (4, .long u4), (6, .int u6), (7, .int u7)] := hl
    unfold mn_RE_search at h
    refine lv_aload_n hx hb d_RE_search_0 rfl (lv_at hl 0 rfl) ?_
    refine va_get (ci := 4) (v := .ref (ad 5)) (C := R_RE) (T := F_RE) (N := 3) hx hb hg in_RE hown hK hw.1 4 rfl rfl 0 (by decide) (hg _ q_148) (fun _ h9 => h9) rfl d_RE_search_1 ?_
    refine lv_lload_n hx hb d_RE_search_4 rfl (lv_at hl 2 rfl) ?_
    refine lv_lload hx hb d_RE_search_5 (lv_at hl 3 rfl) ?_
    refine ob h (fun r7 h7 h => ?_)
    refine fw_callV (As := [.long u2, .long u4]) (rest := []) (st1 := [.long r7]) S (ct_UN_narrow l D ad cI cL N kk kn le ff fo ct fx gv pg cu co sg ru nu tg sc sr wy u2 u4 r7 h7) q_393 q_394 q_395 q_7 k_UN_narrow hd_UN_narrow ⟨by rw [hR]; exact (by omega : 1 + 1 ≤ 2 + (dd + 1)), by rw [hR]; exact (by omega : 8 + (13 + 11) + 28 ≤ 60 + (dd + 1) * 35)⟩ rfl rfl hX hw hA 5 (ci := 5) rfl rfl hl.1 rfl rfl (Nat.le_of_ble_eq_true rfl) d_RE_search_7 ⟨Nat.zero_le _, Nat.zero_le _⟩ rfl (fun H locs hw => ?_)
    refine lv_lstore (lv' := [(8, .long r7), (0, .ref (ad 4)), (1, .ref (ad kr)), (2, .long u2), (4, .long u4), (6, .int u6), (7, .int u7)]) hx hb d_RE_search_10 hl (by decide) rfl (fun ls hl => ?_)
    refine lv_lload hx hb d_RE_search_12 (lv_at hl 0 rfl) ?_
    refine lv_lconst (v := 0) hx hb d_RE_search_14 (by decide) ?_
    refine fw_lcmpN (tgt := 20) hx hb d_RE_search_15 d_RE_search_16 (by decide) (fun hc => ?_) (fun hc => ?_)
    · have h := oe h hc
      refine lv_aload_n hx hb d_RE_search_20 rfl (lv_at hl 2 rfl) ?_
      refine lv_lload hx hb d_RE_search_21 (lv_at hl 0 rfl) ?_
      refine ob h (fun r23 h23 h => ?_)
      refine fw_callS (As := [.ref (ad kr), .long r7]) (rest := []) (st1 := [.int r23]) S (ct_RE_firstOpenCell l D ad cI cL N kr hkr kk kn le ff fo ct fx gv pg cu co sg ru nu tg sc sr wy r7 r23 h23) q_402 q_403 q_6 k_RE_firstOpenCell hd_RE_firstOpenCell ⟨by rw [hR]; exact (by omega : 1 + 1 ≤ 2 + (dd + 1)), by rw [hR]; exact (by omega : 8 + (4 + 11) + 21 ≤ 60 + (dd + 1) * 35)⟩ rfl rfl hX hw hA hl.1 rfl rfl (Nat.le_of_ble_eq_true rfl) d_RE_search_23 ⟨Nat.zero_le _, Nat.zero_le _⟩ rfl (fun H locs hw => ?_)
      refine lv_istore (lv' := [(10, .int r23), (8, .long r7), (0, .ref (ad 4)), (1, .ref (ad kr)), (2, .long u2), (4, .long u4), (6, .int u6), (7, .int u7)]) hx hb d_RE_search_26 hl (by decide) rfl (fun ls hl => ?_)
      refine lv_iload hx hb d_RE_search_28 (lv_at hl 0 rfl) ?_
      refine lv_iconst (v := (-1)) hx hb d_RE_search_30 (by decide) ?_
      refine lv_icmp_ne (tgt := 65) hx hb d_RE_search_31 (by decide) (fun hc => ?_) (fun hc => ?_)
      · have h := oe h hc
        refine lv_aload_n hx hb d_RE_search_65 rfl (lv_at hl 3 rfl) ?_
        refine fk_least S hK hw hkr (hg _ q_50) d_RE_search_66 ?_
        refine lv_istore (lv' := [(11, .int (k_least kr)), (10, .int r23), (8, .long r7), (0, .ref (ad 4)), (1, .ref (ad kr)), (2, .long u2), (4, .long u4), (6, .int u6), (7, .int u7)]) hx hb d_RE_search_69 hl (by decide) rfl (fun ls hl => ?_)
        have X71 : ∀ (y71 : Int32 × Int64 × Int32), mr_RE_search_71 y71 = some out → ∀ (ls : Array Slot) (H : Heap) (locs : List Loc), lv_has ls 16 [] → fw_H D vwCl A s.heap (wC ad cI cL kk kn le y71.2.1 y71.2.2 ct fx gv pg cu co sg ru nu tg sc sr wy) H locs → W p l e R s m args below meth c H locs 0 0 Q (F0 m 169 ls []) := by
          intro y71 h ls H locs hl hw
          unfold mr_RE_search_71 at h
          have q := Option.some.inj h
          subst q
          exact fw_vret hQ S hr hlk hX hw d_RE_search_169
        have L71 : ∀ (n71 : Nat) (x71 : Int32 × Int64 × Int32) (e71 : Int32 × Int64 × Int32), lp (mb_RE_search_71 N rc kr ct sc sr wy u6 u7 r7 r23) n71 x71 = some e71 → (mr_RE_search_71) e71 = some out → ∀ (ls : Array Slot) (H : Heap) (locs : List Loc), lv_has ls 16 [(0, .ref (ad 4)), (1, .ref (ad kr)), (6, .int u6), (7, .int u7), (8, .long r7), (10, .int r23), (11, .int x71.1)] → fw_H D vwCl A s.heap (wC ad cI cL kk kn le x71.2.1 x71.2.2 ct fx gv pg cu co sg ru nu tg sc sr wy) H locs → W p l e R s m args below meth c H locs 0 0 Q (F0 m 71 ls []) := by
          intro n71
          induction n71 with
          | zero => intro x71 e71 h1; exact absurd h1 lp_0
          | succ n71 ih71 =>
            intro x71 e71 h1 hr71 ls H locs hl hw
            rw [lp_s] at h1
            refine ob h1 (fun r71 h hk71 => ?_)
            unfold mb_RE_search_71 at h
            refine lv_iload hx hb d_RE_search_71 (lv_at hl 6 rfl) ?_
            refine lv_aload_n hx hb d_RE_search_73 rfl (lv_at hl 1 rfl) ?_
            refine fk_least S hK hw hkr (hg _ q_50) d_RE_search_74 ?_
            refine lv_aload_n hx hb d_RE_search_77 rfl (lv_at hl 1 rfl) ?_
            refine fk_values S hK hw hkr (hg _ q_54) d_RE_search_78 ?_
            refine lv_iadd hx hb d_RE_search_81 ?_
            refine lv_icmp_ge (tgt := 169) hx hb d_RE_search_82 (by decide) (fun hc => ?_) (fun hc => ?_)
            · have h := oi h hc
              have q := Option.some.inj h
              subst q
              have q := Option.some.inj hk71
              subst q
              exact X71 (x71.1, x71.2.1, x71.2.2) hr71 _ _ _ (lv_sub hl [] rfl) hw
            · have h := oe h hc
              refine lv_iload hx hb d_RE_search_85 (lv_at hl 3 rfl) ?_
              refine lv_aload_n hx hb d_RE_search_87 rfl (lv_at hl 1 rfl) ?_
              refine fk_cells S hK hw hkr (hg _ q_48) d_RE_search_88 ?_
              refine lv_icmp_ge (tgt := 169) hx hb d_RE_search_91 (by decide) (fun hc => ?_) (fun hc => ?_)
              · have h := oi h hc
                have q := Option.some.inj h
                subst q
                have q := Option.some.inj hk71
                subst q
                exact X71 (x71.1, x71.2.1, x71.2.2) hr71 _ _ _ (lv_sub hl [] rfl) hw
              · have h := oe h hc
                refine lv_aload_n hx hb d_RE_search_94 rfl (lv_at hl 1 rfl) ?_
                refine lv_iload hx hb d_RE_search_95 (lv_at hl 5 rfl) ?_
                refine lv_iload hx hb d_RE_search_97 (lv_at hl 6 rfl) ?_
                refine ob h (fun r99 h99 h => ?_)
                refine fw_callK (As := [.int r23, .int x71.1]) (rest := []) (st1 := [.long r99]) S (ct_KD_bit l D ad cI cL N kr hkr kk kn le x71.2.1 x71.2.2 ct fx gv pg cu co sg ru nu tg sc sr wy r23 x71.1 r99 h99) hkr q_412 q_1024 q_1025 q_1026 q_1027 q_243 q_2 k_KD_bit hd_KD_bit rfl ⟨by rw [hR]; exact (by omega : 0 + 1 ≤ 2 + (dd + 1)), by rw [hR]; exact (by omega : 8 + (3 + 11) + 0 ≤ 60 + (dd + 1) * 35)⟩ rfl rfl hX hw hA rfl rfl rfl hl.1 rfl rfl (Nat.le_of_ble_eq_true rfl) d_RE_search_99 ⟨Nat.zero_le _, Nat.zero_le _⟩ rfl (fun H locs hw => ?_)
                refine lv_lstore (lv' := [(12, .long r99), (0, .ref (ad 4)), (1, .ref (ad kr)), (6, .int u6), (7, .int u7), (8, .long r7), (10, .int r23), (11, .int x71.1)]) hx hb d_RE_search_102 hl (by decide) rfl (fun ls hl => ?_)
                refine lv_lload hx hb d_RE_search_104 (lv_at hl 5 rfl) ?_
                refine lv_aload_n hx hb d_RE_search_106 rfl (lv_at hl 2 rfl) ?_
                refine lv_iload hx hb d_RE_search_107 (lv_at hl 6 rfl) ?_
                refine ob h (fun r109 h109 h => ?_)
                refine fw_callK (As := [.int r23]) (rest := [.long r7]) (st1 := [.long r109, .long r7]) S (ct_KD_allOf l D ad cI cL N kr hkr kk kn le x71.2.1 x71.2.2 ct fx gv pg cu co sg ru nu tg sc sr wy r23 r109 h109) hkr q_405 q_207 q_208 q_209 q_210 q_206 q_2 k_KD_allOf hd_KD_allOf rfl ⟨by rw [hR]; exact (by omega : 0 + 1 ≤ 2 + (dd + 1)), by rw [hR]; exact (by omega : 8 + (2 + 11) + 0 ≤ 60 + (dd + 1) * 35)⟩ rfl rfl hX hw hA rfl rfl rfl hl.1 rfl rfl (Nat.le_of_ble_eq_true rfl) d_RE_search_109 ⟨Nat.zero_le _, Nat.zero_le _⟩ rfl (fun H locs hw => ?_)
                refine lv_land hx hb d_RE_search_112 ?_
                refine lv_lload hx hb d_RE_search_113 (lv_at hl 0 rfl) ?_
                refine lv_ldc2 (v := (-1)) hx hb hown (hg _ q_388) d_RE_search_115 ?_
                refine lv_lxor hx hb d_RE_search_118 ?_
                refine lv_land hx hb d_RE_search_119 ?_
                refine lv_lstore (lv' := [(14, .long ((r7 &&& r109) &&& (r99 ^^^ (-1 : Int64)))), (12, .long r99), (0, .ref (ad 4)), (1, .ref (ad kr)), (6, .int u6), (7, .int u7), (8, .long r7), (10, .int r23), (11, .int x71.1)]) hx hb d_RE_search_120 hl (by decide) rfl (fun ls hl => ?_)
                refine lv_lload hx hb d_RE_search_122 (lv_at hl 6 rfl) ?_
                refine lv_lload hx hb d_RE_search_124 (lv_at hl 1 rfl) ?_
                refine lv_land hx hb d_RE_search_126 ?_
                refine lv_lconst (v := 0) hx hb d_RE_search_127 (by decide) ?_
                refine fw_lcmpE (tgt := 163) hx hb d_RE_search_128 d_RE_search_129 (by decide) (fun hc => ?_) (fun hc => ?_)
                · have h := oi h hc
                  refine lv_iinc (k := 8) (v := x71.1 + 1) (lv' := [(11, .int (x71.1 + 1)), (14, .long ((r7 &&& r109) &&& (r99 ^^^ (-1 : Int64)))), (12, .long r99), (0, .ref (ad 4)), (1, .ref (ad kr)), (6, .int u6), (7, .int u7), (8, .long r7), (10, .int r23)]) hx hb d_RE_search_163 hl rfl (by rw [lit1]) (by decide) rfl (fun ls hl => ?_)
                  refine lv_goto (tgt := 71) hx hb d_RE_search_166 (by decide) ?_
                  have q := Option.some.inj h
                  subst q
                  exact ih71 (x71.1 + 1, x71.2.1, x71.2.2) e71 hk71 hr71 _ _ _ (lv_sub hl [3, 4, 5, 6, 7, 8, 0] rfl) hw
                · have h := oe h hc
                  refine lv_aload_n hx hb d_RE_search_132 rfl (lv_at hl 2 rfl) ?_
                  refine va_get (ci := 4) (v := .int x71.2.2) (C := R_RE) (T := F_RE) (N := 3) hx hb hg in_RE hown hK hw.1 4 rfl rfl 2 (by decide) (hg _ q_152) (fun _ h9 => h9) rfl d_RE_search_133 ?_
                  refine lv_iload hx hb d_RE_search_136 (lv_at hl 4 rfl) ?_
                  refine lv_icmp_ge (tgt := 163) hx hb d_RE_search_138 (by decide) (fun hc => ?_) (fun hc => ?_)
                  · have h := oi h hc
                    refine lv_iinc (k := 8) (v := x71.1 + 1) (lv' := [(11, .int (x71.1 + 1)), (14, .long ((r7 &&& r109) &&& (r99 ^^^ (-1 : Int64)))), (12, .long r99), (0, .ref (ad 4)), (1, .ref (ad kr)), (6, .int u6), (7, .int u7), (8, .long r7), (10, .int r23)]) hx hb d_RE_search_163 hl rfl (by rw [lit1]) (by decide) rfl (fun ls hl => ?_)
                    refine lv_goto (tgt := 71) hx hb d_RE_search_166 (by decide) ?_
                    have q := Option.some.inj h
                    subst q
                    exact ih71 (x71.1 + 1, x71.2.1, x71.2.2) e71 hk71 hr71 _ _ _ (lv_sub hl [3, 4, 5, 6, 7, 8, 0] rfl) hw
                  · have h := oe h hc
                    refine lv_aload_n hx hb d_RE_search_141 rfl (lv_at hl 2 rfl) ?_
                    refine lv_aload_n hx hb d_RE_search_142 rfl (lv_at hl 3 rfl) ?_
                    refine lv_lload hx hb d_RE_search_143 (lv_at hl 6 rfl) ?_
                    refine lv_lload hx hb d_RE_search_145 (lv_at hl 0 rfl) ?_
                    refine lv_ldc2 (v := (-1)) hx hb hown (hg _ q_388) d_RE_search_147 ?_
                    refine lv_lxor hx hb d_RE_search_150 ?_
                    refine lv_land hx hb d_RE_search_151 ?_
                    refine lv_lload hx hb d_RE_search_152 (lv_at hl 0 rfl) ?_
                    refine lv_iload hx hb d_RE_search_154 (lv_at hl 4 rfl) ?_
                    refine lv_iload hx hb d_RE_search_156 (lv_at hl 5 rfl) ?_
                    refine lv_iconst (v := 1) hx hb d_RE_search_158 (by decide) ?_
                    refine lv_iadd hx hb d_RE_search_159 ?_
                    refine ob h (fun r160 h160 h => ?_)
                    refine fw_callV (As := [.ref (ad kr), .long (r7 &&& (((r7 &&& r109) &&& (r99 ^^^ (-1 : Int64))) ^^^ (-1 : Int64))), .long ((r7 &&& r109) &&& (r99 ^^^ (-1 : Int64))), .int u6, .int (u7 + (1 : Int32))]) (rest := []) (st1 := []) S (ih kr hkr kk kn le x71.2.1 x71.2.2 ct fx gv pg cu co sg ru nu tg sc sr wy (r7 &&& (((r7 &&& r109) &&& (r99 ^^^ (-1 : Int64))) ^^^ (-1 : Int64))) ((r7 &&& r109) &&& (r99 ^^^ (-1 : Int64))) u6 (u7 + (1 : Int32)) r160 h160) q_389 q_391 s_10 q_6 k_RE_search hd_RE_search ⟨by rw [hR]; exact (by omega : 2 + dd + 1 ≤ 2 + (dd + 1)), by rw [hR]; exact (by omega : 8 + (16 + 11) + (60 + dd * 35) ≤ 60 + (dd + 1) * 35)⟩ rfl rfl hX hw hA 4 (ci := 4) rfl rfl hl.1 rfl rfl (Nat.le_of_ble_eq_true rfl) d_RE_search_160 ⟨Nat.zero_le _, Nat.zero_le _⟩ rfl (fun H locs hw => ?_)
                    refine lv_iinc (k := 8) (v := x71.1 + 1) (lv' := [(11, .int (x71.1 + 1)), (14, .long ((r7 &&& r109) &&& (r99 ^^^ (-1 : Int64)))), (12, .long r99), (0, .ref (ad 4)), (1, .ref (ad kr)), (6, .int u6), (7, .int u7), (8, .long r7), (10, .int r23)]) hx hb d_RE_search_163 hl rfl (by rw [lit1]) (by decide) rfl (fun ls hl => ?_)
                    refine lv_goto (tgt := 71) hx hb d_RE_search_166 (by decide) ?_
                    have q := Option.some.inj h
                    subst q
                    exact ih71 (x71.1 + 1, r160.1, r160.2) e71 hk71 hr71 _ _ _ (lv_sub hl [3, 4, 5, 6, 7, 8, 0] rfl) hw
        refine ob h (fun e71 h1 h2 => ?_)
        exact L71 N (k_least kr, ff, fo) e71 h1 h2 _ _ _ (lv_sub hl [3, 4, 7, 8, 2, 1, 0] rfl) hw
      · have h := oi h hc
        refine lv_aload_n hx hb d_RE_search_34 rfl (lv_at hl 2 rfl) ?_
        refine lv_aload_n hx hb d_RE_search_35 rfl (lv_at hl 2 rfl) ?_
        refine va_get (ci := 4) (v := .int fo) (C := R_RE) (T := F_RE) (N := 3) hx hb hg in_RE hown hK hw.1 4 rfl rfl 2 (by decide) (hg _ q_152) (fun _ h9 => h9) rfl d_RE_search_36 ?_
        have J51 : ∀ (j51s1 : Int64), mj_RE_search_51 fo j51s1 = some out → ∀ (ls : Array Slot) (H : Heap) (locs : List Loc), lv_has ls 16 [(0, .ref (ad 4))] → fw_H D vwCl A s.heap (wC ad cI cL kk kn le ff fo ct fx gv pg cu co sg ru nu tg sc sr wy) H locs → W p l e R s m args below meth c H locs 0 0 Q (F0 m 51 ls [.long j51s1, .ref (ad 4)]) := by
          intro j51s1 h ls H locs hl hw
          unfold mj_RE_search_51 at h
          refine va_put (ci := 4) (v := .long j51s1) (ty := .long) (C := R_RE) (T := F_RE) (N := 3) hx hb hg in_RE t_RE t_RE_ok n_RE hown hK hw.1 hw.2.1 hw.2.2 4 rfl rfl 1 (by decide) (hg _ q_150) (fun _ h9 => h9) rfl (by decide +kernel) rfl rfl (Nat.le_of_ble_eq_true rfl) d_RE_search_51 (fun H locs hP hD hS => ?_)
          have hw : fw_H D vwCl A s.heap (wC ad cI cL kk kn le j51s1 fo ct fx gv pg cu co sg ru nu tg sc sr wy) H locs := ⟨hP, hD, hS⟩
          refine lv_aload_n hx hb d_RE_search_54 rfl (lv_at hl 0 rfl) ?_
          refine lv_dup hx hb d_RE_search_55 rfl ?_
          refine va_get (ci := 4) (v := .int fo) (C := R_RE) (T := F_RE) (N := 3) hx hb hg in_RE hown hK hw.1 4 rfl rfl 2 (by decide) (hg _ q_152) (fun _ h9 => h9) rfl d_RE_search_56 ?_
          refine lv_iconst (v := 1) hx hb d_RE_search_59 (by decide) ?_
          refine lv_iadd hx hb d_RE_search_60 ?_
          refine va_put (ci := 4) (v := .int (fo + (1 : Int32))) (ty := .int) (C := R_RE) (T := F_RE) (N := 3) hx hb hg in_RE t_RE t_RE_ok n_RE hown hK hw.1 hw.2.1 hw.2.2 4 rfl rfl 2 (by decide) (hg _ q_152) (fun _ h9 => h9) rfl (by decide +kernel) rfl rfl (Nat.le_of_ble_eq_true rfl) d_RE_search_61 (fun H locs hP hD hS => ?_)
          have hw : fw_H D vwCl A s.heap (wC ad cI cL kk kn le j51s1 (fo + (1 : Int32)) ct fx gv pg cu co sg ru nu tg sc sr wy) H locs := ⟨hP, hD, hS⟩
          have q := Option.some.inj h
          subst q
          exact fw_vret hQ S hr hlk hX hw d_RE_search_64
        refine lv_if_ne (tgt := 47) hx hb d_RE_search_39 (by decide) (fun hc => ?_) (fun hc => ?_)
        · have h := oe h hc
          refine lv_aload_n hx hb d_RE_search_47 rfl (lv_at hl 2 rfl) ?_
          refine va_get (ci := 4) (v := .long ff) (C := R_RE) (T := F_RE) (N := 3) hx hb hg in_RE hown hK hw.1 4 rfl rfl 1 (by decide) (hg _ q_150) (fun _ h9 => h9) rfl d_RE_search_48 ?_
          exact J51 ff h _ _ _ (lv_sub hl [2] rfl) hw
        · have h := oi h hc
          refine lv_lload hx hb d_RE_search_42 (lv_at hl 1 rfl) ?_
          refine lv_goto (tgt := 51) hx hb d_RE_search_44 (by decide) ?_
          exact J51 r7 h _ _ _ (lv_sub hl [2] rfl) hw
    · have h := oi h hc
      have q := Option.some.inj h
      subst q
      exact fw_vret hQ S hr hlk hX hw d_RE_search_19
set_option maxHeartbeats 4000000 in
set_option maxRecDepth 100000 in
theorem ct_RE_countFillings (l : Launch) (D : va_G) (ad : Nat → Nat) (cI cL : ClassId) (N : Nat) (kr : Nat) (hkr : K3 kr) (kk : Nat) (kn : Int32) (le : Int64) (ff : Int64) (fo : Int32) (ct : Int32) (fx : Int32) (gv : Nat → Int32) (pg : Nat → Int32) (cu : Nat → Int32) (co : Nat → Int32) (sg : Nat → Int32) (ru : Nat → Int32) (nu : Nat → Int32) (tg : Nat → Int32) (sc : Nat → Int64) (sr : Nat → Int32) (wy : Nat → Int64) (u2 : Int64) (u4 : Int32) (out : Int32 × Int64 × Int32) (h : mi_RE_countFillings N kr ff fo ct sc sr wy u2 u4 = some out) : fw_C l y_RE_countFillings (.code y_RE_countFillings b_RE_countFillings 5 (some .int) :: Gw) (fr 30 1040) D vwCl (tyA cI cL) [.ref (ad 4), .ref (ad kr), .long u2, .int u4] (wC ad cI cL kk kn le ff fo ct fx gv pg cu co sg ru nu tg sc sr wy) (some (.int out.1)) (wC ad cI cL kk kn le out.2.1 out.2.2 ct fx gv pg cu co sg ru nu tg sc sr wy) := by
  refine fw_of (by decide) (Nat.le_of_ble_eq_true rfl) ?_
  intro p e s m args below meth c ls A R Q hR hQ S hr hlk hX hA hl hw
  have hK := hX.1
  have hx := S.1
  have hb := S.2.1
  have hown := S.2.2.2.1
  have hg := S.2.2.2.2
  have hl : lv_has ls 5 [(0, .ref (ad 4)), (1, .ref (ad kr)), (2, .long u2), (4, .int u4)] := hl
  unfold mi_RE_countFillings at h
  refine lv_aload_n hx hb d_RE_countFillings_0 rfl (lv_at hl 0 rfl) ?_
  refine lv_iconst (v := 0) hx hb d_RE_countFillings_1 (by decide) ?_
  refine va_put (ci := 4) (v := .int (0 : Int32)) (ty := .int) (C := R_RE) (T := F_RE) (N := 3) hx hb hg in_RE t_RE t_RE_ok n_RE hown hK hw.1 hw.2.1 hw.2.2 4 rfl rfl 2 (by decide) (hg _ q_152) (fun _ h9 => h9) rfl (by decide +kernel) rfl rfl (Nat.le_of_ble_eq_true rfl) d_RE_countFillings_2 (fun H locs hP hD hS => ?_)
  have hw : fw_H D vwCl A s.heap (wC ad cI cL kk kn le ff (0 : Int32) ct fx gv pg cu co sg ru nu tg sc sr wy) H locs := ⟨hP, hD, hS⟩
  refine lv_aload_n hx hb d_RE_countFillings_5 rfl (lv_at hl 0 rfl) ?_
  refine lv_lconst (v := 0) hx hb d_RE_countFillings_6 (by decide) ?_
  refine va_put (ci := 4) (v := .long (0 : Int64)) (ty := .long) (C := R_RE) (T := F_RE) (N := 3) hx hb hg in_RE t_RE t_RE_ok n_RE hown hK hw.1 hw.2.1 hw.2.2 4 rfl rfl 1 (by decide) (hg _ q_150) (fun _ h9 => h9) rfl (by decide +kernel) rfl rfl (Nat.le_of_ble_eq_true rfl) d_RE_countFillings_7 (fun H locs hP hD hS => ?_)
  have hw : fw_H D vwCl A s.heap (wC ad cI cL kk kn le (0 : Int64) (0 : Int32) ct fx gv pg cu co sg ru nu tg sc sr wy) H locs := ⟨hP, hD, hS⟩
  refine lv_aload_n hx hb d_RE_countFillings_10 rfl (lv_at hl 0 rfl) ?_
  refine va_get (ci := 4) (v := .ref (ad 5)) (C := R_RE) (T := F_RE) (N := 3) hx hb hg in_RE hown hK hw.1 4 rfl rfl 0 (by decide) (hg _ q_148) (fun _ h9 => h9) rfl d_RE_countFillings_11 ?_
  refine ob h (fun r14 h14 h => ?_)
  refine fw_callV (As := []) (rest := []) (st1 := [.int r14]) S (ct_UN_haveWays l D ad cI cL N kk kn le (0 : Int64) (0 : Int32) ct fx gv pg cu co sg ru nu tg sc sr wy r14 h14) q_384 q_385 q_386 q_7 k_UN_haveWays hd_UN_haveWays ⟨by rw [hR]; decide, by rw [hR]; decide⟩ rfl rfl hX hw hA 5 (ci := 5) rfl rfl hl.1 rfl rfl (Nat.le_of_ble_eq_true rfl) d_RE_countFillings_14 ⟨Nat.zero_le _, Nat.zero_le _⟩ rfl (fun H locs hw => ?_)
  refine lv_if_eq (tgt := 32) hx hb d_RE_countFillings_17 (by decide) (fun hc => ?_) (fun hc => ?_)
  · have h := oi h hc
    refine lv_aload_n hx hb d_RE_countFillings_32 rfl (lv_at hl 0 rfl) ?_
    refine va_get (ci := 4) (v := .int (0 : Int32)) (C := R_RE) (T := F_RE) (N := 3) hx hb hg in_RE hown hK hw.1 4 rfl rfl 2 (by decide) (hg _ q_152) (fun _ h9 => h9) rfl d_RE_countFillings_33 ?_
    have q := Option.some.inj h
    subst q
    exact fw_iret hQ S hr hlk hX hw d_RE_countFillings_36
  · have h := oe h hc
    refine lv_aload_n hx hb d_RE_countFillings_20 rfl (lv_at hl 0 rfl) ?_
    refine lv_aload_n hx hb d_RE_countFillings_21 rfl (lv_at hl 1 rfl) ?_
    refine lv_lload_n hx hb d_RE_countFillings_22 rfl (lv_at hl 2 rfl) ?_
    refine lv_ldc2 (v := (-1)) hx hb hown (hg _ q_388) d_RE_countFillings_23 ?_
    refine lv_iload hx hb d_RE_countFillings_26 (lv_at hl 3 rfl) ?_
    refine lv_iconst (v := 0) hx hb d_RE_countFillings_28 (by decide) ?_
    refine ob h (fun r29 h29 h => ?_)
    refine fw_callV (As := [.ref (ad kr), .long u2, .long (-1 : Int64), .int u4, .int (0 : Int32)]) (rest := []) (st1 := []) S (ct_RE_search l D ad cI cL N 27 kr hkr kk kn le (0 : Int64) (0 : Int32) ct fx gv pg cu co sg ru nu tg sc sr wy u2 (-1 : Int64) u4 (0 : Int32) r29 h29) q_389 q_391 s_10 q_6 k_RE_search hd_RE_search ⟨by rw [hR]; decide, by rw [hR]; decide⟩ rfl rfl hX hw hA 4 (ci := 4) rfl rfl hl.1 rfl rfl (Nat.le_of_ble_eq_true rfl) d_RE_countFillings_29 ⟨Nat.zero_le _, Nat.zero_le _⟩ rfl (fun H locs hw => ?_)
    refine lv_aload_n hx hb d_RE_countFillings_32 rfl (lv_at hl 0 rfl) ?_
    refine va_get (ci := 4) (v := .int r29.2) (C := R_RE) (T := F_RE) (N := 3) hx hb hg in_RE hown hK hw.1 4 rfl rfl 2 (by decide) (hg _ q_152) (fun _ h9 => h9) rfl d_RE_countFillings_33 ?_
    have q := Option.some.inj h
    subst q
    exact fw_iret hQ S hr hlk hX hw d_RE_countFillings_36
