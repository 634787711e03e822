theorem d_MO_isClue_0 : decode b_MO_isClue 0 = .ok (.iload_n 0, 1) := by decide +kernel
theorem d_MO_isClue_1 : decode b_MO_isClue 1 = .ok (.istore_n 1, 1) := by decide +kernel
theorem d_MO_isClue_2 : decode b_MO_isClue 2 = .ok (.iconst (-1), 1) := by decide +kernel
theorem d_MO_isClue_3 : decode b_MO_isClue 3 = .ok (.istore_n 2, 1) := by decide +kernel
theorem d_MO_isClue_4 : decode b_MO_isClue 4 = .ok (.iload_n 0, 1) := by decide +kernel
theorem d_MO_isClue_5 : decode b_MO_isClue 5 = .ok (.ifCond .lt 14, 3) := by decide +kernel
theorem d_MO_isClue_8 : decode b_MO_isClue 8 = .ok (.iload_n 0, 1) := by decide +kernel
theorem d_MO_isClue_9 : decode b_MO_isClue 9 = .ok (.sipush 1000, 3) := by decide +kernel
theorem d_MO_isClue_12 : decode b_MO_isClue 12 = .ok (.if_icmp .ge 7, 3) := by decide +kernel
theorem d_MO_isClue_15 : decode b_MO_isClue 15 = .ok (.iconst 1, 1) := by decide +kernel
theorem d_MO_isClue_16 : decode b_MO_isClue 16 = .ok (.goto 4, 3) := by decide +kernel
theorem d_MO_isClue_19 : decode b_MO_isClue 19 = .ok (.iconst 0, 1) := by decide +kernel
theorem d_MO_isClue_20 : decode b_MO_isClue 20 = .ok (.istore_n 3, 1) := by decide +kernel
theorem d_MO_isClue_21 : decode b_MO_isClue 21 = .ok (.iload_n 3, 1) := by decide +kernel
theorem d_MO_isClue_22 : decode b_MO_isClue 22 = .ok (.ifCond .eq 46, 3) := by decide +kernel
theorem d_MO_isClue_25 : decode b_MO_isClue 25 = .ok (.iload_n 1, 1) := by decide +kernel
theorem d_MO_isClue_26 : decode b_MO_isClue 26 = .ok (.ifCond .le 42, 3) := by decide +kernel
theorem d_MO_isClue_29 : decode b_MO_isClue 29 = .ok (.iload_n 1, 1) := by decide +kernel
theorem d_MO_isClue_30 : decode b_MO_isClue 30 = .ok (.bipush 10, 2) := by decide +kernel
theorem d_MO_isClue_32 : decode b_MO_isClue 32 = .ok (.irem, 1) := by decide +kernel
theorem d_MO_isClue_33 : decode b_MO_isClue 33 = .ok (.istore 4, 2) := by decide +kernel
theorem d_MO_isClue_35 : decode b_MO_isClue 35 = .ok (.iload 4, 2) := by decide +kernel
theorem d_MO_isClue_37 : decode b_MO_isClue 37 = .ok (.iconst 1, 1) := by decide +kernel
theorem d_MO_isClue_38 : decode b_MO_isClue 38 = .ok (.if_icmp .lt 13, 3) := by decide +kernel
theorem d_MO_isClue_41 : decode b_MO_isClue 41 = .ok (.iload 4, 2) := by decide +kernel
theorem d_MO_isClue_43 : decode b_MO_isClue 43 = .ok (.iconst 5, 1) := by decide +kernel
theorem d_MO_isClue_44 : decode b_MO_isClue 44 = .ok (.if_icmp .gt 7, 3) := by decide +kernel
theorem d_MO_isClue_47 : decode b_MO_isClue 47 = .ok (.iconst 1, 1) := by decide +kernel
theorem d_MO_isClue_48 : decode b_MO_isClue 48 = .ok (.goto 4, 3) := by decide +kernel
theorem d_MO_isClue_51 : decode b_MO_isClue 51 = .ok (.iconst 0, 1) := by decide +kernel
theorem d_MO_isClue_52 : decode b_MO_isClue 52 = .ok (.istore_n 3, 1) := by decide +kernel
theorem d_MO_isClue_53 : decode b_MO_isClue 53 = .ok (.iload_n 2, 1) := by decide +kernel
theorem d_MO_isClue_54 : decode b_MO_isClue 54 = .ok (.iload 4, 2) := by decide +kernel
theorem d_MO_isClue_56 : decode b_MO_isClue 56 = .ok (.iconst 1, 1) := by decide +kernel
theorem d_MO_isClue_57 : decode b_MO_isClue 57 = .ok (.iadd, 1) := by decide +kernel
theorem d_MO_isClue_58 : decode b_MO_isClue 58 = .ok (.iadd, 1) := by decide +kernel
theorem d_MO_isClue_59 : decode b_MO_isClue 59 = .ok (.istore_n 2, 1) := by decide +kernel
theorem d_MO_isClue_60 : decode b_MO_isClue 60 = .ok (.iload_n 1, 1) := by decide +kernel
theorem d_MO_isClue_61 : decode b_MO_isClue 61 = .ok (.bipush 10, 2) := by decide +kernel
theorem d_MO_isClue_63 : decode b_MO_isClue 63 = .ok (.idiv, 1) := by decide +kernel
theorem d_MO_isClue_64 : decode b_MO_isClue 64 = .ok (.istore_n 1, 1) := by decide +kernel
theorem d_MO_isClue_65 : decode b_MO_isClue 65 = .ok (.goto (-44), 3) := by decide +kernel
theorem d_MO_isClue_68 : decode b_MO_isClue 68 = .ok (.iload_n 3, 1) := by decide +kernel
theorem d_MO_isClue_69 : decode b_MO_isClue 69 = .ok (.ifCond .eq 12, 3) := by decide +kernel
theorem d_MO_isClue_72 : decode b_MO_isClue 72 = .ok (.iload_n 2, 1) := by decide +kernel
theorem d_MO_isClue_73 : decode b_MO_isClue 73 = .ok (.iconst 5, 1) := by decide +kernel
theorem d_MO_isClue_74 : decode b_MO_isClue 74 = .ok (.if_icmp .gt 7, 3) := by decide +kernel
theorem d_MO_isClue_77 : decode b_MO_isClue 77 = .ok (.iconst 1, 1) := by decide +kernel
theorem d_MO_isClue_78 : decode b_MO_isClue 78 = .ok (.goto 4, 3) := by decide +kernel
theorem d_MO_isClue_81 : decode b_MO_isClue 81 = .ok (.iconst 0, 1) := by decide +kernel
theorem d_MO_isClue_82 : decode b_MO_isClue 82 = .ok (.ireturn, 1) := by decide +kernel
theorem d_MO_stretchesOf_0 : decode b_MO_stretchesOf 0 = .ok (.iconst 0, 1) := by decide +kernel
theorem d_MO_stretchesOf_1 : decode b_MO_stretchesOf 1 = .ok (.istore_n 1, 1) := by decide +kernel
theorem d_MO_stretchesOf_2 : decode b_MO_stretchesOf 2 = .ok (.iconst 0, 1) := by decide +kernel
theorem d_MO_stretchesOf_3 : decode b_MO_stretchesOf 3 = .ok (.istore_n 2, 1) := by decide +kernel
theorem d_MO_stretchesOf_4 : decode b_MO_stretchesOf 4 = .ok (.iconst 4, 1) := by decide +kernel
theorem d_MO_stretchesOf_5 : decode b_MO_stretchesOf 5 = .ok (.istore_n 3, 1) := by decide +kernel
theorem d_MO_stretchesOf_6 : decode b_MO_stretchesOf 6 = .ok (.iload_n 3, 1) := by decide +kernel
theorem d_MO_stretchesOf_7 : decode b_MO_stretchesOf 7 = .ok (.iconst (-1), 1) := by decide +kernel
theorem d_MO_stretchesOf_8 : decode b_MO_stretchesOf 8 = .ok (.if_icmp .lt 62, 3) := by decide +kernel
theorem d_MO_stretchesOf_11 : decode b_MO_stretchesOf 11 = .ok (.iload_n 3, 1) := by decide +kernel
theorem d_MO_stretchesOf_12 : decode b_MO_stretchesOf 12 = .ok (.ifCond .lt 16, 3) := by decide +kernel
theorem d_MO_stretchesOf_15 : decode b_MO_stretchesOf 15 = .ok (.iload_n 0, 1) := by decide +kernel
theorem d_MO_stretchesOf_16 : decode b_MO_stretchesOf 16 = .ok (.iload_n 3, 1) := by decide +kernel
theorem d_MO_stretchesOf_17 : decode b_MO_stretchesOf 17 = .ok (.ishr, 1) := by decide +kernel
theorem d_MO_stretchesOf_18 : decode b_MO_stretchesOf 18 = .ok (.iconst 1, 1) := by decide +kernel
theorem d_MO_stretchesOf_19 : decode b_MO_stretchesOf 19 = .ok (.iand, 1) := by decide +kernel
theorem d_MO_stretchesOf_20 : decode b_MO_stretchesOf 20 = .ok (.iconst 1, 1) := by decide +kernel
theorem d_MO_stretchesOf_21 : decode b_MO_stretchesOf 21 = .ok (.if_icmp .ne 7, 3) := by decide +kernel
theorem d_MO_stretchesOf_24 : decode b_MO_stretchesOf 24 = .ok (.iconst 1, 1) := by decide +kernel
theorem d_MO_stretchesOf_25 : decode b_MO_stretchesOf 25 = .ok (.goto 4, 3) := by decide +kernel
theorem d_MO_stretchesOf_28 : decode b_MO_stretchesOf 28 = .ok (.iconst 0, 1) := by decide +kernel
theorem d_MO_stretchesOf_29 : decode b_MO_stretchesOf 29 = .ok (.istore 4, 2) := by decide +kernel
theorem d_MO_stretchesOf_31 : decode b_MO_stretchesOf 31 = .ok (.iload 4, 2) := by decide +kernel
theorem d_MO_stretchesOf_33 : decode b_MO_stretchesOf 33 = .ok (.ifCond .ne 16, 3) := by decide +kernel
theorem d_MO_stretchesOf_36 : decode b_MO_stretchesOf 36 = .ok (.iload_n 2, 1) := by decide +kernel
theorem d_MO_stretchesOf_37 : decode b_MO_stretchesOf 37 = .ok (.ifCond .le 12, 3) := by decide +kernel
theorem d_MO_stretchesOf_40 : decode b_MO_stretchesOf 40 = .ok (.bipush 10, 2) := by decide +kernel
theorem d_MO_stretchesOf_42 : decode b_MO_stretchesOf 42 = .ok (.iload_n 1, 1) := by decide +kernel
theorem d_MO_stretchesOf_43 : decode b_MO_stretchesOf 43 = .ok (.imul, 1) := by decide +kernel
theorem d_MO_stretchesOf_44 : decode b_MO_stretchesOf 44 = .ok (.iload_n 2, 1) := by decide +kernel
theorem d_MO_stretchesOf_45 : decode b_MO_stretchesOf 45 = .ok (.iadd, 1) := by decide +kernel
theorem d_MO_stretchesOf_46 : decode b_MO_stretchesOf 46 = .ok (.goto 4, 3) := by decide +kernel
theorem d_MO_stretchesOf_49 : decode b_MO_stretchesOf 49 = .ok (.iload_n 1, 1) := by decide +kernel
theorem d_MO_stretchesOf_50 : decode b_MO_stretchesOf 50 = .ok (.istore_n 1, 1) := by decide +kernel
theorem d_MO_stretchesOf_51 : decode b_MO_stretchesOf 51 = .ok (.iload 4, 2) := by decide +kernel
theorem d_MO_stretchesOf_53 : decode b_MO_stretchesOf 53 = .ok (.ifCond .eq 9, 3) := by decide +kernel
theorem d_MO_stretchesOf_56 : decode b_MO_stretchesOf 56 = .ok (.iload_n 2, 1) := by decide +kernel
theorem d_MO_stretchesOf_57 : decode b_MO_stretchesOf 57 = .ok (.iconst 1, 1) := by decide +kernel
theorem d_MO_stretchesOf_58 : decode b_MO_stretchesOf 58 = .ok (.iadd, 1) := by decide +kernel
theorem d_MO_stretchesOf_59 : decode b_MO_stretchesOf 59 = .ok (.goto 4, 3) := by decide +kernel
theorem d_MO_stretchesOf_62 : decode b_MO_stretchesOf 62 = .ok (.iconst 0, 1) := by decide +kernel
theorem d_MO_stretchesOf_63 : decode b_MO_stretchesOf 63 = .ok (.istore_n 2, 1) := by decide +kernel
theorem d_MO_stretchesOf_64 : decode b_MO_stretchesOf 64 = .ok (.iinc 3 (-1), 3) := by decide +kernel
theorem d_MO_stretchesOf_67 : decode b_MO_stretchesOf 67 = .ok (.goto (-61), 3) := by decide +kernel
theorem d_MO_stretchesOf_70 : decode b_MO_stretchesOf 70 = .ok (.iload_n 1, 1) := by decide +kernel
theorem d_MO_stretchesOf_71 : decode b_MO_stretchesOf 71 = .ok (.ireturn, 1) := by decide +kernel
theorem d_MO_ones_0 : decode b_MO_ones 0 = .ok (.iconst 0, 1) := by decide +kernel
theorem d_MO_ones_1 : decode b_MO_ones 1 = .ok (.istore_n 1, 1) := by decide +kernel
theorem d_MO_ones_2 : decode b_MO_ones 2 = .ok (.iconst 0, 1) := by decide +kernel
theorem d_MO_ones_3 : decode b_MO_ones 3 = .ok (.istore_n 2, 1) := by decide +kernel
theorem d_MO_ones_4 : decode b_MO_ones 4 = .ok (.iload_n 2, 1) := by decide +kernel
theorem d_MO_ones_5 : decode b_MO_ones 5 = .ok (.iconst 5, 1) := by decide +kernel
theorem d_MO_ones_6 : decode b_MO_ones 6 = .ok (.if_icmp .ge 17, 3) := by decide +kernel
theorem d_MO_ones_9 : decode b_MO_ones 9 = .ok (.iload_n 1, 1) := by decide +kernel
theorem d_MO_ones_10 : decode b_MO_ones 10 = .ok (.iload_n 0, 1) := by decide +kernel
theorem d_MO_ones_11 : decode b_MO_ones 11 = .ok (.iload_n 2, 1) := by decide +kernel
theorem d_MO_ones_12 : decode b_MO_ones 12 = .ok (.ishr, 1) := by decide +kernel
theorem d_MO_ones_13 : decode b_MO_ones 13 = .ok (.iconst 1, 1) := by decide +kernel
theorem d_MO_ones_14 : decode b_MO_ones 14 = .ok (.iand, 1) := by decide +kernel
theorem d_MO_ones_15 : decode b_MO_ones 15 = .ok (.iadd, 1) := by decide +kernel
theorem d_MO_ones_16 : decode b_MO_ones 16 = .ok (.istore_n 1, 1) := by decide +kernel
theorem d_MO_ones_17 : decode b_MO_ones 17 = .ok (.iinc 2 1, 3) := by decide +kernel
theorem d_MO_ones_20 : decode b_MO_ones 20 = .ok (.goto (-16), 3) := by decide +kernel
theorem d_MO_ones_23 : decode b_MO_ones 23 = .ok (.iload_n 1, 1) := by decide +kernel
theorem d_MO_ones_24 : decode b_MO_ones 24 = .ok (.ireturn, 1) := by decide +kernel
theorem d_MO_apart_0 : decode b_MO_apart 0 = .ok (.iload_n 0, 1) := by decide +kernel
theorem d_MO_apart_1 : decode b_MO_apart 1 = .ok (.iload_n 1, 1) := by decide +kernel
theorem d_MO_apart_2 : decode b_MO_apart 2 = .ok (.if_icmp .ge 9, 3) := by decide +kernel
theorem d_MO_apart_5 : decode b_MO_apart 5 = .ok (.iload_n 1, 1) := by decide +kernel
theorem d_MO_apart_6 : decode b_MO_apart 6 = .ok (.iload_n 0, 1) := by decide +kernel
theorem d_MO_apart_7 : decode b_MO_apart 7 = .ok (.isub, 1) := by decide +kernel
theorem d_MO_apart_8 : decode b_MO_apart 8 = .ok (.goto 6, 3) := by decide +kernel
theorem d_MO_apart_11 : decode b_MO_apart 11 = .ok (.iload_n 0, 1) := by decide +kernel
theorem d_MO_apart_12 : decode b_MO_apart 12 = .ok (.iload_n 1, 1) := by decide +kernel
theorem d_MO_apart_13 : decode b_MO_apart 13 = .ok (.isub, 1) := by decide +kernel
theorem d_MO_apart_14 : decode b_MO_apart 14 = .ok (.ireturn, 1) := by decide +kernel
theorem d_MO_touch_0 : decode b_MO_touch 0 = .ok (.iload_n 0, 1) := by decide +kernel
theorem d_MO_touch_1 : decode b_MO_touch 1 = .ok (.iload_n 1, 1) := by decide +kernel
theorem d_MO_touch_2 : decode b_MO_touch 2 = .ok (.if_icmp .eq 33, 3) := by decide +kernel
theorem d_MO_touch_5 : decode b_MO_touch 5 = .ok (.iload_n 0, 1) := by decide +kernel
theorem d_MO_touch_6 : decode b_MO_touch 6 = .ok (.iconst 5, 1) := by decide +kernel
theorem d_MO_touch_7 : decode b_MO_touch 7 = .ok (.idiv, 1) := by decide +kernel
theorem d_MO_touch_8 : decode b_MO_touch 8 = .ok (.iload_n 1, 1) := by decide +kernel
theorem d_MO_touch_9 : decode b_MO_touch 9 = .ok (.iconst 5, 1) := by decide +kernel
theorem d_MO_touch_10 : decode b_MO_touch 10 = .ok (.idiv, 1) := by decide +kernel
theorem d_MO_touch_11 : decode b_MO_touch 11 = .ok (.invokestatic 116, 3) := by decide +kernel
theorem d_MO_touch_14 : decode b_MO_touch 14 = .ok (.iconst 2, 1) := by decide +kernel
theorem d_MO_touch_15 : decode b_MO_touch 15 = .ok (.if_icmp .ge 20, 3) := by decide +kernel
theorem d_MO_touch_18 : decode b_MO_touch 18 = .ok (.iload_n 0, 1) := by decide +kernel
theorem d_MO_touch_19 : decode b_MO_touch 19 = .ok (.iconst 5, 1) := by decide +kernel
theorem d_MO_touch_20 : decode b_MO_touch 20 = .ok (.irem, 1) := by decide +kernel
theorem d_MO_touch_21 : decode b_MO_touch 21 = .ok (.iload_n 1, 1) := by decide +kernel
theorem d_MO_touch_22 : decode b_MO_touch 22 = .ok (.iconst 5, 1) := by decide +kernel
theorem d_MO_touch_23 : decode b_MO_touch 23 = .ok (.irem, 1) := by decide +kernel
theorem d_MO_touch_24 : decode b_MO_touch 24 = .ok (.invokestatic 116, 3) := by decide +kernel
theorem d_MO_touch_27 : decode b_MO_touch 27 = .ok (.iconst 2, 1) := by decide +kernel
theorem d_MO_touch_28 : decode b_MO_touch 28 = .ok (.if_icmp .ge 7, 3) := by decide +kernel
theorem d_MO_touch_31 : decode b_MO_touch 31 = .ok (.iconst 1, 1) := by decide +kernel
theorem d_MO_touch_32 : decode b_MO_touch 32 = .ok (.goto 4, 3) := by decide +kernel
theorem d_MO_touch_35 : decode b_MO_touch 35 = .ok (.iconst 0, 1) := by decide +kernel
theorem d_MO_touch_36 : decode b_MO_touch 36 = .ok (.ireturn, 1) := by decide +kernel
theorem d_MO_thrown_0 : decode b_MO_thrown 0 = .ok (.aload_n 0, 1) := by decide +kernel
theorem d_MO_thrown_1 : decode b_MO_thrown 1 = .ok (.getfield 83, 3) := by decide +kernel
theorem d_MO_thrown_4 : decode b_MO_thrown 4 = .ok (.ireturn, 1) := by decide +kernel
theorem d_MO_allValues_0 : decode b_MO_allValues 0 = .ok (.aload_n 0, 1) := by decide +kernel
theorem d_MO_allValues_1 : decode b_MO_allValues 1 = .ok (.getfield 86, 3) := by decide +kernel
theorem d_MO_allValues_4 : decode b_MO_allValues 4 = .ok (.iconst 1, 1) := by decide +kernel
theorem d_MO_allValues_5 : decode b_MO_allValues 5 = .ok (.if_icmp .ne 8, 3) := by decide +kernel
theorem d_MO_allValues_8 : decode b_MO_allValues 8 = .ok (.bipush 30, 2) := by decide +kernel
theorem d_MO_allValues_10 : decode b_MO_allValues 10 = .ok (.goto 4, 3) := by decide +kernel
theorem d_MO_allValues_13 : decode b_MO_allValues 13 = .ok (.iconst 3, 1) := by decide +kernel
theorem d_MO_allValues_14 : decode b_MO_allValues 14 = .ok (.ireturn, 1) := by decide +kernel
theorem d_MO_refresh_0 : decode b_MO_refresh 0 = .ok (.iconst 0, 1) := by decide +kernel
theorem d_MO_refresh_1 : decode b_MO_refresh 1 = .ok (.istore_n 1, 1) := by decide +kernel
theorem d_MO_refresh_2 : decode b_MO_refresh 2 = .ok (.iload_n 1, 1) := by decide +kernel
theorem d_MO_refresh_3 : decode b_MO_refresh 3 = .ok (.aload_n 0, 1) := by decide +kernel
theorem d_MO_refresh_4 : decode b_MO_refresh 4 = .ok (.getfield 7, 3) := by decide +kernel
theorem d_MO_refresh_7 : decode b_MO_refresh 7 = .ok (.if_icmp .ge 40, 3) := by decide +kernel
theorem d_MO_refresh_10 : decode b_MO_refresh 10 = .ok (.aload_n 0, 1) := by decide +kernel
theorem d_MO_refresh_11 : decode b_MO_refresh 11 = .ok (.getfield 32, 3) := by decide +kernel
theorem d_MO_refresh_14 : decode b_MO_refresh 14 = .ok (.iload_n 1, 1) := by decide +kernel
theorem d_MO_refresh_15 : decode b_MO_refresh 15 = .ok (.aload_n 0, 1) := by decide +kernel
theorem d_MO_refresh_16 : decode b_MO_refresh 16 = .ok (.getfield 29, 3) := by decide +kernel
theorem d_MO_refresh_19 : decode b_MO_refresh 19 = .ok (.iload_n 1, 1) := by decide +kernel
theorem d_MO_refresh_20 : decode b_MO_refresh 20 = .ok (.iaload, 1) := by decide +kernel
theorem d_MO_refresh_21 : decode b_MO_refresh 21 = .ok (.iconst (-1), 1) := by decide +kernel
theorem d_MO_refresh_22 : decode b_MO_refresh 22 = .ok (.if_icmp .ne 10, 3) := by decide +kernel
theorem d_MO_refresh_25 : decode b_MO_refresh 25 = .ok (.aload_n 0, 1) := by decide +kernel
theorem d_MO_refresh_26 : decode b_MO_refresh 26 = .ok (.invokevirtual 92, 3) := by decide +kernel
theorem d_MO_refresh_29 : decode b_MO_refresh 29 = .ok (.goto 11, 3) := by decide +kernel
theorem d_MO_refresh_32 : decode b_MO_refresh 32 = .ok (.iconst 1, 1) := by decide +kernel
theorem d_MO_refresh_33 : decode b_MO_refresh 33 = .ok (.aload_n 0, 1) := by decide +kernel
theorem d_MO_refresh_34 : decode b_MO_refresh 34 = .ok (.getfield 29, 3) := by decide +kernel
theorem d_MO_refresh_37 : decode b_MO_refresh 37 = .ok (.iload_n 1, 1) := by decide +kernel
theorem d_MO_refresh_38 : decode b_MO_refresh 38 = .ok (.iaload, 1) := by decide +kernel
theorem d_MO_refresh_39 : decode b_MO_refresh 39 = .ok (.ishl, 1) := by decide +kernel
theorem d_MO_refresh_40 : decode b_MO_refresh 40 = .ok (.iastore, 1) := by decide +kernel
theorem d_MO_refresh_41 : decode b_MO_refresh 41 = .ok (.iinc 1 1, 3) := by decide +kernel
theorem d_MO_refresh_44 : decode b_MO_refresh 44 = .ok (.goto (-42), 3) := by decide +kernel
theorem d_MO_refresh_47 : decode b_MO_refresh 47 = .ok (.return_, 1) := by decide +kernel
theorem d_MO_begin_0 : decode b_MO_begin 0 = .ok (.aload_n 0, 1) := by decide +kernel
theorem d_MO_begin_1 : decode b_MO_begin 1 = .ok (.iload_n 1, 1) := by decide +kernel
theorem d_MO_begin_2 : decode b_MO_begin 2 = .ok (.putfield 86, 3) := by decide +kernel
theorem d_MO_begin_5 : decode b_MO_begin 5 = .ok (.aload_n 0, 1) := by decide +kernel
theorem d_MO_begin_6 : decode b_MO_begin 6 = .ok (.aload_n 0, 1) := by decide +kernel
theorem d_MO_begin_7 : decode b_MO_begin 7 = .ok (.getfield 86, 3) := by decide +kernel
theorem d_MO_begin_10 : decode b_MO_begin 10 = .ok (.iconst 1, 1) := by decide +kernel
theorem d_MO_begin_11 : decode b_MO_begin 11 = .ok (.if_icmp .ne 7, 3) := by decide +kernel
theorem d_MO_begin_14 : decode b_MO_begin 14 = .ok (.iconst 4, 1) := by decide +kernel
theorem d_MO_begin_15 : decode b_MO_begin 15 = .ok (.goto 4, 3) := by decide +kernel
theorem d_MO_begin_18 : decode b_MO_begin 18 = .ok (.iconst 5, 1) := by decide +kernel
theorem d_MO_begin_19 : decode b_MO_begin 19 = .ok (.putfield 13, 3) := by decide +kernel
theorem d_MO_begin_22 : decode b_MO_begin 22 = .ok (.aload_n 0, 1) := by decide +kernel
theorem d_MO_begin_23 : decode b_MO_begin 23 = .ok (.aload_n 0, 1) := by decide +kernel
theorem d_MO_begin_24 : decode b_MO_begin 24 = .ok (.getfield 13, 3) := by decide +kernel
theorem d_MO_begin_27 : decode b_MO_begin 27 = .ok (.aload_n 0, 1) := by decide +kernel
theorem d_MO_begin_28 : decode b_MO_begin 28 = .ok (.getfield 13, 3) := by decide +kernel
theorem d_MO_begin_31 : decode b_MO_begin 31 = .ok (.imul, 1) := by decide +kernel
theorem d_MO_begin_32 : decode b_MO_begin 32 = .ok (.putfield 7, 3) := by decide +kernel
theorem d_MO_begin_35 : decode b_MO_begin 35 = .ok (.iconst 0, 1) := by decide +kernel
theorem d_MO_begin_36 : decode b_MO_begin 36 = .ok (.istore_n 2, 1) := by decide +kernel
theorem d_MO_begin_37 : decode b_MO_begin 37 = .ok (.iload_n 2, 1) := by decide +kernel
theorem d_MO_begin_38 : decode b_MO_begin 38 = .ok (.bipush 10, 2) := by decide +kernel
theorem d_MO_begin_40 : decode b_MO_begin 40 = .ok (.if_icmp .ge 16, 3) := by decide +kernel
theorem d_MO_begin_43 : decode b_MO_begin 43 = .ok (.aload_n 0, 1) := by decide +kernel
theorem d_MO_begin_44 : decode b_MO_begin 44 = .ok (.getfield 16, 3) := by decide +kernel
theorem d_MO_begin_47 : decode b_MO_begin 47 = .ok (.iload_n 2, 1) := by decide +kernel
theorem d_MO_begin_48 : decode b_MO_begin 48 = .ok (.iconst 0, 1) := by decide +kernel
theorem d_MO_begin_49 : decode b_MO_begin 49 = .ok (.iastore, 1) := by decide +kernel
theorem d_MO_begin_50 : decode b_MO_begin 50 = .ok (.iinc 2 1, 3) := by decide +kernel
theorem d_MO_begin_53 : decode b_MO_begin 53 = .ok (.goto (-16), 3) := by decide +kernel
theorem d_MO_begin_56 : decode b_MO_begin 56 = .ok (.iconst 0, 1) := by decide +kernel
theorem d_MO_begin_57 : decode b_MO_begin 57 = .ok (.istore_n 2, 1) := by decide +kernel
theorem d_MO_begin_58 : decode b_MO_begin 58 = .ok (.iload_n 2, 1) := by decide +kernel
theorem d_MO_begin_59 : decode b_MO_begin 59 = .ok (.bipush 16, 2) := by decide +kernel
theorem d_MO_begin_61 : decode b_MO_begin 61 = .ok (.if_icmp .ge 23, 3) := by decide +kernel
theorem d_MO_begin_64 : decode b_MO_begin 64 = .ok (.aload_n 0, 1) := by decide +kernel
theorem d_MO_begin_65 : decode b_MO_begin 65 = .ok (.getfield 23, 3) := by decide +kernel
theorem d_MO_begin_68 : decode b_MO_begin 68 = .ok (.iload_n 2, 1) := by decide +kernel
theorem d_MO_begin_69 : decode b_MO_begin 69 = .ok (.iconst 0, 1) := by decide +kernel
theorem d_MO_begin_70 : decode b_MO_begin 70 = .ok (.iastore, 1) := by decide +kernel
theorem d_MO_begin_71 : decode b_MO_begin 71 = .ok (.aload_n 0, 1) := by decide +kernel
theorem d_MO_begin_72 : decode b_MO_begin 72 = .ok (.getfield 26, 3) := by decide +kernel
theorem d_MO_begin_75 : decode b_MO_begin 75 = .ok (.iload_n 2, 1) := by decide +kernel
theorem d_MO_begin_76 : decode b_MO_begin 76 = .ok (.iconst 0, 1) := by decide +kernel
theorem d_MO_begin_77 : decode b_MO_begin 77 = .ok (.iastore, 1) := by decide +kernel
theorem d_MO_begin_78 : decode b_MO_begin 78 = .ok (.iinc 2 1, 3) := by decide +kernel
theorem d_MO_begin_81 : decode b_MO_begin 81 = .ok (.goto (-23), 3) := by decide +kernel
theorem d_MO_begin_84 : decode b_MO_begin 84 = .ok (.iconst 0, 1) := by decide +kernel
theorem d_MO_begin_85 : decode b_MO_begin 85 = .ok (.istore_n 2, 1) := by decide +kernel
theorem d_MO_begin_86 : decode b_MO_begin 86 = .ok (.iload_n 2, 1) := by decide +kernel
theorem d_MO_begin_87 : decode b_MO_begin 87 = .ok (.bipush 25, 2) := by decide +kernel
theorem d_MO_begin_89 : decode b_MO_begin 89 = .ok (.if_icmp .ge 37, 3) := by decide +kernel
theorem d_MO_begin_92 : decode b_MO_begin 92 = .ok (.aload_n 0, 1) := by decide +kernel
theorem d_MO_begin_93 : decode b_MO_begin 93 = .ok (.getfield 20, 3) := by decide +kernel
theorem d_MO_begin_96 : decode b_MO_begin 96 = .ok (.iload_n 2, 1) := by decide +kernel
theorem d_MO_begin_97 : decode b_MO_begin 97 = .ok (.aload_n 0, 1) := by decide +kernel
theorem d_MO_begin_98 : decode b_MO_begin 98 = .ok (.getfield 86, 3) := by decide +kernel
theorem d_MO_begin_101 : decode b_MO_begin 101 = .ok (.iconst 1, 1) := by decide +kernel
theorem d_MO_begin_102 : decode b_MO_begin 102 = .ok (.if_icmp .ne 7, 3) := by decide +kernel
theorem d_MO_begin_105 : decode b_MO_begin 105 = .ok (.iload_n 2, 1) := by decide +kernel
theorem d_MO_begin_106 : decode b_MO_begin 106 = .ok (.goto 6, 3) := by decide +kernel
theorem d_MO_begin_109 : decode b_MO_begin 109 = .ok (.iload_n 2, 1) := by decide +kernel
theorem d_MO_begin_110 : decode b_MO_begin 110 = .ok (.iconst 5, 1) := by decide +kernel
theorem d_MO_begin_111 : decode b_MO_begin 111 = .ok (.idiv, 1) := by decide +kernel
theorem d_MO_begin_112 : decode b_MO_begin 112 = .ok (.iastore, 1) := by decide +kernel
theorem d_MO_begin_113 : decode b_MO_begin 113 = .ok (.aload_n 0, 1) := by decide +kernel
theorem d_MO_begin_114 : decode b_MO_begin 114 = .ok (.getfield 29, 3) := by decide +kernel
theorem d_MO_begin_117 : decode b_MO_begin 117 = .ok (.iload_n 2, 1) := by decide +kernel
theorem d_MO_begin_118 : decode b_MO_begin 118 = .ok (.iconst (-1), 1) := by decide +kernel
theorem d_MO_begin_119 : decode b_MO_begin 119 = .ok (.iastore, 1) := by decide +kernel
theorem d_MO_begin_120 : decode b_MO_begin 120 = .ok (.iinc 2 1, 3) := by decide +kernel
theorem d_MO_begin_123 : decode b_MO_begin 123 = .ok (.goto (-37), 3) := by decide +kernel
theorem d_MO_begin_126 : decode b_MO_begin 126 = .ok (.aload_n 0, 1) := by decide +kernel
theorem d_MO_begin_127 : decode b_MO_begin 127 = .ok (.invokevirtual 89, 3) := by decide +kernel
theorem d_MO_begin_130 : decode b_MO_begin 130 = .ok (.return_, 1) := by decide +kernel
theorem d_MO_open_0 : decode b_MO_open 0 = .ok (.aload_n 0, 1) := by decide +kernel
theorem d_MO_open_1 : decode b_MO_open 1 = .ok (.iload_n 1, 1) := by decide +kernel
theorem d_MO_open_2 : decode b_MO_open 2 = .ok (.ifCond .lt 8, 3) := by decide +kernel
theorem d_MO_open_5 : decode b_MO_open 5 = .ok (.iload_n 1, 1) := by decide +kernel
theorem d_MO_open_6 : decode b_MO_open 6 = .ok (.iconst 2, 1) := by decide +kernel
theorem d_MO_open_7 : decode b_MO_open 7 = .ok (.if_icmp .le 7, 3) := by decide +kernel
theorem d_MO_open_10 : decode b_MO_open 10 = .ok (.iconst 1, 1) := by decide +kernel
theorem d_MO_open_11 : decode b_MO_open 11 = .ok (.goto 4, 3) := by decide +kernel
theorem d_MO_open_14 : decode b_MO_open 14 = .ok (.iconst 0, 1) := by decide +kernel
theorem d_MO_open_15 : decode b_MO_open 15 = .ok (.putfield 83, 3) := by decide +kernel
theorem d_MO_open_18 : decode b_MO_open 18 = .ok (.aload_n 0, 1) := by decide +kernel
theorem d_MO_open_19 : decode b_MO_open 19 = .ok (.getfield 83, 3) := by decide +kernel
theorem d_MO_open_22 : decode b_MO_open 22 = .ok (.ifCond .eq 5, 3) := by decide +kernel
theorem d_MO_open_25 : decode b_MO_open 25 = .ok (.iconst 0, 1) := by decide +kernel
theorem d_MO_open_26 : decode b_MO_open 26 = .ok (.ireturn, 1) := by decide +kernel
theorem d_MO_open_27 : decode b_MO_open 27 = .ok (.aload_n 0, 1) := by decide +kernel
theorem d_MO_open_28 : decode b_MO_open 28 = .ok (.iload_n 1, 1) := by decide +kernel
theorem d_MO_open_29 : decode b_MO_open 29 = .ok (.invokevirtual 79, 3) := by decide +kernel
theorem d_MO_open_32 : decode b_MO_open 32 = .ok (.aload_n 0, 1) := by decide +kernel
theorem d_MO_open_33 : decode b_MO_open 33 = .ok (.getfield 7, 3) := by decide +kernel
theorem d_MO_open_36 : decode b_MO_open 36 = .ok (.ireturn, 1) := by decide +kernel
theorem d_MO_kind_0 : decode b_MO_kind 0 = .ok (.aload_n 0, 1) := by decide +kernel
theorem d_MO_kind_1 : decode b_MO_kind 1 = .ok (.iconst 0, 1) := by decide +kernel
theorem d_MO_kind_2 : decode b_MO_kind 2 = .ok (.putfield 83, 3) := by decide +kernel
theorem d_MO_kind_5 : decode b_MO_kind 5 = .ok (.aload_n 0, 1) := by decide +kernel
theorem d_MO_kind_6 : decode b_MO_kind 6 = .ok (.getfield 86, 3) := by decide +kernel
theorem d_MO_kind_9 : decode b_MO_kind 9 = .ok (.ireturn, 1) := by decide +kernel
theorem d_MO_clue_0 : decode b_MO_clue 0 = .ok (.aload_n 0, 1) := by decide +kernel
theorem d_MO_clue_1 : decode b_MO_clue 1 = .ok (.aload_n 0, 1) := by decide +kernel
theorem d_MO_clue_2 : decode b_MO_clue 2 = .ok (.getfield 86, 3) := by decide +kernel
theorem d_MO_clue_5 : decode b_MO_clue 5 = .ok (.ifCond .eq 7, 3) := by decide +kernel
theorem d_MO_clue_8 : decode b_MO_clue 8 = .ok (.iconst 1, 1) := by decide +kernel
theorem d_MO_clue_9 : decode b_MO_clue 9 = .ok (.goto 29, 3) := by decide +kernel
theorem d_MO_clue_12 : decode b_MO_clue 12 = .ok (.iload_n 1, 1) := by decide +kernel
theorem d_MO_clue_13 : decode b_MO_clue 13 = .ok (.ifCond .lt 9, 3) := by decide +kernel
theorem d_MO_clue_16 : decode b_MO_clue 16 = .ok (.iload_n 1, 1) := by decide +kernel
theorem d_MO_clue_17 : decode b_MO_clue 17 = .ok (.bipush 9, 2) := by decide +kernel
theorem d_MO_clue_19 : decode b_MO_clue 19 = .ok (.if_icmp .le 7, 3) := by decide +kernel
theorem d_MO_clue_22 : decode b_MO_clue 22 = .ok (.iconst 2, 1) := by decide +kernel
theorem d_MO_clue_23 : decode b_MO_clue 23 = .ok (.goto 15, 3) := by decide +kernel
theorem d_MO_clue_26 : decode b_MO_clue 26 = .ok (.iload_n 2, 1) := by decide +kernel
theorem d_MO_clue_27 : decode b_MO_clue 27 = .ok (.invokestatic 96, 3) := by decide +kernel
theorem d_MO_clue_30 : decode b_MO_clue 30 = .ok (.ifCond .ne 7, 3) := by decide +kernel
theorem d_MO_clue_33 : decode b_MO_clue 33 = .ok (.iconst 3, 1) := by decide +kernel
theorem d_MO_clue_34 : decode b_MO_clue 34 = .ok (.goto 4, 3) := by decide +kernel
theorem d_MO_clue_37 : decode b_MO_clue 37 = .ok (.iconst 0, 1) := by decide +kernel
theorem d_MO_clue_38 : decode b_MO_clue 38 = .ok (.putfield 83, 3) := by decide +kernel
theorem d_MO_clue_41 : decode b_MO_clue 41 = .ok (.aload_n 0, 1) := by decide +kernel
theorem d_MO_clue_42 : decode b_MO_clue 42 = .ok (.getfield 83, 3) := by decide +kernel
theorem d_MO_clue_45 : decode b_MO_clue 45 = .ok (.ifCond .eq 5, 3) := by decide +kernel
theorem d_MO_clue_48 : decode b_MO_clue 48 = .ok (.iconst 0, 1) := by decide +kernel
theorem d_MO_clue_49 : decode b_MO_clue 49 = .ok (.ireturn, 1) := by decide +kernel
theorem d_MO_clue_50 : decode b_MO_clue 50 = .ok (.aload_n 0, 1) := by decide +kernel
theorem d_MO_clue_51 : decode b_MO_clue 51 = .ok (.getfield 16, 3) := by decide +kernel
theorem d_MO_clue_54 : decode b_MO_clue 54 = .ok (.iload_n 1, 1) := by decide +kernel
theorem d_MO_clue_55 : decode b_MO_clue 55 = .ok (.iaload, 1) := by decide +kernel
theorem d_MO_clue_56 : decode b_MO_clue 56 = .ok (.istore_n 3, 1) := by decide +kernel
theorem d_MO_clue_57 : decode b_MO_clue 57 = .ok (.aload_n 0, 1) := by decide +kernel
theorem d_MO_clue_58 : decode b_MO_clue 58 = .ok (.getfield 16, 3) := by decide +kernel
theorem d_MO_clue_61 : decode b_MO_clue 61 = .ok (.iload_n 1, 1) := by decide +kernel
theorem d_MO_clue_62 : decode b_MO_clue 62 = .ok (.iload_n 2, 1) := by decide +kernel
theorem d_MO_clue_63 : decode b_MO_clue 63 = .ok (.iastore, 1) := by decide +kernel
theorem d_MO_clue_64 : decode b_MO_clue 64 = .ok (.aload_n 0, 1) := by decide +kernel
theorem d_MO_clue_65 : decode b_MO_clue 65 = .ok (.invokevirtual 89, 3) := by decide +kernel
theorem d_MO_clue_68 : decode b_MO_clue 68 = .ok (.iload_n 3, 1) := by decide +kernel
theorem d_MO_clue_69 : decode b_MO_clue 69 = .ok (.ireturn, 1) := by decide +kernel
theorem d_MO_noCell_0 : decode b_MO_noCell 0 = .ok (.iload_n 1, 1) := by decide +kernel
theorem d_MO_noCell_1 : decode b_MO_noCell 1 = .ok (.ifCond .lt 11, 3) := by decide +kernel
theorem d_MO_noCell_4 : decode b_MO_noCell 4 = .ok (.iload_n 1, 1) := by decide +kernel
theorem d_MO_noCell_5 : decode b_MO_noCell 5 = .ok (.aload_n 0, 1) := by decide +kernel
theorem d_MO_noCell_6 : decode b_MO_noCell 6 = .ok (.getfield 7, 3) := by decide +kernel
theorem d_MO_noCell_9 : decode b_MO_noCell 9 = .ok (.if_icmp .lt 7, 3) := by decide +kernel
theorem d_MO_noCell_12 : decode b_MO_noCell 12 = .ok (.iconst 1, 1) := by decide +kernel
theorem d_MO_noCell_13 : decode b_MO_noCell 13 = .ok (.goto 4, 3) := by decide +kernel
theorem d_MO_noCell_16 : decode b_MO_noCell 16 = .ok (.iconst 0, 1) := by decide +kernel
theorem d_MO_noCell_17 : decode b_MO_noCell 17 = .ok (.ireturn, 1) := by decide +kernel
theorem d_MO_sizeOf_0 : decode b_MO_sizeOf 0 = .ok (.iconst 0, 1) := by decide +kernel
theorem d_MO_sizeOf_1 : decode b_MO_sizeOf 1 = .ok (.istore_n 2, 1) := by decide +kernel
theorem d_MO_sizeOf_2 : decode b_MO_sizeOf 2 = .ok (.iconst 0, 1) := by decide +kernel
theorem d_MO_sizeOf_3 : decode b_MO_sizeOf 3 = .ok (.istore_n 3, 1) := by decide +kernel
theorem d_MO_sizeOf_4 : decode b_MO_sizeOf 4 = .ok (.iload_n 3, 1) := by decide +kernel
theorem d_MO_sizeOf_5 : decode b_MO_sizeOf 5 = .ok (.aload_n 0, 1) := by decide +kernel
theorem d_MO_sizeOf_6 : decode b_MO_sizeOf 6 = .ok (.getfield 7, 3) := by decide +kernel
theorem d_MO_sizeOf_9 : decode b_MO_sizeOf 9 = .ok (.if_icmp .ge 27, 3) := by decide +kernel
theorem d_MO_sizeOf_12 : decode b_MO_sizeOf 12 = .ok (.iload_n 2, 1) := by decide +kernel
theorem d_MO_sizeOf_13 : decode b_MO_sizeOf 13 = .ok (.aload_n 0, 1) := by decide +kernel
theorem d_MO_sizeOf_14 : decode b_MO_sizeOf 14 = .ok (.getfield 20, 3) := by decide +kernel
theorem d_MO_sizeOf_17 : decode b_MO_sizeOf 17 = .ok (.iload_n 3, 1) := by decide +kernel
theorem d_MO_sizeOf_18 : decode b_MO_sizeOf 18 = .ok (.iaload, 1) := by decide +kernel
theorem d_MO_sizeOf_19 : decode b_MO_sizeOf 19 = .ok (.iload_n 1, 1) := by decide +kernel
theorem d_MO_sizeOf_20 : decode b_MO_sizeOf 20 = .ok (.if_icmp .ne 7, 3) := by decide +kernel
theorem d_MO_sizeOf_23 : decode b_MO_sizeOf 23 = .ok (.iconst 1, 1) := by decide +kernel
theorem d_MO_sizeOf_24 : decode b_MO_sizeOf 24 = .ok (.goto 4, 3) := by decide +kernel
theorem d_MO_sizeOf_27 : decode b_MO_sizeOf 27 = .ok (.iconst 0, 1) := by decide +kernel
theorem d_MO_sizeOf_28 : decode b_MO_sizeOf 28 = .ok (.iadd, 1) := by decide +kernel
theorem d_MO_sizeOf_29 : decode b_MO_sizeOf 29 = .ok (.istore_n 2, 1) := by decide +kernel
theorem d_MO_sizeOf_30 : decode b_MO_sizeOf 30 = .ok (.iinc 3 1, 3) := by decide +kernel
theorem d_MO_sizeOf_33 : decode b_MO_sizeOf 33 = .ok (.goto (-29), 3) := by decide +kernel
theorem d_MO_sizeOf_36 : decode b_MO_sizeOf 36 = .ok (.iload_n 2, 1) := by decide +kernel
theorem d_MO_sizeOf_37 : decode b_MO_sizeOf 37 = .ok (.ireturn, 1) := by decide +kernel
theorem d_MO_group_0 : decode b_MO_group 0 = .ok (.aload_n 0, 1) := by decide +kernel
theorem d_MO_group_1 : decode b_MO_group 1 = .ok (.iload_n 1, 1) := by decide +kernel
theorem d_MO_group_2 : decode b_MO_group 2 = .ok (.invokevirtual 100, 3) := by decide +kernel
theorem d_MO_group_5 : decode b_MO_group 5 = .ok (.ifCond .ne 25, 3) := by decide +kernel
theorem d_MO_group_8 : decode b_MO_group 8 = .ok (.iload_n 2, 1) := by decide +kernel
theorem d_MO_group_9 : decode b_MO_group 9 = .ok (.ifCond .lt 21, 3) := by decide +kernel
theorem d_MO_group_12 : decode b_MO_group 12 = .ok (.iload_n 2, 1) := by decide +kernel
theorem d_MO_group_13 : decode b_MO_group 13 = .ok (.aload_n 0, 1) := by decide +kernel
theorem d_MO_group_14 : decode b_MO_group 14 = .ok (.getfield 86, 3) := by decide +kernel
theorem d_MO_group_17 : decode b_MO_group 17 = .ok (.iconst 1, 1) := by decide +kernel
theorem d_MO_group_18 : decode b_MO_group 18 = .ok (.if_icmp .ne 8, 3) := by decide +kernel
theorem d_MO_group_21 : decode b_MO_group 21 = .ok (.bipush 16, 2) := by decide +kernel
theorem d_MO_group_23 : decode b_MO_group 23 = .ok (.goto 4, 3) := by decide +kernel
theorem d_MO_group_26 : decode b_MO_group 26 = .ok (.iconst 5, 1) := by decide +kernel
theorem d_MO_group_27 : decode b_MO_group 27 = .ok (.if_icmp .lt 7, 3) := by decide +kernel
theorem d_MO_group_30 : decode b_MO_group 30 = .ok (.iconst 1, 1) := by decide +kernel
theorem d_MO_group_31 : decode b_MO_group 31 = .ok (.goto 4, 3) := by decide +kernel
theorem d_MO_group_34 : decode b_MO_group 34 = .ok (.iconst 0, 1) := by decide +kernel
theorem d_MO_group_35 : decode b_MO_group 35 = .ok (.istore_n 3, 1) := by decide +kernel
theorem d_MO_group_36 : decode b_MO_group 36 = .ok (.aload_n 0, 1) := by decide +kernel
theorem d_MO_group_37 : decode b_MO_group 37 = .ok (.aload_n 0, 1) := by decide +kernel
theorem d_MO_group_38 : decode b_MO_group 38 = .ok (.getfield 86, 3) := by decide +kernel
theorem d_MO_group_41 : decode b_MO_group 41 = .ok (.ifCond .ne 7, 3) := by decide +kernel
theorem d_MO_group_44 : decode b_MO_group 44 = .ok (.iconst 1, 1) := by decide +kernel
theorem d_MO_group_45 : decode b_MO_group 45 = .ok (.goto 12, 3) := by decide +kernel
theorem d_MO_group_48 : decode b_MO_group 48 = .ok (.iload_n 3, 1) := by decide +kernel
theorem d_MO_group_49 : decode b_MO_group 49 = .ok (.ifCond .eq 7, 3) := by decide +kernel
theorem d_MO_group_52 : decode b_MO_group 52 = .ok (.iconst 2, 1) := by decide +kernel
theorem d_MO_group_53 : decode b_MO_group 53 = .ok (.goto 4, 3) := by decide +kernel
theorem d_MO_group_56 : decode b_MO_group 56 = .ok (.iconst 0, 1) := by decide +kernel
theorem d_MO_group_57 : decode b_MO_group 57 = .ok (.putfield 83, 3) := by decide +kernel
theorem d_MO_group_60 : decode b_MO_group 60 = .ok (.aload_n 0, 1) := by decide +kernel
theorem d_MO_group_61 : decode b_MO_group 61 = .ok (.getfield 83, 3) := by decide +kernel
theorem d_MO_group_64 : decode b_MO_group 64 = .ok (.ifCond .eq 5, 3) := by decide +kernel
theorem d_MO_group_67 : decode b_MO_group 67 = .ok (.iconst 0, 1) := by decide +kernel
theorem d_MO_group_68 : decode b_MO_group 68 = .ok (.ireturn, 1) := by decide +kernel
theorem d_MO_group_69 : decode b_MO_group 69 = .ok (.aload_n 0, 1) := by decide +kernel
theorem d_MO_group_70 : decode b_MO_group 70 = .ok (.aload_n 0, 1) := by decide +kernel
theorem d_MO_group_71 : decode b_MO_group 71 = .ok (.getfield 86, 3) := by decide +kernel
theorem d_MO_group_74 : decode b_MO_group 74 = .ok (.iconst 1, 1) := by decide +kernel
theorem d_MO_group_75 : decode b_MO_group 75 = .ok (.if_icmp .ne 26, 3) := by decide +kernel
theorem d_MO_group_78 : decode b_MO_group 78 = .ok (.aload_n 0, 1) := by decide +kernel
theorem d_MO_group_79 : decode b_MO_group 79 = .ok (.getfield 20, 3) := by decide +kernel
theorem d_MO_group_82 : decode b_MO_group 82 = .ok (.iload_n 1, 1) := by decide +kernel
theorem d_MO_group_83 : decode b_MO_group 83 = .ok (.iaload, 1) := by decide +kernel
theorem d_MO_group_84 : decode b_MO_group 84 = .ok (.iload_n 2, 1) := by decide +kernel
theorem d_MO_group_85 : decode b_MO_group 85 = .ok (.if_icmp .eq 16, 3) := by decide +kernel
theorem d_MO_group_88 : decode b_MO_group 88 = .ok (.aload_n 0, 1) := by decide +kernel
theorem d_MO_group_89 : decode b_MO_group 89 = .ok (.iload_n 2, 1) := by decide +kernel
theorem d_MO_group_90 : decode b_MO_group 90 = .ok (.invokevirtual 103, 3) := by decide +kernel
theorem d_MO_group_93 : decode b_MO_group 93 = .ok (.iconst 4, 1) := by decide +kernel
theorem d_MO_group_94 : decode b_MO_group 94 = .ok (.if_icmp .ne 7, 3) := by decide +kernel
theorem d_MO_group_97 : decode b_MO_group 97 = .ok (.iconst 3, 1) := by decide +kernel
theorem d_MO_group_98 : decode b_MO_group 98 = .ok (.goto 4, 3) := by decide +kernel
theorem d_MO_group_101 : decode b_MO_group 101 = .ok (.iconst 0, 1) := by decide +kernel
theorem d_MO_group_102 : decode b_MO_group 102 = .ok (.putfield 83, 3) := by decide +kernel
theorem d_MO_group_105 : decode b_MO_group 105 = .ok (.aload_n 0, 1) := by decide +kernel
theorem d_MO_group_106 : decode b_MO_group 106 = .ok (.getfield 83, 3) := by decide +kernel
theorem d_MO_group_109 : decode b_MO_group 109 = .ok (.ifCond .eq 5, 3) := by decide +kernel
theorem d_MO_group_112 : decode b_MO_group 112 = .ok (.iconst 0, 1) := by decide +kernel
theorem d_MO_group_113 : decode b_MO_group 113 = .ok (.ireturn, 1) := by decide +kernel
theorem d_MO_group_114 : decode b_MO_group 114 = .ok (.aload_n 0, 1) := by decide +kernel
theorem d_MO_group_115 : decode b_MO_group 115 = .ok (.getfield 20, 3) := by decide +kernel
theorem d_MO_group_118 : decode b_MO_group 118 = .ok (.iload_n 1, 1) := by decide +kernel
theorem d_MO_group_119 : decode b_MO_group 119 = .ok (.iaload, 1) := by decide +kernel
theorem d_MO_group_120 : decode b_MO_group 120 = .ok (.istore 4, 2) := by decide +kernel
theorem d_MO_group_122 : decode b_MO_group 122 = .ok (.aload_n 0, 1) := by decide +kernel
theorem d_MO_group_123 : decode b_MO_group 123 = .ok (.getfield 20, 3) := by decide +kernel
theorem d_MO_group_126 : decode b_MO_group 126 = .ok (.iload_n 1, 1) := by decide +kernel
theorem d_MO_group_127 : decode b_MO_group 127 = .ok (.iload_n 2, 1) := by decide +kernel
theorem d_MO_group_128 : decode b_MO_group 128 = .ok (.iastore, 1) := by decide +kernel
theorem d_MO_group_129 : decode b_MO_group 129 = .ok (.aload_n 0, 1) := by decide +kernel
theorem d_MO_group_130 : decode b_MO_group 130 = .ok (.invokevirtual 89, 3) := by decide +kernel
theorem d_MO_group_133 : decode b_MO_group 133 = .ok (.iload 4, 2) := by decide +kernel
theorem d_MO_group_135 : decode b_MO_group 135 = .ok (.ireturn, 1) := by decide +kernel
theorem d_MO_rule_0 : decode b_MO_rule 0 = .ok (.aload_n 0, 1) := by decide +kernel
theorem d_MO_rule_1 : decode b_MO_rule 1 = .ok (.aload_n 0, 1) := by decide +kernel
theorem d_MO_rule_2 : decode b_MO_rule 2 = .ok (.getfield 86, 3) := by decide +kernel
theorem d_MO_rule_5 : decode b_MO_rule 5 = .ok (.iconst 1, 1) := by decide +kernel
theorem d_MO_rule_6 : decode b_MO_rule 6 = .ok (.if_icmp .eq 7, 3) := by decide +kernel
theorem d_MO_rule_9 : decode b_MO_rule 9 = .ok (.iconst 1, 1) := by decide +kernel
theorem d_MO_rule_10 : decode b_MO_rule 10 = .ok (.goto 41, 3) := by decide +kernel
theorem d_MO_rule_13 : decode b_MO_rule 13 = .ok (.iload_n 1, 1) := by decide +kernel
theorem d_MO_rule_14 : decode b_MO_rule 14 = .ok (.ifCond .lt 9, 3) := by decide +kernel
theorem d_MO_rule_17 : decode b_MO_rule 17 = .ok (.iload_n 1, 1) := by decide +kernel
theorem d_MO_rule_18 : decode b_MO_rule 18 = .ok (.bipush 15, 2) := by decide +kernel
theorem d_MO_rule_20 : decode b_MO_rule 20 = .ok (.if_icmp .le 7, 3) := by decide +kernel
theorem d_MO_rule_23 : decode b_MO_rule 23 = .ok (.iconst 2, 1) := by decide +kernel
theorem d_MO_rule_24 : decode b_MO_rule 24 = .ok (.goto 27, 3) := by decide +kernel
theorem d_MO_rule_27 : decode b_MO_rule 27 = .ok (.iload_n 2, 1) := by decide +kernel
theorem d_MO_rule_28 : decode b_MO_rule 28 = .ok (.ifCond .lt 18, 3) := by decide +kernel
theorem d_MO_rule_31 : decode b_MO_rule 31 = .ok (.iload_n 2, 1) := by decide +kernel
theorem d_MO_rule_32 : decode b_MO_rule 32 = .ok (.iconst 2, 1) := by decide +kernel
theorem d_MO_rule_33 : decode b_MO_rule 33 = .ok (.if_icmp .gt 13, 3) := by decide +kernel
theorem d_MO_rule_36 : decode b_MO_rule 36 = .ok (.iload_n 3, 1) := by decide +kernel
theorem d_MO_rule_37 : decode b_MO_rule 37 = .ok (.ifCond .lt 9, 3) := by decide +kernel
theorem d_MO_rule_40 : decode b_MO_rule 40 = .ok (.iload_n 3, 1) := by decide +kernel
theorem d_MO_rule_41 : decode b_MO_rule 41 = .ok (.bipush 99, 2) := by decide +kernel
theorem d_MO_rule_43 : decode b_MO_rule 43 = .ok (.if_icmp .le 7, 3) := by decide +kernel
theorem d_MO_rule_46 : decode b_MO_rule 46 = .ok (.iconst 3, 1) := by decide +kernel
theorem d_MO_rule_47 : decode b_MO_rule 47 = .ok (.goto 4, 3) := by decide +kernel
theorem d_MO_rule_50 : decode b_MO_rule 50 = .ok (.iconst 0, 1) := by decide +kernel
theorem d_MO_rule_51 : decode b_MO_rule 51 = .ok (.putfield 83, 3) := by decide +kernel
theorem d_MO_rule_54 : decode b_MO_rule 54 = .ok (.aload_n 0, 1) := by decide +kernel
theorem d_MO_rule_55 : decode b_MO_rule 55 = .ok (.getfield 83, 3) := by decide +kernel
theorem d_MO_rule_58 : decode b_MO_rule 58 = .ok (.ifCond .eq 5, 3) := by decide +kernel
theorem d_MO_rule_61 : decode b_MO_rule 61 = .ok (.iconst 0, 1) := by decide +kernel
theorem d_MO_rule_62 : decode b_MO_rule 62 = .ok (.ireturn, 1) := by decide +kernel
theorem d_MO_rule_63 : decode b_MO_rule 63 = .ok (.aload_n 0, 1) := by decide +kernel
theorem d_MO_rule_64 : decode b_MO_rule 64 = .ok (.getfield 23, 3) := by decide +kernel
theorem d_MO_rule_67 : decode b_MO_rule 67 = .ok (.iload_n 1, 1) := by decide +kernel
theorem d_MO_rule_68 : decode b_MO_rule 68 = .ok (.iload_n 2, 1) := by decide +kernel
theorem d_MO_rule_69 : decode b_MO_rule 69 = .ok (.iastore, 1) := by decide +kernel
theorem d_MO_rule_70 : decode b_MO_rule 70 = .ok (.aload_n 0, 1) := by decide +kernel
theorem d_MO_rule_71 : decode b_MO_rule 71 = .ok (.getfield 26, 3) := by decide +kernel
theorem d_MO_rule_74 : decode b_MO_rule 74 = .ok (.iload_n 1, 1) := by decide +kernel
theorem d_MO_rule_75 : decode b_MO_rule 75 = .ok (.iload_n 3, 1) := by decide +kernel
theorem d_MO_rule_76 : decode b_MO_rule 76 = .ok (.iastore, 1) := by decide +kernel
theorem d_MO_rule_77 : decode b_MO_rule 77 = .ok (.aload_n 0, 1) := by decide +kernel
theorem d_MO_rule_78 : decode b_MO_rule 78 = .ok (.invokevirtual 89, 3) := by decide +kernel
theorem d_MO_rule_81 : decode b_MO_rule 81 = .ok (.aload_n 0, 1) := by decide +kernel
theorem d_MO_rule_82 : decode b_MO_rule 82 = .ok (.iload_n 1, 1) := by decide +kernel
theorem d_MO_rule_83 : decode b_MO_rule 83 = .ok (.invokevirtual 103, 3) := by decide +kernel
theorem d_MO_rule_86 : decode b_MO_rule 86 = .ok (.ireturn, 1) := by decide +kernel
theorem d_MO_isValue_0 : decode b_MO_isValue 0 = .ok (.iload_n 1, 1) := by decide +kernel
theorem d_MO_isValue_1 : decode b_MO_isValue 1 = .ok (.ifCond .lt 24, 3) := by decide +kernel
theorem d_MO_isValue_4 : decode b_MO_isValue 4 = .ok (.iload_n 1, 1) := by decide +kernel
theorem d_MO_isValue_5 : decode b_MO_isValue 5 = .ok (.iconst 5, 1) := by decide +kernel
theorem d_MO_isValue_6 : decode b_MO_isValue 6 = .ok (.if_icmp .ge 19, 3) := by decide +kernel
theorem d_MO_isValue_9 : decode b_MO_isValue 9 = .ok (.aload_n 0, 1) := by decide +kernel
theorem d_MO_isValue_10 : decode b_MO_isValue 10 = .ok (.invokevirtual 92, 3) := by decide +kernel
theorem d_MO_isValue_13 : decode b_MO_isValue 13 = .ok (.iload_n 1, 1) := by decide +kernel
theorem d_MO_isValue_14 : decode b_MO_isValue 14 = .ok (.ishr, 1) := by decide +kernel
theorem d_MO_isValue_15 : decode b_MO_isValue 15 = .ok (.iconst 1, 1) := by decide +kernel
theorem d_MO_isValue_16 : decode b_MO_isValue 16 = .ok (.iand, 1) := by decide +kernel
theorem d_MO_isValue_17 : decode b_MO_isValue 17 = .ok (.iconst 1, 1) := by decide +kernel
theorem d_MO_isValue_18 : decode b_MO_isValue 18 = .ok (.if_icmp .ne 7, 3) := by decide +kernel
theorem d_MO_isValue_21 : decode b_MO_isValue 21 = .ok (.iconst 1, 1) := by decide +kernel
theorem d_MO_isValue_22 : decode b_MO_isValue 22 = .ok (.goto 4, 3) := by decide +kernel
theorem d_MO_isValue_25 : decode b_MO_isValue 25 = .ok (.iconst 0, 1) := by decide +kernel
theorem d_MO_isValue_26 : decode b_MO_isValue 26 = .ok (.ireturn, 1) := by decide +kernel
theorem d_MO_give_0 : decode b_MO_give 0 = .ok (.aload_n 0, 1) := by decide +kernel
theorem d_MO_give_1 : decode b_MO_give 1 = .ok (.aload_n 0, 1) := by decide +kernel
theorem d_MO_give_2 : decode b_MO_give 2 = .ok (.iload_n 1, 1) := by decide +kernel
theorem d_MO_give_3 : decode b_MO_give 3 = .ok (.invokevirtual 100, 3) := by decide +kernel
theorem d_MO_give_6 : decode b_MO_give 6 = .ok (.ifCond .eq 7, 3) := by decide +kernel
theorem d_MO_give_9 : decode b_MO_give 9 = .ok (.iconst 1, 1) := by decide +kernel
theorem d_MO_give_10 : decode b_MO_give 10 = .ok (.goto 21, 3) := by decide +kernel
theorem d_MO_give_13 : decode b_MO_give 13 = .ok (.iload_n 2, 1) := by decide +kernel
theorem d_MO_give_14 : decode b_MO_give 14 = .ok (.iconst (-1), 1) := by decide +kernel
theorem d_MO_give_15 : decode b_MO_give 15 = .ok (.if_icmp .eq 15, 3) := by decide +kernel
theorem d_MO_give_18 : decode b_MO_give 18 = .ok (.aload_n 0, 1) := by decide +kernel
theorem d_MO_give_19 : decode b_MO_give 19 = .ok (.iload_n 2, 1) := by decide +kernel
theorem d_MO_give_20 : decode b_MO_give 20 = .ok (.invokevirtual 106, 3) := by decide +kernel
theorem d_MO_give_23 : decode b_MO_give 23 = .ok (.ifCond .ne 7, 3) := by decide +kernel
theorem d_MO_give_26 : decode b_MO_give 26 = .ok (.iconst 2, 1) := by decide +kernel
theorem d_MO_give_27 : decode b_MO_give 27 = .ok (.goto 4, 3) := by decide +kernel
theorem d_MO_give_30 : decode b_MO_give 30 = .ok (.iconst 0, 1) := by decide +kernel
theorem d_MO_give_31 : decode b_MO_give 31 = .ok (.putfield 83, 3) := by decide +kernel
theorem d_MO_give_34 : decode b_MO_give 34 = .ok (.aload_n 0, 1) := by decide +kernel
theorem d_MO_give_35 : decode b_MO_give 35 = .ok (.getfield 83, 3) := by decide +kernel
theorem d_MO_give_38 : decode b_MO_give 38 = .ok (.ifCond .eq 5, 3) := by decide +kernel
theorem d_MO_give_41 : decode b_MO_give 41 = .ok (.iconst 0, 1) := by decide +kernel
theorem d_MO_give_42 : decode b_MO_give 42 = .ok (.ireturn, 1) := by decide +kernel
theorem d_MO_give_43 : decode b_MO_give 43 = .ok (.aload_n 0, 1) := by decide +kernel
theorem d_MO_give_44 : decode b_MO_give 44 = .ok (.getfield 29, 3) := by decide +kernel
theorem d_MO_give_47 : decode b_MO_give 47 = .ok (.iload_n 1, 1) := by decide +kernel
theorem d_MO_give_48 : decode b_MO_give 48 = .ok (.iaload, 1) := by decide +kernel
theorem d_MO_give_49 : decode b_MO_give 49 = .ok (.istore_n 3, 1) := by decide +kernel
theorem d_MO_give_50 : decode b_MO_give 50 = .ok (.aload_n 0, 1) := by decide +kernel
theorem d_MO_give_51 : decode b_MO_give 51 = .ok (.getfield 29, 3) := by decide +kernel
theorem d_MO_give_54 : decode b_MO_give 54 = .ok (.iload_n 1, 1) := by decide +kernel
theorem d_MO_give_55 : decode b_MO_give 55 = .ok (.iload_n 2, 1) := by decide +kernel
theorem d_MO_give_56 : decode b_MO_give 56 = .ok (.iastore, 1) := by decide +kernel
theorem d_MO_give_57 : decode b_MO_give 57 = .ok (.aload_n 0, 1) := by decide +kernel
theorem d_MO_give_58 : decode b_MO_give 58 = .ok (.invokevirtual 89, 3) := by decide +kernel
theorem d_MO_give_61 : decode b_MO_give 61 = .ok (.iload_n 3, 1) := by decide +kernel
theorem d_MO_give_62 : decode b_MO_give 62 = .ok (.ireturn, 1) := by decide +kernel
theorem d_MO_given_0 : decode b_MO_given 0 = .ok (.aload_n 0, 1) := by decide +kernel
theorem d_MO_given_1 : decode b_MO_given 1 = .ok (.aload_n 0, 1) := by decide +kernel
theorem d_MO_given_2 : decode b_MO_given 2 = .ok (.iload_n 1, 1) := by decide +kernel
theorem d_MO_given_3 : decode b_MO_given 3 = .ok (.invokevirtual 100, 3) := by decide +kernel
theorem d_MO_given_6 : decode b_MO_given 6 = .ok (.ifCond .eq 7, 3) := by decide +kernel
theorem d_MO_given_9 : decode b_MO_given 9 = .ok (.iconst 1, 1) := by decide +kernel
theorem d_MO_given_10 : decode b_MO_given 10 = .ok (.goto 4, 3) := by decide +kernel
theorem d_MO_given_13 : decode b_MO_given 13 = .ok (.iconst 0, 1) := by decide +kernel
theorem d_MO_given_14 : decode b_MO_given 14 = .ok (.putfield 83, 3) := by decide +kernel
theorem d_MO_given_17 : decode b_MO_given 17 = .ok (.aload_n 0, 1) := by decide +kernel
theorem d_MO_given_18 : decode b_MO_given 18 = .ok (.getfield 83, 3) := by decide +kernel
theorem d_MO_given_21 : decode b_MO_given 21 = .ok (.ifCond .ne 12, 3) := by decide +kernel
theorem d_MO_given_24 : decode b_MO_given 24 = .ok (.aload_n 0, 1) := by decide +kernel
theorem d_MO_given_25 : decode b_MO_given 25 = .ok (.getfield 29, 3) := by decide +kernel
theorem d_MO_given_28 : decode b_MO_given 28 = .ok (.iload_n 1, 1) := by decide +kernel
theorem d_MO_given_29 : decode b_MO_given 29 = .ok (.iaload, 1) := by decide +kernel
theorem d_MO_given_30 : decode b_MO_given 30 = .ok (.goto 4, 3) := by decide +kernel
theorem d_MO_given_33 : decode b_MO_given 33 = .ok (.iconst 0, 1) := by decide +kernel
theorem d_MO_given_34 : decode b_MO_given 34 = .ok (.ireturn, 1) := by decide +kernel
set_option maxHeartbeats 4000000 in
set_option maxRecDepth 100000 in
theorem ct_MO_isClue (l : Launch) (D : va_G) (tys : List (ClassId × FieldType)) (w0 : va_W) (N : Nat)  (u0 : Int32) (out : Int32) (h : mi_MO_isClue N u0 = some out) : fw_C l y_MO_isClue (.code y_MO_isClue b_MO_isClue 5 (some .boolean) :: Gw) (fr 0 0) D vwCl tys [.int u0] (w0) (some (.int out)) (w0) := by
  refine fw_of (by decide) (Nat.le_of_ble_eq_true rfl) ?_
  intro p e s m args below meth c ls A R Q hR hQ S hr hlk hX hA hl hw
  have hK := hX.1
  have hx := S.1
  have hb := S.2.1
  have hown := S.2.2.2.1
  have hg := S.2.2.2.2
  have hl : lv_has ls 5 [(0, .int u0)] := hl
  unfold mi_MO_isClue at h
  refine lv_iload_n hx hb d_MO_isClue_0 rfl (lv_at hl 0 rfl) ?_
  refine lv_istore_n (lv' := [(1, .int u0), (0, .int u0)]) hx hb d_MO_isClue_1 rfl hl (by decide) rfl (fun ls hl => ?_)
  refine lv_iconst (v := (-1)) hx hb d_MO_isClue_2 (by decide) ?_
  refine lv_istore_n (lv' := [(2, .int (-1 : Int32)), (1, .int u0), (0, .int u0)]) hx hb d_MO_isClue_3 rfl hl (by decide) rfl (fun ls hl => ?_)
  refine lv_iload_n hx hb d_MO_isClue_4 rfl (lv_at hl 2 rfl) ?_
  have J20 : ∀ (j20s0 : Int32), mj_MO_isClue_20 N u0 j20s0 = some out → ∀ (ls : Array Slot) (H : Heap) (locs : List Loc), lv_has ls 5 [(1, .int u0), (2, .int (-1 : Int32))] → fw_H D vwCl A s.heap (w0) H locs → W p l e R s m args below meth c H locs 0 0 Q (F0 m 20 ls [.int j20s0]) := by
    intro j20s0 h ls H locs hl hw
    unfold mj_MO_isClue_20 at h
    refine lv_istore_n (lv' := [(3, .int j20s0), (1, .int u0), (2, .int (-1 : Int32))]) hx hb d_MO_isClue_20 rfl hl (by decide) rfl (fun ls hl => ?_)
    have X21 : ∀ (y21 : Int32 × Int32 × Int32), mr_MO_isClue_21 y21 = some out → ∀ (ls : Array Slot) (H : Heap) (locs : List Loc), lv_has ls 5 [(2, .int y21.2.1), (3, .int y21.2.2)] → fw_H D vwCl A s.heap (w0) H locs → W p l e R s m args below meth c H locs 0 0 Q (F0 m 68 ls []) := by
      intro y21 h ls H locs hl hw
      unfold mr_MO_isClue_21 at h
      refine lv_iload_n hx hb d_MO_isClue_68 rfl (lv_at hl 1 rfl) ?_
      refine lv_if_eq (tgt := 81) hx hb d_MO_isClue_69 (by decide) (fun hc => ?_) (fun hc => ?_)
      · have h := oi h hc
        refine lv_iconst (v := 0) hx hb d_MO_isClue_81 (by decide) ?_
        have q := Option.some.inj h
        subst q
        exact fw_zret hQ S hr rfl hlk hX hw d_MO_isClue_82
      · have h := oe h hc
        refine lv_iload_n hx hb d_MO_isClue_72 rfl (lv_at hl 0 rfl) ?_
        refine lv_iconst (v := 5) hx hb d_MO_isClue_73 (by decide) ?_
        refine lv_icmp_gt (tgt := 81) hx hb d_MO_isClue_74 (by decide) (fun hc => ?_) (fun hc => ?_)
        · have h := oi h hc
          refine lv_iconst (v := 0) hx hb d_MO_isClue_81 (by decide) ?_
          have q := Option.some.inj h
          subst q
          exact fw_zret hQ S hr rfl hlk hX hw d_MO_isClue_82
        · have h := oe h hc
          refine lv_iconst (v := 1) hx hb d_MO_isClue_77 (by decide) ?_
          refine lv_goto (tgt := 82) hx hb d_MO_isClue_78 (by decide) ?_
          have q := Option.some.inj h
          subst q
          exact fw_zret hQ S hr rfl hlk hX hw d_MO_isClue_82
    have L21 : ∀ (n21 : Nat) (x21 : Int32 × Int32 × Int32) (e21 : Int32 × Int32 × Int32), lp (mb_MO_isClue_21) n21 x21 = some e21 → (mr_MO_isClue_21) e21 = some out → ∀ (ls : Array Slot) (H : Heap) (locs : List Loc), lv_has ls 5 [(1, .int x21.1), (2, .int x21.2.1), (3, .int x21.2.2)] → fw_H D vwCl A s.heap (w0) H locs → W p l e R s m args below meth c H locs 0 0 Q (F0 m 21 ls []) := by
      intro n21
      induction n21 with
      | zero => intro x21 e21 h1; exact absurd h1 lp_0
      | succ n21 ih21 =>
        intro x21 e21 h1 hr21 ls H locs hl hw
        rw [lp_s] at h1
        refine ob h1 (fun r21 h hk21 => ?_)
        unfold mb_MO_isClue_21 at h
        refine lv_iload_n hx hb d_MO_isClue_21 rfl (lv_at hl 2 rfl) ?_
        refine lv_if_eq (tgt := 68) hx hb d_MO_isClue_22 (by decide) (fun hc => ?_) (fun hc => ?_)
        · have h := oi h hc
          have q := Option.some.inj h
          subst q
          have q := Option.some.inj hk21
          subst q
          exact X21 (x21.1, x21.2.1, x21.2.2) hr21 _ _ _ (lv_sub hl [1, 2] rfl) hw
        · have h := oe h hc
          refine lv_iload_n hx hb d_MO_isClue_25 rfl (lv_at hl 0 rfl) ?_
          refine lv_if_le (tgt := 68) hx hb d_MO_isClue_26 (by decide) (fun hc => ?_) (fun hc => ?_)
          · have h := oi h hc
            have q := Option.some.inj h
            subst q
            have q := Option.some.inj hk21
            subst q
            exact X21 (x21.1, x21.2.1, x21.2.2) hr21 _ _ _ (lv_sub hl [1, 2] rfl) hw
          · have h := oe h hc
            refine lv_iload_n hx hb d_MO_isClue_29 rfl (lv_at hl 0 rfl) ?_
            refine lv_bipush (v := 10) hx hb d_MO_isClue_30 (by decide) ?_
            refine lv_irem hx hb d_MO_isClue_32 (by decide) ?_
            refine lv_istore (lv' := [(4, .int (x21.1 - x21.1 / (10 : Int32) * (10 : Int32))), (1, .int x21.1), (2, .int x21.2.1), (3, .int x21.2.2)]) hx hb d_MO_isClue_33 hl (by decide) rfl (fun ls hl => ?_)
            refine lv_iload hx hb d_MO_isClue_35 (lv_at hl 0 rfl) ?_
            refine lv_iconst (v := 1) hx hb d_MO_isClue_37 (by decide) ?_
            have J52 : ∀ (j52s0 : Int32), mj_MO_isClue_52 x21 j52s0 = some r21 → ∀ (ls : Array Slot) (H : Heap) (locs : List Loc), lv_has ls 5 [(1, .int x21.1), (2, .int x21.2.1), (4, .int (x21.1 - x21.1 / (10 : Int32) * (10 : Int32)))] → fw_H D vwCl A s.heap (w0) H locs → W p l e R s m args below meth c H locs 0 0 Q (F0 m 52 ls [.int j52s0]) := by
              intro j52s0 h ls H locs hl hw
              unfold mj_MO_isClue_52 at h
              refine lv_istore_n (lv' := [(3, .int j52s0), (1, .int x21.1), (2, .int x21.2.1), (4, .int (x21.1 - x21.1 / (10 : Int32) * (10 : Int32)))]) hx hb d_MO_isClue_52 rfl hl (by decide) rfl (fun ls hl => ?_)
              refine lv_iload_n hx hb d_MO_isClue_53 rfl (lv_at hl 2 rfl) ?_
              refine lv_iload hx hb d_MO_isClue_54 (lv_at hl 3 rfl) ?_
              refine lv_iconst (v := 1) hx hb d_MO_isClue_56 (by decide) ?_
              refine lv_iadd hx hb d_MO_isClue_57 ?_
              refine lv_iadd hx hb d_MO_isClue_58 ?_
              refine lv_istore_n (lv' := [(2, .int (x21.2.1 + ((x21.1 - x21.1 / (10 : Int32) * (10 : Int32)) + (1 : Int32)))), (3, .int j52s0), (1, .int x21.1), (4, .int (x21.1 - x21.1 / (10 : Int32) * (10 : Int32)))]) hx hb d_MO_isClue_59 rfl hl (by decide) rfl (fun ls hl => ?_)
              refine lv_iload_n hx hb d_MO_isClue_60 rfl (lv_at hl 2 rfl) ?_
              refine lv_bipush (v := 10) hx hb d_MO_isClue_61 (by decide) ?_
              refine lv_idiv hx hb d_MO_isClue_63 (by decide) ?_
              refine lv_istore_n (lv' := [(1, .int (x21.1 / (10 : Int32))), (2, .int (x21.2.1 + ((x21.1 - x21.1 / (10 : Int32) * (10 : Int32)) + (1 : Int32)))), (3, .int j52s0), (4, .int (x21.1 - x21.1 / (10 : Int32) * (10 : Int32)))]) hx hb d_MO_isClue_64 rfl hl (by decide) rfl (fun ls hl => ?_)
              refine lv_goto (tgt := 21) hx hb d_MO_isClue_65 (by decide) ?_
              have q := Option.some.inj h
              subst q
              exact ih21 (x21.1 / (10 : Int32), x21.2.1 + ((x21.1 - x21.1 / (10 : Int32) * (10 : Int32)) + (1 : Int32)), j52s0) e21 hk21 hr21 _ _ _ (lv_sub hl [0, 1, 2] rfl) hw
            refine lv_icmp_lt (tgt := 51) hx hb d_MO_isClue_38 (by decide) (fun hc => ?_) (fun hc => ?_)
            · have h := oi h hc
              refine lv_iconst (v := 0) hx hb d_MO_isClue_51 (by decide) ?_
              exact J52 (0 : Int32) h _ _ _ (lv_sub hl [1, 2, 0] rfl) hw
            · have h := oe h hc
              refine lv_iload hx hb d_MO_isClue_41 (lv_at hl 0 rfl) ?_
              refine lv_iconst (v := 5) hx hb d_MO_isClue_43 (by decide) ?_
              refine lv_icmp_gt (tgt := 51) hx hb d_MO_isClue_44 (by decide) (fun hc => ?_) (fun hc => ?_)
              · have h := oi h hc
                refine lv_iconst (v := 0) hx hb d_MO_isClue_51 (by decide) ?_
                exact J52 (0 : Int32) h _ _ _ (lv_sub hl [1, 2, 0] rfl) hw
              · have h := oe h hc
                refine lv_iconst (v := 1) hx hb d_MO_isClue_47 (by decide) ?_
                refine lv_goto (tgt := 52) hx hb d_MO_isClue_48 (by decide) ?_
                exact J52 (1 : Int32) h _ _ _ (lv_sub hl [1, 2, 0] rfl) hw
    refine ob h (fun e21 h1 h2 => ?_)
    exact L21 N (u0, (-1 : Int32), j20s0) e21 h1 h2 _ _ _ (lv_sub hl [1, 2, 0] rfl) hw
  refine lv_if_lt (tgt := 19) hx hb d_MO_isClue_5 (by decide) (fun hc => ?_) (fun hc => ?_)
  · have h := oi h hc
    refine lv_iconst (v := 0) hx hb d_MO_isClue_19 (by decide) ?_
    exact J20 (0 : Int32) h _ _ _ (lv_sub hl [1, 0] rfl) hw
  · have h := oe h hc
    refine lv_iload_n hx hb d_MO_isClue_8 rfl (lv_at hl 2 rfl) ?_
    refine lv_sipush (v := 1000) hx hb d_MO_isClue_9 (by decide) ?_
    refine lv_icmp_ge (tgt := 19) hx hb d_MO_isClue_12 (by decide) (fun hc => ?_) (fun hc => ?_)
    · have h := oi h hc
      refine lv_iconst (v := 0) hx hb d_MO_isClue_19 (by decide) ?_
      exact J20 (0 : Int32) h _ _ _ (lv_sub hl [1, 0] rfl) hw
    · have h := oe h hc
      refine lv_iconst (v := 1) hx hb d_MO_isClue_15 (by decide) ?_
      refine lv_goto (tgt := 20) hx hb d_MO_isClue_16 (by decide) ?_
      exact J20 (1 : Int32) h _ _ _ (lv_sub hl [1, 0] rfl) hw
set_option maxHeartbeats 4000000 in
set_option maxRecDepth 100000 in
theorem ct_MO_stretchesOf (l : Launch) (D : va_G) (tys : List (ClassId × FieldType)) (w0 : va_W) (N : Nat)  (u0 : Int32) (out : Int32) (h : mi_MO_stretchesOf N u0 = some out) : fw_C l y_MO_stretchesOf (.code y_MO_stretchesOf b_MO_stretchesOf 5 (some .int) :: Gw) (fr 0 0) D vwCl tys [.int u0] (w0) (some (.int out)) (w0) := by
  refine fw_of (by decide) (Nat.le_of_ble_eq_true rfl) ?_
  intro p e s m args below meth c ls A R Q hR hQ S hr hlk hX hA hl hw
  have hK := hX.1
  have hx := S.1
  have hb := S.2.1
  have hown := S.2.2.2.1
  have hg := S.2.2.2.2
  have hl : lv_has ls 5 [(0, .int u0)] := hl
  unfold mi_MO_stretchesOf at h
  refine lv_iconst (v := 0) hx hb d_MO_stretchesOf_0 (by decide) ?_
  refine lv_istore_n (lv' := [(1, .int (0 : Int32)), (0, .int u0)]) hx hb d_MO_stretchesOf_1 rfl hl (by decide) rfl (fun ls hl => ?_)
  refine lv_iconst (v := 0) hx hb d_MO_stretchesOf_2 (by decide) ?_
  refine lv_istore_n (lv' := [(2, .int (0 : Int32)), (1, .int (0 : Int32)), (0, .int u0)]) hx hb d_MO_stretchesOf_3 rfl hl (by decide) rfl (fun ls hl => ?_)
  refine lv_iconst (v := 4) hx hb d_MO_stretchesOf_4 (by decide) ?_
  refine lv_istore_n (lv' := [(3, .int (4 : Int32)), (2, .int (0 : Int32)), (1, .int (0 : Int32)), (0, .int u0)]) hx hb d_MO_stretchesOf_5 rfl hl (by decide) rfl (fun ls hl => ?_)
  have X6 : ∀ (y6 : Int32 × Int32 × Int32), mr_MO_stretchesOf_6 y6 = some out → ∀ (ls : Array Slot) (H : Heap) (locs : List Loc), lv_has ls 5 [(1, .int y6.1)] → fw_H D vwCl A s.heap (w0) H locs → W p l e R s m args below meth c H locs 0 0 Q (F0 m 70 ls []) := by
    intro y6 h ls H locs hl hw
    unfold mr_MO_stretchesOf_6 at h
    refine lv_iload_n hx hb d_MO_stretchesOf_70 rfl (lv_at hl 0 rfl) ?_
    have q := Option.some.inj h
    subst q
    exact fw_iret hQ S hr hlk hX hw d_MO_stretchesOf_71
  have L6 : ∀ (n6 : Nat) (x6 : Int32 × Int32 × Int32) (e6 : Int32 × Int32 × Int32), lp (mb_MO_stretchesOf_6 u0) n6 x6 = some e6 → (mr_MO_stretchesOf_6) e6 = some out → ∀ (ls : Array Slot) (H : Heap) (locs : List Loc), lv_has ls 5 [(0, .int u0), (1, .int x6.1), (2, .int x6.2.1), (3, .int x6.2.2)] → fw_H D vwCl A s.heap (w0) H locs → W p l e R s m args below meth c H locs 0 0 Q (F0 m 6 ls []) := by
    intro n6
    induction n6 with
    | zero => intro x6 e6 h1; exact absurd h1 lp_0
    | succ n6 ih6 =>
      intro x6 e6 h1 hr6 ls H locs hl hw
      rw [lp_s] at h1
      refine ob h1 (fun r6 h hk6 => ?_)
      unfold mb_MO_stretchesOf_6 at h
      refine lv_iload_n hx hb d_MO_stretchesOf_6 rfl (lv_at hl 3 rfl) ?_
      refine lv_iconst (v := (-1)) hx hb d_MO_stretchesOf_7 (by decide) ?_
      refine lv_icmp_lt (tgt := 70) hx hb d_MO_stretchesOf_8 (by decide) (fun hc => ?_) (fun hc => ?_)
      · have h := oi h hc
        have q := Option.some.inj h
        subst q
        have q := Option.some.inj hk6
        subst q
        exact X6 (x6.1, x6.2.1, x6.2.2) hr6 _ _ _ (lv_sub hl [1] rfl) hw
      · have h := oe h hc
        refine lv_iload_n hx hb d_MO_stretchesOf_11 rfl (lv_at hl 3 rfl) ?_
        have J29 : ∀ (j29s0 : Int32), mj_MO_stretchesOf_29 x6 j29s0 = some r6 → ∀ (ls : Array Slot) (H : Heap) (locs : List Loc), lv_has ls 5 [(0, .int u0), (1, .int x6.1), (2, .int x6.2.1), (3, .int x6.2.2)] → fw_H D vwCl A s.heap (w0) H locs → W p l e R s m args below meth c H locs 0 0 Q (F0 m 29 ls [.int j29s0]) := by
          intro j29s0 h ls H locs hl hw
          unfold mj_MO_stretchesOf_29 at h
          refine lv_istore (lv' := [(4, .int j29s0), (0, .int u0), (1, .int x6.1), (2, .int x6.2.1), (3, .int x6.2.2)]) hx hb d_MO_stretchesOf_29 hl (by decide) rfl (fun ls hl => ?_)
          refine lv_iload hx hb d_MO_stretchesOf_31 (lv_at hl 0 rfl) ?_
          have J50 : ∀ (j50s0 : Int32), mj_MO_stretchesOf_50 x6 j29s0 j50s0 = some r6 → ∀ (ls : Array Slot) (H : Heap) (locs : List Loc), lv_has ls 5 [(0, .int u0), (2, .int x6.2.1), (3, .int x6.2.2), (4, .int j29s0)] → fw_H D vwCl A s.heap (w0) H locs → W p l e R s m args below meth c H locs 0 0 Q (F0 m 50 ls [.int j50s0]) := by
            intro j50s0 h ls H locs hl hw
            unfold mj_MO_stretchesOf_50 at h
            refine lv_istore_n (lv' := [(1, .int j50s0), (0, .int u0), (2, .int x6.2.1), (3, .int x6.2.2), (4, .int j29s0)]) hx hb d_MO_stretchesOf_50 rfl hl (by decide) rfl (fun ls hl => ?_)
            refine lv_iload hx hb d_MO_stretchesOf_51 (lv_at hl 4 rfl) ?_
            refine lv_if_eq (tgt := 62) hx hb d_MO_stretchesOf_53 (by decide) (fun hc => ?_) (fun hc => ?_)
            · have h := oi h hc
              refine lv_iconst (v := 0) hx hb d_MO_stretchesOf_62 (by decide) ?_
              refine lv_istore_n (lv' := [(2, .int (0 : Int32)), (1, .int j50s0), (0, .int u0), (3, .int x6.2.2), (4, .int j29s0)]) hx hb d_MO_stretchesOf_63 rfl hl (by decide) rfl (fun ls hl => ?_)
              refine lv_iinc (k := 3) (v := x6.2.2 + (-1)) (lv' := [(3, .int (x6.2.2 + (-1))), (2, .int (0 : Int32)), (1, .int j50s0), (0, .int u0), (4, .int j29s0)]) hx hb d_MO_stretchesOf_64 hl rfl (by rw [litm1]) (by decide) rfl (fun ls hl => ?_)
              refine lv_goto (tgt := 6) hx hb d_MO_stretchesOf_67 (by decide) ?_
              have q := Option.some.inj h
              subst q
              exact ih6 (j50s0, (0 : Int32), x6.2.2 + (-1)) e6 hk6 hr6 _ _ _ (lv_sub hl [3, 2, 1, 0] rfl) hw
            · have h := oe h hc
              refine lv_iload_n hx hb d_MO_stretchesOf_56 rfl (lv_at hl 2 rfl) ?_
              refine lv_iconst (v := 1) hx hb d_MO_stretchesOf_57 (by decide) ?_
              refine lv_iadd hx hb d_MO_stretchesOf_58 ?_
              refine lv_goto (tgt := 63) hx hb d_MO_stretchesOf_59 (by decide) ?_
              refine lv_istore_n (lv' := [(2, .int (x6.2.1 + (1 : Int32))), (1, .int j50s0), (0, .int u0), (3, .int x6.2.2), (4, .int j29s0)]) hx hb d_MO_stretchesOf_63 rfl hl (by decide) rfl (fun ls hl => ?_)
              refine lv_iinc (k := 3) (v := x6.2.2 + (-1)) (lv' := [(3, .int (x6.2.2 + (-1))), (2, .int (x6.2.1 + (1 : Int32))), (1, .int j50s0), (0, .int u0), (4, .int j29s0)]) hx hb d_MO_stretchesOf_64 hl rfl (by rw [litm1]) (by decide) rfl (fun ls hl => ?_)
              refine lv_goto (tgt := 6) hx hb d_MO_stretchesOf_67 (by decide) ?_
              have q := Option.some.inj h
              subst q
              exact ih6 (j50s0, x6.2.1 + (1 : Int32), x6.2.2 + (-1)) e6 hk6 hr6 _ _ _ (lv_sub hl [3, 2, 1, 0] rfl) hw
          refine lv_if_ne (tgt := 49) hx hb d_MO_stretchesOf_33 (by decide) (fun hc => ?_) (fun hc => ?_)
          · have h := oe h hc
            refine lv_iload_n hx hb d_MO_stretchesOf_49 rfl (lv_at hl 2 rfl) ?_
            exact J50 x6.1 h _ _ _ (lv_sub hl [1, 3, 4, 0] rfl) hw
          · have h := oi h hc
            refine lv_iload_n hx hb d_MO_stretchesOf_36 rfl (lv_at hl 3 rfl) ?_
            refine lv_if_le (tgt := 49) hx hb d_MO_stretchesOf_37 (by decide) (fun hc => ?_) (fun hc => ?_)
            · have h := oi h hc
              refine lv_iload_n hx hb d_MO_stretchesOf_49 rfl (lv_at hl 2 rfl) ?_
              exact J50 x6.1 h _ _ _ (lv_sub hl [1, 3, 4, 0] rfl) hw
            · have h := oe h hc
              refine lv_bipush (v := 10) hx hb d_MO_stretchesOf_40 (by decide) ?_
              refine lv_iload_n hx hb d_MO_stretchesOf_42 rfl (lv_at hl 2 rfl) ?_
              refine lv_imul hx hb d_MO_stretchesOf_43 ?_
              refine lv_iload_n hx hb d_MO_stretchesOf_44 rfl (lv_at hl 3 rfl) ?_
              refine lv_iadd hx hb d_MO_stretchesOf_45 ?_
              refine lv_goto (tgt := 50) hx hb d_MO_stretchesOf_46 (by decide) ?_
              exact J50 (((10 : Int32) * x6.1) + x6.2.1) h _ _ _ (lv_sub hl [1, 3, 4, 0] rfl) hw
        refine lv_if_lt (tgt := 28) hx hb d_MO_stretchesOf_12 (by decide) (fun hc => ?_) (fun hc => ?_)
        · have h := oi h hc
          refine lv_iconst (v := 0) hx hb d_MO_stretchesOf_28 (by decide) ?_
          exact J29 (0 : Int32) h _ _ _ hl hw
        · have h := oe h hc
          refine lv_iload_n hx hb d_MO_stretchesOf_15 rfl (lv_at hl 0 rfl) ?_
          refine lv_iload_n hx hb d_MO_stretchesOf_16 rfl (lv_at hl 3 rfl) ?_
          refine lv_ishr hx hb d_MO_stretchesOf_17 ?_
          refine lv_iconst (v := 1) hx hb d_MO_stretchesOf_18 (by decide) ?_
          refine lv_iand hx hb d_MO_stretchesOf_19 ?_
          refine lv_iconst (v := 1) hx hb d_MO_stretchesOf_20 (by decide) ?_
          refine lv_icmp_ne (tgt := 28) hx hb d_MO_stretchesOf_21 (by decide) (fun hc => ?_) (fun hc => ?_)
          · have h := oe h hc
            refine lv_iconst (v := 0) hx hb d_MO_stretchesOf_28 (by decide) ?_
            exact J29 (0 : Int32) h _ _ _ hl hw
          · have h := oi h hc
            refine lv_iconst (v := 1) hx hb d_MO_stretchesOf_24 (by decide) ?_
            refine lv_goto (tgt := 29) hx hb d_MO_stretchesOf_25 (by decide) ?_
            exact J29 (1 : Int32) h _ _ _ hl hw
  refine ob h (fun e6 h1 h2 => ?_)
  exact L6 N ((0 : Int32), (0 : Int32), (4 : Int32)) e6 h1 h2 _ _ _ (lv_sub hl [3, 2, 1, 0] rfl) hw
set_option maxHeartbeats 4000000 in
set_option maxRecDepth 100000 in
theorem ct_MO_ones (l : Launch) (D : va_G) (tys : List (ClassId × FieldType)) (w0 : va_W) (N : Nat)  (u0 : Int32) (out : Int32) (h : mi_MO_ones N u0 = some out) : fw_C l y_MO_ones (.code y_MO_ones b_MO_ones 3 (some .int) :: Gw) (fr 0 0) D vwCl tys [.int u0] (w0) (some (.int out)) (w0) := by
  refine fw_of (by decide) (Nat.le_of_ble_eq_true rfl) ?_
  intro p e s m args below meth c ls A R Q hR hQ S hr hlk hX hA hl hw
  have hK := hX.1
  have hx := S.1
  have hb := S.2.1
  have hown := S.2.2.2.1
  have hg := S.2.2.2.2
  have hl : lv_has ls 3 [(0, .int u0)] := hl
  unfold mi_MO_ones at h
  refine lv_iconst (v := 0) hx hb d_MO_ones_0 (by decide) ?_
  refine lv_istore_n (lv' := [(1, .int (0 : Int32)), (0, .int u0)]) hx hb d_MO_ones_1 rfl hl (by decide) rfl (fun ls hl => ?_)
  refine lv_iconst (v := 0) hx hb d_MO_ones_2 (by decide) ?_
  refine lv_istore_n (lv' := [(2, .int (0 : Int32)), (1, .int (0 : Int32)), (0, .int u0)]) hx hb d_MO_ones_3 rfl hl (by decide) rfl (fun ls hl => ?_)
  have X4 : ∀ (y4 : Int32 × Int32), mr_MO_ones_4 y4 = some out → ∀ (ls : Array Slot) (H : Heap) (locs : List Loc), lv_has ls 3 [(1, .int y4.1)] → fw_H D vwCl A s.heap (w0) H locs → W p l e R s m args below meth c H locs 0 0 Q (F0 m 23 ls []) := by
    intro y4 h ls H locs hl hw
    unfold mr_MO_ones_4 at h
    refine lv_iload_n hx hb d_MO_ones_23 rfl (lv_at hl 0 rfl) ?_
    have q := Option.some.inj h
    subst q
    exact fw_iret hQ S hr hlk hX hw d_MO_ones_24
  have L4 : ∀ (n4 : Nat) (x4 : Int32 × Int32) (e4 : Int32 × Int32), lp (mb_MO_ones_4 u0) n4 x4 = some e4 → (mr_MO_ones_4) e4 = some out → ∀ (ls : Array Slot) (H : Heap) (locs : List Loc), lv_has ls 3 [(0, .int u0), (1, .int x4.1), (2, .int x4.2)] → fw_H D vwCl A s.heap (w0) H locs → W p l e R s m args below meth c H locs 0 0 Q (F0 m 4 ls []) := by
    intro n4
    induction n4 with
    | zero => intro x4 e4 h1; exact absurd h1 lp_0
    | succ n4 ih4 =>
      intro x4 e4 h1 hr4 ls H locs hl hw
      rw [lp_s] at h1
      refine ob h1 (fun r4 h hk4 => ?_)
      unfold mb_MO_ones_4 at h
      refine lv_iload_n hx hb d_MO_ones_4 rfl (lv_at hl 2 rfl) ?_
      refine lv_iconst (v := 5) hx hb d_MO_ones_5 (by decide) ?_
      refine lv_icmp_ge (tgt := 23) hx hb d_MO_ones_6 (by decide) (fun hc => ?_) (fun hc => ?_)
      · have h := oi h hc
        have q := Option.some.inj h
        subst q
        have q := Option.some.inj hk4
        subst q
        exact X4 (x4.1, x4.2) hr4 _ _ _ (lv_sub hl [1] rfl) hw
      · have h := oe h hc
        refine lv_iload_n hx hb d_MO_ones_9 rfl (lv_at hl 1 rfl) ?_
        refine lv_iload_n hx hb d_MO_ones_10 rfl (lv_at hl 0 rfl) ?_
        refine lv_iload_n hx hb d_MO_ones_11 rfl (lv_at hl 2 rfl) ?_
        refine lv_ishr hx hb d_MO_ones_12 ?_
        refine lv_iconst (v := 1) hx hb d_MO_ones_13 (by decide) ?_
        refine lv_iand hx hb d_MO_ones_14 ?_
        refine lv_iadd hx hb d_MO_ones_15 ?_
        refine lv_istore_n (lv' := [(1, .int (x4.1 + ((u0 >>> (x4.2 &&& 31)) &&& (1 : Int32)))), (0, .int u0), (2, .int x4.2)]) hx hb d_MO_ones_16 rfl hl (by decide) rfl (fun ls hl => ?_)
        refine lv_iinc (k := 2) (v := x4.2 + 1) (lv' := [(2, .int (x4.2 + 1)), (1, .int (x4.1 + ((u0 >>> (x4.2 &&& 31)) &&& (1 : Int32)))), (0, .int u0)]) hx hb d_MO_ones_17 hl rfl (by rw [lit1]) (by decide) rfl (fun ls hl => ?_)
        refine lv_goto (tgt := 4) hx hb d_MO_ones_20 (by decide) ?_
        have q := Option.some.inj h
        subst q
        exact ih4 (x4.1 + ((u0 >>> (x4.2 &&& 31)) &&& (1 : Int32)), x4.2 + 1) e4 hk4 hr4 _ _ _ (lv_sub hl [2, 1, 0] rfl) hw
  refine ob h (fun e4 h1 h2 => ?_)
  exact L4 N ((0 : Int32), (0 : Int32)) e4 h1 h2 _ _ _ (lv_sub hl [2, 1, 0] rfl) hw
set_option maxHeartbeats 4000000 in
set_option maxRecDepth 100000 in
theorem ct_MO_apart (l : Launch) (D : va_G) (tys : List (ClassId × FieldType)) (w0 : va_W) (N : Nat)  (u0 : Int32) (u1 : Int32) (out : Int32) (h : mi_MO_apart N u0 u1 = some out) : fw_C l y_MO_apart (.code y_MO_apart b_MO_apart 2 (some .int) :: Gw) (fr 0 0) D vwCl tys [.int u0, .int u1] (w0) (some (.int out)) (w0) := by
  refine fw_of (by decide) (Nat.le_of_ble_eq_true rfl) ?_
  intro p e s m args below meth c ls A R Q hR hQ S hr hlk hX hA hl hw
  have hK := hX.1
  have hx := S.1
  have hb := S.2.1
  have hown := S.2.2.2.1
  have hg := S.2.2.2.2
  have hl : lv_has ls 2 [(0, .int u0), (1, .int u1)] := hl
  unfold mi_MO_apart at h
  refine lv_iload_n hx hb d_MO_apart_0 rfl (lv_at hl 0 rfl) ?_
  refine lv_iload_n hx hb d_MO_apart_1 rfl (lv_at hl 1 rfl) ?_
  refine lv_icmp_ge (tgt := 11) hx hb d_MO_apart_2 (by decide) (fun hc => ?_) (fun hc => ?_)
  · have h := oi h hc
    refine lv_iload_n hx hb d_MO_apart_11 rfl (lv_at hl 0 rfl) ?_
    refine lv_iload_n hx hb d_MO_apart_12 rfl (lv_at hl 1 rfl) ?_
    refine lv_isub hx hb d_MO_apart_13 ?_
    have q := Option.some.inj h
    subst q
    exact fw_iret hQ S hr hlk hX hw d_MO_apart_14
  · have h := oe h hc
    refine lv_iload_n hx hb d_MO_apart_5 rfl (lv_at hl 1 rfl) ?_
    refine lv_iload_n hx hb d_MO_apart_6 rfl (lv_at hl 0 rfl) ?_
    refine lv_isub hx hb d_MO_apart_7 ?_
    refine lv_goto (tgt := 14) hx hb d_MO_apart_8 (by decide) ?_
    have q := Option.some.inj h
    subst q
    exact fw_iret hQ S hr hlk hX hw d_MO_apart_14
set_option maxHeartbeats 4000000 in
set_option maxRecDepth 100000 in
theorem ct_MO_touch (l : Launch) (D : va_G) (tys : List (ClassId × FieldType)) (w0 : va_W) (N : Nat)  (u0 : Int32) (u1 : Int32) (out : Int32) (h : mi_MO_touch N u0 u1 = some out) : fw_C l y_MO_touch (.code y_MO_touch b_MO_touch 2 (some .boolean) :: Gw) (fr 1 21) D vwCl tys [.int u0, .int u1] (w0) (some (.int out)) (w0) := by
  refine fw_of (by decide) (Nat.le_of_ble_eq_true rfl) ?_
  intro p e s m args below meth c ls A R Q hR hQ S hr hlk hX hA hl hw
  have hK := hX.1
  have hx := S.1
  have hb := S.2.1
  have hown := S.2.2.2.1
  have hg := S.2.2.2.2
  have hl : lv_has ls 2 [(0, .int u0), (1, .int u1)] := hl
  unfold mi_MO_touch at h
  refine lv_iload_n hx hb d_MO_touch_0 rfl (lv_at hl 0 rfl) ?_
  refine lv_iload_n hx hb d_MO_touch_1 rfl (lv_at hl 1 rfl) ?_
  refine lv_icmp_eq (tgt := 35) hx hb d_MO_touch_2 (by decide) (fun hc => ?_) (fun hc => ?_)
  · have h := oi h hc
    refine lv_iconst (v := 0) hx hb d_MO_touch_35 (by decide) ?_
    have q := Option.some.inj h
    subst q
    exact fw_zret hQ S hr rfl hlk hX hw d_MO_touch_36
  · have h := oe h hc
    refine lv_iload_n hx hb d_MO_touch_5 rfl (lv_at hl 0 rfl) ?_
    refine lv_iconst (v := 5) hx hb d_MO_touch_6 (by decide) ?_
    refine lv_idiv hx hb d_MO_touch_7 (by decide) ?_
    refine lv_iload_n hx hb d_MO_touch_8 rfl (lv_at hl 1 rfl) ?_
    refine lv_iconst (v := 5) hx hb d_MO_touch_9 (by decide) ?_
    refine lv_idiv hx hb d_MO_touch_10 (by decide) ?_
    refine ob h (fun r11 h11 h => ?_)
    refine fw_callS (As := [.int (u0 / (5 : Int32)), .int (u1 / (5 : Int32))]) (rest := []) (st1 := [.int r11]) S (ct_MO_apart l D tys (w0) N (u0 / (5 : Int32)) (u1 / (5 : Int32)) r11 h11) q_734 q_735 q_10 k_MO_apart hd_MO_apart ⟨by rw [hR]; decide, by rw [hR]; decide⟩ rfl rfl hX hw hA hl.1 rfl rfl (Nat.le_of_ble_eq_true rfl) d_MO_touch_11 ⟨Nat.zero_le _, Nat.zero_le _⟩ rfl (fun H locs hw => ?_)
    refine lv_iconst (v := 2) hx hb d_MO_touch_14 (by decide) ?_
    refine lv_icmp_ge (tgt := 35) hx hb d_MO_touch_15 (by decide) (fun hc => ?_) (fun hc => ?_)
    · have h := oi h hc
      refine lv_iconst (v := 0) hx hb d_MO_touch_35 (by decide) ?_
      have q := Option.some.inj h
      subst q
      exact fw_zret hQ S hr rfl hlk hX hw d_MO_touch_36
    · have h := oe h hc
      refine lv_iload_n hx hb d_MO_touch_18 rfl (lv_at hl 0 rfl) ?_
      refine lv_iconst (v := 5) hx hb d_MO_touch_19 (by decide) ?_
      refine lv_irem hx hb d_MO_touch_20 (by decide) ?_
      refine lv_iload_n hx hb d_MO_touch_21 rfl (lv_at hl 1 rfl) ?_
      refine lv_iconst (v := 5) hx hb d_MO_touch_22 (by decide) ?_
      refine lv_irem hx hb d_MO_touch_23 (by decide) ?_
      refine ob h (fun r24 h24 h => ?_)
      refine fw_callS (As := [.int (u0 - u0 / (5 : Int32) * (5 : Int32)), .int (u1 - u1 / (5 : Int32) * (5 : Int32))]) (rest := []) (st1 := [.int r24]) S (ct_MO_apart l D tys (w0) N (u0 - u0 / (5 : Int32) * (5 : Int32)) (u1 - u1 / (5 : Int32) * (5 : Int32)) r24 h24) q_734 q_735 q_10 k_MO_apart hd_MO_apart ⟨by rw [hR]; decide, by rw [hR]; decide⟩ rfl rfl hX hw hA hl.1 rfl rfl (Nat.le_of_ble_eq_true rfl) d_MO_touch_24 ⟨Nat.zero_le _, Nat.zero_le _⟩ rfl (fun H locs hw => ?_)
      refine lv_iconst (v := 2) hx hb d_MO_touch_27 (by decide) ?_
      refine lv_icmp_ge (tgt := 35) hx hb d_MO_touch_28 (by decide) (fun hc => ?_) (fun hc => ?_)
      · have h := oi h hc
        refine lv_iconst (v := 0) hx hb d_MO_touch_35 (by decide) ?_
        have q := Option.some.inj h
        subst q
        exact fw_zret hQ S hr rfl hlk hX hw d_MO_touch_36
      · have h := oe h hc
        refine lv_iconst (v := 1) hx hb d_MO_touch_31 (by decide) ?_
        refine lv_goto (tgt := 36) hx hb d_MO_touch_32 (by decide) ?_
        have q := Option.some.inj h
        subst q
        exact fw_zret hQ S hr rfl hlk hX hw d_MO_touch_36
set_option maxHeartbeats 4000000 in
set_option maxRecDepth 100000 in
theorem ct_MO_thrown (l : Launch) (D : va_G) (ad : Nat → Nat) (cI cL : ClassId) (N : Nat) (th : Int32) (ki : Int32) (ce : Int32) (wi : Int32) (ma : Int32) (fo : Int32) (cu : Nat → Int32) (gr : Nat → Int32) (ru : Nat → Int32) (nu : Nat → Int32) (gv : Nat → Int32) (ca : Nat → Int32) (nw : Nat → Int32) (lo : Nat → Int32) (ke : Nat → Int32) (un : Nat → Int32) (cn : Nat → Int32) (fi : Nat → Int32) (fl : Nat → Int32) (pa : Nat → Int32) (sh : Nat → Int32) (od : Nat → Int32) (bd : Nat → Int32) (bs : Nat → Int32)  (out : Int32) (h : mi_MO_thrown N th = some out) : fw_C l y_MO_thrown (.code y_MO_thrown b_MO_thrown 1 (some .int) :: Gw) (fr 0 0) D vwCl (tyA cI cL) [.ref (ad 0)] (wM ad cI cL th ki ce wi ma fo cu gr ru nu gv ca nw lo ke un cn fi fl pa sh od bd bs) (some (.int out)) (wM ad cI cL th ki ce wi ma fo cu gr ru nu gv ca nw lo ke un cn fi fl pa sh od bd bs) := by
  refine fw_of (by decide) (Nat.le_of_ble_eq_true rfl) ?_
  intro p e s m args below meth c ls A R Q hR hQ S hr hlk hX hA hl hw
  have hK := hX.1
  have hx := S.1
  have hb := S.2.1
  have hown := S.2.2.2.1
  have hg := S.2.2.2.2
  have hl : lv_has ls 1 [(0, .ref (ad 0))] := hl
  unfold mi_MO_thrown at h
  refine lv_aload_n hx hb d_MO_thrown_0 rfl (lv_at hl 0 rfl) ?_
  refine va_get (ci := 6) (v := .int th) (C := R_MO) (T := F_MO) (N := 24) hx hb hg in_MO hown hK hw.1 0 rfl rfl 0 (by decide) (hg _ q_749) (fun _ h9 => h9) rfl d_MO_thrown_1 ?_
  have q := Option.some.inj h
  subst q
  exact fw_iret hQ S hr hlk hX hw d_MO_thrown_4
set_option maxHeartbeats 4000000 in
set_option maxRecDepth 100000 in
theorem ct_MO_allValues (l : Launch) (D : va_G) (ad : Nat → Nat) (cI cL : ClassId) (N : Nat) (th : Int32) (ki : Int32) (ce : Int32) (wi : Int32) (ma : Int32) (fo : Int32) (cu : Nat → Int32) (gr : Nat → Int32) (ru : Nat → Int32) (nu : Nat → Int32) (gv : Nat → Int32) (ca : Nat → Int32) (nw : Nat → Int32) (lo : Nat → Int32) (ke : Nat → Int32) (un : Nat → Int32) (cn : Nat → Int32) (fi : Nat → Int32) (fl : Nat → Int32) (pa : Nat → Int32) (sh : Nat → Int32) (od : Nat → Int32) (bd : Nat → Int32) (bs : Nat → Int32)  (out : Int32) (h : mi_MO_allValues N ki = some out) : fw_C l y_MO_allValues (.code y_MO_allValues b_MO_allValues 1 (some .int) :: Gw) (fr 0 0) D vwCl (tyA cI cL) [.ref (ad 0)] (wM ad cI cL th ki ce wi ma fo cu gr ru nu gv ca nw lo ke un cn fi fl pa sh od bd bs) (some (.int out)) (wM ad cI cL th ki ce wi ma fo cu gr ru nu gv ca nw lo ke un cn fi fl pa sh od bd bs) := by
  refine fw_of (by decide) (Nat.le_of_ble_eq_true rfl) ?_
  intro p e s m args below meth c ls A R Q hR hQ S hr hlk hX hA hl hw
  have hK := hX.1
  have hx := S.1
  have hb := S.2.1
  have hown := S.2.2.2.1
  have hg := S.2.2.2.2
  have hl : lv_has ls 1 [(0, .ref (ad 0))] := hl
  unfold mi_MO_allValues at h
  refine lv_aload_n hx hb d_MO_allValues_0 rfl (lv_at hl 0 rfl) ?_
  refine va_get (ci := 6) (v := .int ki) (C := R_MO) (T := F_MO) (N := 24) hx hb hg in_MO hown hK hw.1 0 rfl rfl 1 (by decide) (hg _ q_750) (fun _ h9 => h9) rfl d_MO_allValues_1 ?_
  refine lv_iconst (v := 1) hx hb d_MO_allValues_4 (by decide) ?_
  refine lv_icmp_ne (tgt := 13) hx hb d_MO_allValues_5 (by decide) (fun hc => ?_) (fun hc => ?_)
  · have h := oe h hc
    refine lv_iconst (v := 3) hx hb d_MO_allValues_13 (by decide) ?_
    have q := Option.some.inj h
    subst q
    exact fw_iret hQ S hr hlk hX hw d_MO_allValues_14
  · have h := oi h hc
    refine lv_bipush (v := 30) hx hb d_MO_allValues_8 (by decide) ?_
    refine lv_goto (tgt := 14) hx hb d_MO_allValues_10 (by decide) ?_
    have q := Option.some.inj h
    subst q
    exact fw_iret hQ S hr hlk hX hw d_MO_allValues_14
set_option maxHeartbeats 4000000 in
set_option maxRecDepth 100000 in
theorem ct_MO_refresh (l : Launch) (D : va_G) (ad : Nat → Nat) (cI cL : ClassId) (N : Nat) (th : Int32) (ki : Int32) (ce : Int32) (wi : Int32) (ma : Int32) (fo : Int32) (cu : Nat → Int32) (gr : Nat → Int32) (ru : Nat → Int32) (nu : Nat → Int32) (gv : Nat → Int32) (ca : Nat → Int32) (nw : Nat → Int32) (lo : Nat → Int32) (ke : Nat → Int32) (un : Nat → Int32) (cn : Nat → Int32) (fi : Nat → Int32) (fl : Nat → Int32) (pa : Nat → Int32) (sh : Nat → Int32) (od : Nat → Int32) (bd : Nat → Int32) (bs : Nat → Int32)  (out : (Nat → Int32)) (h : mi_MO_refresh N ki ce gv ca = some out) : fw_C l y_MO_refresh (.code y_MO_refresh b_MO_refresh 2 (none) :: Gw) (fr 1 20) D vwCl (tyA cI cL) [.ref (ad 0)] (wM ad cI cL th ki ce wi ma fo cu gr ru nu gv ca nw lo ke un cn fi fl pa sh od bd bs) none (wM ad cI cL th ki ce wi ma fo cu gr ru nu gv out nw lo ke un cn fi fl pa sh od bd bs) := by
  refine fw_of (by decide) (Nat.le_of_ble_eq_true rfl) ?_
  intro p e s m args below meth c ls A R Q hR hQ S hr hlk hX hA hl hw
  have hK := hX.1
  have hx := S.1
  have hb := S.2.1
  have hown := S.2.2.2.1
  have hg := S.2.2.2.2
  have hl : lv_has ls 2 [(0, .ref (ad 0))] := hl
  unfold mi_MO_refresh at h
  refine lv_iconst (v := 0) hx hb d_MO_refresh_0 (by decide) ?_
  refine lv_istore_n (lv' := [(1, .int (0 : Int32)), (0, .ref (ad 0))]) hx hb d_MO_refresh_1 rfl hl (by decide) rfl (fun ls hl => ?_)
  have X2 : ∀ (y2 : Int32 × (Nat → Int32)), mr_MO_refresh_2 y2 = some out → ∀ (ls : Array Slot) (H : Heap) (locs : List Loc), lv_has ls 2 [] → fw_H D vwCl A s.heap (wM ad cI cL th ki ce wi ma fo cu gr ru nu gv y2.2 nw lo ke un cn fi fl pa sh od bd bs) H locs → W p l e R s m args below meth c H locs 0 0 Q (F0 m 47 ls []) := by
    intro y2 h ls H locs hl hw
    unfold mr_MO_refresh_2 at h
    have q := Option.some.inj h
    subst q
    exact fw_vret hQ S hr hlk hX hw d_MO_refresh_47
  have L2 : ∀ (n2 : Nat) (x2 : Int32 × (Nat → Int32)) (e2 : Int32 × (Nat → Int32)), lp (mb_MO_refresh_2 N ki ce gv) n2 x2 = some e2 → (mr_MO_refresh_2) e2 = some out → ∀ (ls : Array Slot) (H : Heap) (locs : List Loc), lv_has ls 2 [(0, .ref (ad 0)), (1, .int x2.1)] → fw_H D vwCl A s.heap (wM ad cI cL th ki ce wi ma fo cu gr ru nu gv x2.2 nw lo ke un cn fi fl pa sh od bd bs) H locs → W p l e R s m args below meth c H locs 0 0 Q (F0 m 2 ls []) := by
    intro n2
    induction n2 with
    | zero => intro x2 e2 h1; exact absurd h1 lp_0
    | succ n2 ih2 =>
      intro x2 e2 h1 hr2 ls H locs hl hw
      rw [lp_s] at h1
      refine ob h1 (fun r2 h hk2 => ?_)
      unfold mb_MO_refresh_2 at h
      refine lv_iload_n hx hb d_MO_refresh_2 rfl (lv_at hl 1 rfl) ?_
      refine lv_aload_n hx hb d_MO_refresh_3 rfl (lv_at hl 0 rfl) ?_
      refine va_get (ci := 6) (v := .int ce) (C := R_MO) (T := F_MO) (N := 24) hx hb hg in_MO hown hK hw.1 0 rfl rfl 2 (by decide) (hg _ q_751) (fun _ h9 => h9) rfl d_MO_refresh_4 ?_
      refine lv_icmp_ge (tgt := 47) hx hb d_MO_refresh_7 (by decide) (fun hc => ?_) (fun hc => ?_)
      · have h := oi h hc
        have q := Option.some.inj h
        subst q
        have q := Option.some.inj hk2
        subst q
        exact X2 (x2.1, x2.2) hr2 _ _ _ (lv_sub hl [] rfl) hw
      · have h := oe h hc
        refine lv_aload_n hx hb d_MO_refresh_10 rfl (lv_at hl 0 rfl) ?_
        refine va_get (ci := 6) (v := .ref (ad 6)) (C := R_MO) (T := F_MO) (N := 24) hx hb hg in_MO hown hK hw.1 0 rfl rfl 9 (by decide) (hg _ q_758) (fun _ h9 => h9) rfl d_MO_refresh_11 ?_
        refine lv_iload_n hx hb d_MO_refresh_14 rfl (lv_at hl 1 rfl) ?_
        refine lv_aload_n hx hb d_MO_refresh_15 rfl (lv_at hl 0 rfl) ?_
        refine va_get (ci := 6) (v := .ref (ad 5)) (C := R_MO) (T := F_MO) (N := 24) hx hb hg in_MO hown hK hw.1 0 rfl rfl 8 (by decide) (hg _ q_757) (fun _ h9 => h9) rfl d_MO_refresh_16 ?_
        refine lv_iload_n hx hb d_MO_refresh_19 rfl (lv_at hl 1 rfl) ?_
        refine oc h (fun hc1 h => ?_)
        refine va_iald hx hb hK hw.1 5 0 rfl rfl hc1 d_MO_refresh_20 ?_
        refine lv_iconst (v := (-1)) hx hb d_MO_refresh_21 (by decide) ?_
        refine lv_icmp_ne (tgt := 32) hx hb d_MO_refresh_22 (by decide) (fun hc => ?_) (fun hc => ?_)
        · have h := oe h hc
          refine lv_iconst (v := 1) hx hb d_MO_refresh_32 (by decide) ?_
          refine lv_aload_n hx hb d_MO_refresh_33 rfl (lv_at hl 0 rfl) ?_
          refine va_get (ci := 6) (v := .ref (ad 5)) (C := R_MO) (T := F_MO) (N := 24) hx hb hg in_MO hown hK hw.1 0 rfl rfl 8 (by decide) (hg _ q_757) (fun _ h9 => h9) rfl d_MO_refresh_34 ?_
          refine lv_iload_n hx hb d_MO_refresh_37 rfl (lv_at hl 1 rfl) ?_
          refine va_iald hx hb hK hw.1 5 0 rfl rfl hc1 d_MO_refresh_38 ?_
          refine lv_ishl hx hb d_MO_refresh_39 ?_
          refine va_iast hx hb hK hw.1 hw.2.1 hw.2.2 6 0 rfl rfl hc1 d_MO_refresh_40 (fun H locs hP hD hS => ?_)
          have hw : fw_H D vwCl A s.heap (wM ad cI cL th ki ce wi ma fo cu gr ru nu gv (upd x2.2 x2.1.toNatClampNeg ((1 : Int32) <<< ((gv x2.1.toNatClampNeg) &&& 31))) nw lo ke un cn fi fl pa sh od bd bs) H locs := ⟨hP, hD, hS⟩
          refine lv_iinc (k := 1) (v := x2.1 + 1) (lv' := [(1, .int (x2.1 + 1)), (0, .ref (ad 0))]) hx hb d_MO_refresh_41 hl rfl (by rw [lit1]) (by decide) rfl (fun ls hl => ?_)
          refine lv_goto (tgt := 2) hx hb d_MO_refresh_44 (by decide) ?_
          have q := Option.some.inj h
          subst q
          exact ih2 (x2.1 + 1, upd x2.2 x2.1.toNatClampNeg ((1 : Int32) <<< ((gv x2.1.toNatClampNeg) &&& 31))) e2 hk2 hr2 _ _ _ (lv_sub hl [1, 0] rfl) hw
        · have h := oi h hc
          refine lv_aload_n hx hb d_MO_refresh_25 rfl (lv_at hl 0 rfl) ?_
          refine ob h (fun r26 h26 h => ?_)
          refine fw_callV (As := []) (rest := [.int x2.1, .ref (ad 6)]) (st1 := [.int r26, .int x2.1, .ref (ad 6)]) S (ct_MO_allValues l D ad cI cL N th ki ce wi ma fo cu gr ru nu gv x2.2 nw lo ke un cn fi fl pa sh od bd bs r26 h26) q_745 q_747 s_19 q_10 k_MO_allValues hd_MO_allValues ⟨by rw [hR]; decide, by rw [hR]; decide⟩ rfl rfl hX hw hA 0 (ci := 6) rfl rfl hl.1 rfl rfl (Nat.le_of_ble_eq_true rfl) d_MO_refresh_26 ⟨Nat.zero_le _, Nat.zero_le _⟩ rfl (fun H locs hw => ?_)
          refine lv_goto (tgt := 40) hx hb d_MO_refresh_29 (by decide) ?_
          refine va_iast hx hb hK hw.1 hw.2.1 hw.2.2 6 0 rfl rfl hc1 d_MO_refresh_40 (fun H locs hP hD hS => ?_)
          have hw : fw_H D vwCl A s.heap (wM ad cI cL th ki ce wi ma fo cu gr ru nu gv (upd x2.2 x2.1.toNatClampNeg r26) nw lo ke un cn fi fl pa sh od bd bs) H locs := ⟨hP, hD, hS⟩
          refine lv_iinc (k := 1) (v := x2.1 + 1) (lv' := [(1, .int (x2.1 + 1)), (0, .ref (ad 0))]) hx hb d_MO_refresh_41 hl rfl (by rw [lit1]) (by decide) rfl (fun ls hl => ?_)
          refine lv_goto (tgt := 2) hx hb d_MO_refresh_44 (by decide) ?_
          have q := Option.some.inj h
          subst q
          exact ih2 (x2.1 + 1, upd x2.2 x2.1.toNatClampNeg r26) e2 hk2 hr2 _ _ _ (lv_sub hl [1, 0] rfl) hw
  refine ob h (fun e2 h1 h2 => ?_)
  exact L2 N ((0 : Int32), ca) e2 h1 h2 _ _ _ (lv_sub hl [1, 0] rfl) hw
set_option maxHeartbeats 4000000 in
set_option maxRecDepth 100000 in
theorem ct_MO_begin (l : Launch) (D : va_G) (ad : Nat → Nat) (cI cL : ClassId) (N : Nat) (th : Int32) (ki : Int32) (ce : Int32) (wi : Int32) (ma : Int32) (fo : Int32) (cu : Nat → Int32) (gr : Nat → Int32) (ru : Nat → Int32) (nu : Nat → Int32) (gv : Nat → Int32) (ca : Nat → Int32) (nw : Nat → Int32) (lo : Nat → Int32) (ke : Nat → Int32) (un : Nat → Int32) (cn : Nat → Int32) (fi : Nat → Int32) (fl : Nat → Int32) (pa : Nat → Int32) (sh : Nat → Int32) (od : Nat → Int32) (bd : Nat → Int32) (bs : Nat → Int32) (u1 : Int32) (out : Int32 × Int32 × Int32 × (Nat → Int32) × (Nat → Int32) × (Nat → Int32) × (Nat → Int32) × (Nat → Int32) × (Nat → Int32)) (h : mi_MO_begin N ki ce wi cu gr ru nu gv ca u1 = some out) : fw_C l y_MO_begin (.code y_MO_begin b_MO_begin 3 (none) :: Gw) (fr 2 41) D vwCl (tyA cI cL) [.ref (ad 0), .int u1] (wM ad cI cL th ki ce wi ma fo cu gr ru nu gv ca nw lo ke un cn fi fl pa sh od bd bs) none (wM ad cI cL th out.1 out.2.1 out.2.2.1 ma fo out.2.2.2.1 out.2.2.2.2.1 out.2.2.2.2.2.1 out.2.2.2.2.2.2.1 out.2.2.2.2.2.2.2.1 out.2.2.2.2.2.2.2.2 nw lo ke un cn fi fl pa sh od bd bs) := by
  refine fw_of (by decide) (Nat.le_of_ble_eq_true rfl) ?_
  intro p e s m args below meth c ls A R Q hR hQ S hr hlk hX hA hl hw
  have hK := hX.1
  have hx := S.1
  have hb := S.2.1
  have hown := S.2.2.2.1
  have hg := S.2.2.2.2
  have hl : lv_has ls 3 [(0, .ref (ad 0)), (1, .int u1)] := hl
  unfold mi_MO_begin at h
  refine lv_aload_n hx hb d_MO_begin_0 rfl (lv_at hl 0 rfl) ?_
  refine lv_iload_n hx hb d_MO_begin_1 rfl (lv_at hl 1 rfl) ?_
  refine va_put (ci := 6) (v := .int u1) (ty := .int) (C := R_MO) (T := F_MO) (N := 24) hx hb hg in_MO t_MO t_MO_ok n_MO hown hK hw.1 hw.2.1 hw.2.2 0 rfl rfl 1 (by decide) (hg _ q_750) (fun _ h9 => h9) rfl (by decide +kernel) rfl rfl (Nat.le_of_ble_eq_true rfl) d_MO_begin_2 (fun H locs hP hD hS => ?_)
  have hw : fw_H D vwCl A s.heap (wM ad cI cL th u1 ce wi ma fo cu gr ru nu gv ca nw lo ke un cn fi fl pa sh od bd bs) H locs := ⟨hP, hD, hS⟩
  refine lv_aload_n hx hb d_MO_begin_5 rfl (lv_at hl 0 rfl) ?_
  refine lv_aload_n hx hb d_MO_begin_6 rfl (lv_at hl 0 rfl) ?_
  refine va_get (ci := 6) (v := .int u1) (C := R_MO) (T := F_MO) (N := 24) hx hb hg in_MO hown hK hw.1 0 rfl rfl 1 (by decide) (hg _ q_750) (fun _ h9 => h9) rfl d_MO_begin_7 ?_
  refine lv_iconst (v := 1) hx hb d_MO_begin_10 (by decide) ?_
  have J19 : ∀ (j19s1 : Int32), mj_MO_begin_19 N cu gr ru nu gv ca u1 j19s1 = some out → ∀ (ls : Array Slot) (H : Heap) (locs : List Loc), lv_has ls 3 [(0, .ref (ad 0))] → fw_H D vwCl A s.heap (wM ad cI cL th u1 ce wi ma fo cu gr ru nu gv ca nw lo ke un cn fi fl pa sh od bd bs) H locs → W p l e R s m args below meth c H locs 0 0 Q (F0 m 19 ls [.int j19s1, .ref (ad 0)]) := by
    intro j19s1 h ls H locs hl hw
    unfold mj_MO_begin_19 at h
    refine va_put (ci := 6) (v := .int j19s1) (ty := .int) (C := R_MO) (T := F_MO) (N := 24) hx hb hg in_MO t_MO t_MO_ok n_MO hown hK hw.1 hw.2.1 hw.2.2 0 rfl rfl 3 (by decide) (hg _ q_752) (fun _ h9 => h9) rfl (by decide +kernel) rfl rfl (Nat.le_of_ble_eq_true rfl) d_MO_begin_19 (fun H locs hP hD hS => ?_)
    have hw : fw_H D vwCl A s.heap (wM ad cI cL th u1 ce j19s1 ma fo cu gr ru nu gv ca nw lo ke un cn fi fl pa sh od bd bs) H locs := ⟨hP, hD, hS⟩
    refine lv_aload_n hx hb d_MO_begin_22 rfl (lv_at hl 0 rfl) ?_
    refine lv_aload_n hx hb d_MO_begin_23 rfl (lv_at hl 0 rfl) ?_
    refine va_get (ci := 6) (v := .int j19s1) (C := R_MO) (T := F_MO) (N := 24) hx hb hg in_MO hown hK hw.1 0 rfl rfl 3 (by decide) (hg _ q_752) (fun _ h9 => h9) rfl d_MO_begin_24 ?_
    refine lv_aload_n hx hb d_MO_begin_27 rfl (lv_at hl 0 rfl) ?_
    refine va_get (ci := 6) (v := .int j19s1) (C := R_MO) (T := F_MO) (N := 24) hx hb hg in_MO hown hK hw.1 0 rfl rfl 3 (by decide) (hg _ q_752) (fun _ h9 => h9) rfl d_MO_begin_28 ?_
    refine lv_imul hx hb d_MO_begin_31 ?_
    refine va_put (ci := 6) (v := .int (j19s1 * j19s1)) (ty := .int) (C := R_MO) (T := F_MO) (N := 24) hx hb hg in_MO t_MO t_MO_ok n_MO hown hK hw.1 hw.2.1 hw.2.2 0 rfl rfl 2 (by decide) (hg _ q_751) (fun _ h9 => h9) rfl (by decide +kernel) rfl rfl (Nat.le_of_ble_eq_true rfl) d_MO_begin_32 (fun H locs hP hD hS => ?_)
    have hw : fw_H D vwCl A s.heap (wM ad cI cL th u1 (j19s1 * j19s1) j19s1 ma fo cu gr ru nu gv ca nw lo ke un cn fi fl pa sh od bd bs) H locs := ⟨hP, hD, hS⟩
    refine lv_iconst (v := 0) hx hb d_MO_begin_35 (by decide) ?_
    refine lv_istore_n (lv' := [(2, .int (0 : Int32)), (0, .ref (ad 0))]) hx hb d_MO_begin_36 rfl hl (by decide) rfl (fun ls hl => ?_)
    have X37 : ∀ (y37 : Int32 × (Nat → Int32)), mr_MO_begin_37 N gr ru nu gv ca u1 j19s1 y37 = some out → ∀ (ls : Array Slot) (H : Heap) (locs : List Loc), lv_has ls 3 [(0, .ref (ad 0))] → fw_H D vwCl A s.heap (wM ad cI cL th u1 (j19s1 * j19s1) j19s1 ma fo y37.2 gr ru nu gv ca nw lo ke un cn fi fl pa sh od bd bs) H locs → W p l e R s m args below meth c H locs 0 0 Q (F0 m 56 ls []) := by
      intro y37 h ls H locs hl hw
      unfold mr_MO_begin_37 at h
      refine lv_iconst (v := 0) hx hb d_MO_begin_56 (by decide) ?_
      refine lv_istore_n (lv' := [(2, .int (0 : Int32)), (0, .ref (ad 0))]) hx hb d_MO_begin_57 rfl hl (by decide) rfl (fun ls hl => ?_)
      have X58 : ∀ (y58 : Int32 × (Nat → Int32) × (Nat → Int32)), mr_MO_begin_58 N gr gv ca u1 j19s1 y37 y58 = some out → ∀ (ls : Array Slot) (H : Heap) (locs : List Loc), lv_has ls 3 [(0, .ref (ad 0))] → fw_H D vwCl A s.heap (wM ad cI cL th u1 (j19s1 * j19s1) j19s1 ma fo y37.2 gr y58.2.1 y58.2.2 gv ca nw lo ke un cn fi fl pa sh od bd bs) H locs → W p l e R s m args below meth c H locs 0 0 Q (F0 m 84 ls []) := by
        intro y58 h ls H locs hl hw
        unfold mr_MO_begin_58 at h
        refine lv_iconst (v := 0) hx hb d_MO_begin_84 (by decide) ?_
        refine lv_istore_n (lv' := [(2, .int (0 : Int32)), (0, .ref (ad 0))]) hx hb d_MO_begin_85 rfl hl (by decide) rfl (fun ls hl => ?_)
        have X86 : ∀ (y86 : Int32 × (Nat → Int32) × (Nat → Int32)), mr_MO_begin_86 N ca u1 j19s1 y37 y58 y86 = some out → ∀ (ls : Array Slot) (H : Heap) (locs : List Loc), lv_has ls 3 [(0, .ref (ad 0))] → fw_H D vwCl A s.heap (wM ad cI cL th u1 (j19s1 * j19s1) j19s1 ma fo y37.2 y86.2.1 y58.2.1 y58.2.2 y86.2.2 ca nw lo ke un cn fi fl pa sh od bd bs) H locs → W p l e R s m args below meth c H locs 0 0 Q (F0 m 126 ls []) := by
          intro y86 h ls H locs hl hw
          unfold mr_MO_begin_86 at h
          refine lv_aload_n hx hb d_MO_begin_126 rfl (lv_at hl 0 rfl) ?_
          refine ob h (fun r127 h127 h => ?_)
          refine fw_callV (As := []) (rest := []) (st1 := []) S (ct_MO_refresh l D ad cI cL N th u1 (j19s1 * j19s1) j19s1 ma fo y37.2 y86.2.1 y58.2.1 y58.2.2 y86.2.2 ca nw lo ke un cn fi fl pa sh od bd bs r127 h127) q_741 q_743 s_18 q_10 k_MO_refresh hd_MO_refresh ⟨by rw [hR]; decide, by rw [hR]; decide⟩ rfl rfl hX hw hA 0 (ci := 6) rfl rfl hl.1 rfl rfl (Nat.le_of_ble_eq_true rfl) d_MO_begin_127 ⟨Nat.zero_le _, Nat.zero_le _⟩ rfl (fun H locs hw => ?_)
          have q := Option.some.inj h
          subst q
          exact fw_vret hQ S hr hlk hX hw d_MO_begin_130
        have L86 : ∀ (n86 : Nat) (x86 : Int32 × (Nat → Int32) × (Nat → Int32)) (e86 : Int32 × (Nat → Int32) × (Nat → Int32)), lp (mb_MO_begin_86 u1) n86 x86 = some e86 → (mr_MO_begin_86 N ca u1 j19s1 y37 y58) e86 = some out → ∀ (ls : Array Slot) (H : Heap) (locs : List Loc), lv_has ls 3 [(0, .ref (ad 0)), (2, .int x86.1)] → fw_H D vwCl A s.heap (wM ad cI cL th u1 (j19s1 * j19s1) j19s1 ma fo y37.2 x86.2.1 y58.2.1 y58.2.2 x86.2.2 ca nw lo ke un cn fi fl pa sh od bd bs) H locs → W p l e R s m args below meth c H locs 0 0 Q (F0 m 86 ls []) := by
          intro n86
          induction n86 with
          | zero => intro x86 e86 h1; exact absurd h1 lp_0
          | succ n86 ih86 =>
            intro x86 e86 h1 hr86 ls H locs hl hw
            rw [lp_s] at h1
            refine ob h1 (fun r86 h hk86 => ?_)
            unfold mb_MO_begin_86 at h
            refine lv_iload_n hx hb d_MO_begin_86 rfl (lv_at hl 1 rfl) ?_
            refine lv_bipush (v := 25) hx hb d_MO_begin_87 (by decide) ?_
            refine lv_icmp_ge (tgt := 126) hx hb d_MO_begin_89 (by decide) (fun hc => ?_) (fun hc => ?_)
            · have h := oi h hc
              have q := Option.some.inj h
              subst q
              have q := Option.some.inj hk86
              subst q
              exact X86 (x86.1, x86.2.1, x86.2.2) hr86 _ _ _ (lv_sub hl [0] rfl) hw
            · have h := oe h hc
              refine lv_aload_n hx hb d_MO_begin_92 rfl (lv_at hl 0 rfl) ?_
              refine va_get (ci := 6) (v := .ref (ad 2)) (C := R_MO) (T := F_MO) (N := 24) hx hb hg in_MO hown hK hw.1 0 rfl rfl 5 (by decide) (hg _ q_754) (fun _ h9 => h9) rfl d_MO_begin_93 ?_
              refine lv_iload_n hx hb d_MO_begin_96 rfl (lv_at hl 1 rfl) ?_
              refine lv_aload_n hx hb d_MO_begin_97 rfl (lv_at hl 0 rfl) ?_
              refine va_get (ci := 6) (v := .int u1) (C := R_MO) (T := F_MO) (N := 24) hx hb hg in_MO hown hK hw.1 0 rfl rfl 1 (by decide) (hg _ q_750) (fun _ h9 => h9) rfl d_MO_begin_98 ?_
              refine lv_iconst (v := 1) hx hb d_MO_begin_101 (by decide) ?_
              have J112 : ∀ (j112s2 : Int32), mj_MO_begin_112 x86 j112s2 = some r86 → ∀ (ls : Array Slot) (H : Heap) (locs : List Loc), lv_has ls 3 [(0, .ref (ad 0)), (2, .int x86.1)] → fw_H D vwCl A s.heap (wM ad cI cL th u1 (j19s1 * j19s1) j19s1 ma fo y37.2 x86.2.1 y58.2.1 y58.2.2 x86.2.2 ca nw lo ke un cn fi fl pa sh od bd bs) H locs → W p l e R s m args below meth c H locs 0 0 Q (F0 m 112 ls [.int j112s2, .int x86.1, .ref (ad 2)]) := by
                intro j112s2 h ls H locs hl hw
                unfold mj_MO_begin_112 at h
                refine oc h (fun hc1 h => ?_)
                refine va_iast hx hb hK hw.1 hw.2.1 hw.2.2 2 0 rfl rfl hc1 d_MO_begin_112 (fun H locs hP hD hS => ?_)
                have hw : fw_H D vwCl A s.heap (wM ad cI cL th u1 (j19s1 * j19s1) j19s1 ma fo y37.2 (upd x86.2.1 x86.1.toNatClampNeg j112s2) y58.2.1 y58.2.2 x86.2.2 ca nw lo ke un cn fi fl pa sh od bd bs) H locs := ⟨hP, hD, hS⟩
                refine lv_aload_n hx hb d_MO_begin_113 rfl (lv_at hl 0 rfl) ?_
                refine va_get (ci := 6) (v := .ref (ad 5)) (C := R_MO) (T := F_MO) (N := 24) hx hb hg in_MO hown hK hw.1 0 rfl rfl 8 (by decide) (hg _ q_757) (fun _ h9 => h9) rfl d_MO_begin_114 ?_
                refine lv_iload_n hx hb d_MO_begin_117 rfl (lv_at hl 1 rfl) ?_
                refine lv_iconst (v := (-1)) hx hb d_MO_begin_118 (by decide) ?_
                refine va_iast hx hb hK hw.1 hw.2.1 hw.2.2 5 0 rfl rfl hc1 d_MO_begin_119 (fun H locs hP hD hS => ?_)
                have hw : fw_H D vwCl A s.heap (wM ad cI cL th u1 (j19s1 * j19s1) j19s1 ma fo y37.2 (upd x86.2.1 x86.1.toNatClampNeg j112s2) y58.2.1 y58.2.2 (upd x86.2.2 x86.1.toNatClampNeg (-1 : Int32)) ca nw lo ke un cn fi fl pa sh od bd bs) H locs := ⟨hP, hD, hS⟩
                refine lv_iinc (k := 1) (v := x86.1 + 1) (lv' := [(2, .int (x86.1 + 1)), (0, .ref (ad 0))]) hx hb d_MO_begin_120 hl rfl (by rw [lit1]) (by decide) rfl (fun ls hl => ?_)
                refine lv_goto (tgt := 86) hx hb d_MO_begin_123 (by decide) ?_
                have q := Option.some.inj h
                subst q
                exact ih86 (x86.1 + 1, upd x86.2.1 x86.1.toNatClampNeg j112s2, upd x86.2.2 x86.1.toNatClampNeg (-1 : Int32)) e86 hk86 hr86 _ _ _ (lv_sub hl [1, 0] rfl) hw
              refine lv_icmp_ne (tgt := 109) hx hb d_MO_begin_102 (by decide) (fun hc => ?_) (fun hc => ?_)
              · have h := oe h hc
                refine lv_iload_n hx hb d_MO_begin_109 rfl (lv_at hl 1 rfl) ?_
                refine lv_iconst (v := 5) hx hb d_MO_begin_110 (by decide) ?_
                refine lv_idiv hx hb d_MO_begin_111 (by decide) ?_
                exact J112 (x86.1 / (5 : Int32)) h _ _ _ hl hw
              · have h := oi h hc
                refine lv_iload_n hx hb d_MO_begin_105 rfl (lv_at hl 1 rfl) ?_
                refine lv_goto (tgt := 112) hx hb d_MO_begin_106 (by decide) ?_
                exact J112 x86.1 h _ _ _ hl hw
        refine ob h (fun e86 h1 h2 => ?_)
        exact L86 N ((0 : Int32), gr, gv) e86 h1 h2 _ _ _ (lv_sub hl [1, 0] rfl) hw
      have L58 : ∀ (n58 : Nat) (x58 : Int32 × (Nat → Int32) × (Nat → Int32)) (e58 : Int32 × (Nat → Int32) × (Nat → Int32)), lp (mb_MO_begin_58) n58 x58 = some e58 → (mr_MO_begin_58 N gr gv ca u1 j19s1 y37) e58 = some out → ∀ (ls : Array Slot) (H : Heap) (locs : List Loc), lv_has ls 3 [(0, .ref (ad 0)), (2, .int x58.1)] → fw_H D vwCl A s.heap (wM ad cI cL th u1 (j19s1 * j19s1) j19s1 ma fo y37.2 gr x58.2.1 x58.2.2 gv ca nw lo ke un cn fi fl pa sh od bd bs) H locs → W p l e R s m args below meth c H locs 0 0 Q (F0 m 58 ls []) := by
        intro n58
        induction n58 with
        | zero => intro x58 e58 h1; exact absurd h1 lp_0
        | succ n58 ih58 =>
          intro x58 e58 h1 hr58 ls H locs hl hw
          rw [lp_s] at h1
          refine ob h1 (fun r58 h hk58 => ?_)
          unfold mb_MO_begin_58 at h
          refine lv_iload_n hx hb d_MO_begin_58 rfl (lv_at hl 1 rfl) ?_
          refine lv_bipush (v := 16) hx hb d_MO_begin_59 (by decide) ?_
          refine lv_icmp_ge (tgt := 84) hx hb d_MO_begin_61 (by decide) (fun hc => ?_) (fun hc => ?_)
          · have h := oi h hc
            have q := Option.some.inj h
            subst q
            have q := Option.some.inj hk58
            subst q
            exact X58 (x58.1, x58.2.1, x58.2.2) hr58 _ _ _ (lv_sub hl [0] rfl) hw
          · have h := oe h hc
            refine lv_aload_n hx hb d_MO_begin_64 rfl (lv_at hl 0 rfl) ?_
            refine va_get (ci := 6) (v := .ref (ad 3)) (C := R_MO) (T := F_MO) (N := 24) hx hb hg in_MO hown hK hw.1 0 rfl rfl 6 (by decide) (hg _ q_755) (fun _ h9 => h9) rfl d_MO_begin_65 ?_
            refine lv_iload_n hx hb d_MO_begin_68 rfl (lv_at hl 1 rfl) ?_
            refine lv_iconst (v := 0) hx hb d_MO_begin_69 (by decide) ?_
            refine oc h (fun hc2 h => ?_)
            refine va_iast hx hb hK hw.1 hw.2.1 hw.2.2 3 0 rfl rfl hc2 d_MO_begin_70 (fun H locs hP hD hS => ?_)
            have hw : fw_H D vwCl A s.heap (wM ad cI cL th u1 (j19s1 * j19s1) j19s1 ma fo y37.2 gr (upd x58.2.1 x58.1.toNatClampNeg (0 : Int32)) x58.2.2 gv ca nw lo ke un cn fi fl pa sh od bd bs) H locs := ⟨hP, hD, hS⟩
            refine lv_aload_n hx hb d_MO_begin_71 rfl (lv_at hl 0 rfl) ?_
            refine va_get (ci := 6) (v := .ref (ad 4)) (C := R_MO) (T := F_MO) (N := 24) hx hb hg in_MO hown hK hw.1 0 rfl rfl 7 (by decide) (hg _ q_756) (fun _ h9 => h9) rfl d_MO_begin_72 ?_
            refine lv_iload_n hx hb d_MO_begin_75 rfl (lv_at hl 1 rfl) ?_
            refine lv_iconst (v := 0) hx hb d_MO_begin_76 (by decide) ?_
            refine va_iast hx hb hK hw.1 hw.2.1 hw.2.2 4 0 rfl rfl hc2 d_MO_begin_77 (fun H locs hP hD hS => ?_)
            have hw : fw_H D vwCl A s.heap (wM ad cI cL th u1 (j19s1 * j19s1) j19s1 ma fo y37.2 gr (upd x58.2.1 x58.1.toNatClampNeg (0 : Int32)) (upd x58.2.2 x58.1.toNatClampNeg (0 : Int32)) gv ca nw lo ke un cn fi fl pa sh od bd bs) H locs := ⟨hP, hD, hS⟩
            refine lv_iinc (k := 1) (v := x58.1 + 1) (lv' := [(2, .int (x58.1 + 1)), (0, .ref (ad 0))]) hx hb d_MO_begin_78 hl rfl (by rw [lit1]) (by decide) rfl (fun ls hl => ?_)
            refine lv_goto (tgt := 58) hx hb d_MO_begin_81 (by decide) ?_
            have q := Option.some.inj h
            subst q
            exact ih58 (x58.1 + 1, upd x58.2.1 x58.1.toNatClampNeg (0 : Int32), upd x58.2.2 x58.1.toNatClampNeg (0 : Int32)) e58 hk58 hr58 _ _ _ (lv_sub hl [1, 0] rfl) hw
      refine ob h (fun e58 h1 h2 => ?_)
      exact L58 N ((0 : Int32), ru, nu) e58 h1 h2 _ _ _ (lv_sub hl [1, 0] rfl) hw
    have L37 : ∀ (n37 : Nat) (x37 : Int32 × (Nat → Int32)) (e37 : Int32 × (Nat → Int32)), lp (mb_MO_begin_37) n37 x37 = some e37 → (mr_MO_begin_37 N gr ru nu gv ca u1 j19s1) e37 = some out → ∀ (ls : Array Slot) (H : Heap) (locs : List Loc), lv_has ls 3 [(0, .ref (ad 0)), (2, .int x37.1)] → fw_H D vwCl A s.heap (wM ad cI cL th u1 (j19s1 * j19s1) j19s1 ma fo x37.2 gr ru nu gv ca nw lo ke un cn fi fl pa sh od bd bs) H locs → W p l e R s m args below meth c H locs 0 0 Q (F0 m 37 ls []) := by
      intro n37
      induction n37 with
      | zero => intro x37 e37 h1; exact absurd h1 lp_0
      | succ n37 ih37 =>
        intro x37 e37 h1 hr37 ls H locs hl hw
        rw [lp_s] at h1
        refine ob h1 (fun r37 h hk37 => ?_)
        unfold mb_MO_begin_37 at h
        refine lv_iload_n hx hb d_MO_begin_37 rfl (lv_at hl 1 rfl) ?_
        refine lv_bipush (v := 10) hx hb d_MO_begin_38 (by decide) ?_
        refine lv_icmp_ge (tgt := 56) hx hb d_MO_begin_40 (by decide) (fun hc => ?_) (fun hc => ?_)
        · have h := oi h hc
          have q := Option.some.inj h
          subst q
          have q := Option.some.inj hk37
          subst q
          exact X37 (x37.1, x37.2) hr37 _ _ _ (lv_sub hl [0] rfl) hw
        · have h := oe h hc
          refine lv_aload_n hx hb d_MO_begin_43 rfl (lv_at hl 0 rfl) ?_
          refine va_get (ci := 6) (v := .ref (ad 1)) (C := R_MO) (T := F_MO) (N := 24) hx hb hg in_MO hown hK hw.1 0 rfl rfl 4 (by decide) (hg _ q_753) (fun _ h9 => h9) rfl d_MO_begin_44 ?_
          refine lv_iload_n hx hb d_MO_begin_47 rfl (lv_at hl 1 rfl) ?_
          refine lv_iconst (v := 0) hx hb d_MO_begin_48 (by decide) ?_
          refine oc h (fun hc3 h => ?_)
          refine va_iast hx hb hK hw.1 hw.2.1 hw.2.2 1 0 rfl rfl hc3 d_MO_begin_49 (fun H locs hP hD hS => ?_)
          have hw : fw_H D vwCl A s.heap (wM ad cI cL th u1 (j19s1 * j19s1) j19s1 ma fo (upd x37.2 x37.1.toNatClampNeg (0 : Int32)) gr ru nu gv ca nw lo ke un cn fi fl pa sh od bd bs) H locs := ⟨hP, hD, hS⟩
          refine lv_iinc (k := 1) (v := x37.1 + 1) (lv' := [(2, .int (x37.1 + 1)), (0, .ref (ad 0))]) hx hb d_MO_begin_50 hl rfl (by rw [lit1]) (by decide) rfl (fun ls hl => ?_)
          refine lv_goto (tgt := 37) hx hb d_MO_begin_53 (by decide) ?_
          have q := Option.some.inj h
          subst q
          exact ih37 (x37.1 + 1, upd x37.2 x37.1.toNatClampNeg (0 : Int32)) e37 hk37 hr37 _ _ _ (lv_sub hl [1, 0] rfl) hw
    refine ob h (fun e37 h1 h2 => ?_)
    exact L37 N ((0 : Int32), cu) e37 h1 h2 _ _ _ (lv_sub hl [1, 0] rfl) hw
  refine lv_icmp_ne (tgt := 18) hx hb d_MO_begin_11 (by decide) (fun hc => ?_) (fun hc => ?_)
  · have h := oe h hc
    refine lv_iconst (v := 5) hx hb d_MO_begin_18 (by decide) ?_
    exact J19 (5 : Int32) h _ _ _ (lv_sub hl [0] rfl) hw
  · have h := oi h hc
    refine lv_iconst (v := 4) hx hb d_MO_begin_14 (by decide) ?_
    refine lv_goto (tgt := 19) hx hb d_MO_begin_15 (by decide) ?_
    exact J19 (4 : Int32) h _ _ _ (lv_sub hl [0] rfl) hw
set_option maxHeartbeats 4000000 in
set_option maxRecDepth 100000 in
theorem ct_MO_open (l : Launch) (D : va_G) (ad : Nat → Nat) (cI cL : ClassId) (N : Nat) (th : Int32) (ki : Int32) (ce : Int32) (wi : Int32) (ma : Int32) (fo : Int32) (cu : Nat → Int32) (gr : Nat → Int32) (ru : Nat → Int32) (nu : Nat → Int32) (gv : Nat → Int32) (ca : Nat → Int32) (nw : Nat → Int32) (lo : Nat → Int32) (ke : Nat → Int32) (un : Nat → Int32) (cn : Nat → Int32) (fi : Nat → Int32) (fl : Nat → Int32) (pa : Nat → Int32) (sh : Nat → Int32) (od : Nat → Int32) (bd : Nat → Int32) (bs : Nat → Int32) (u1 : Int32) (out : Int32 × Int32 × Int32 × Int32 × Int32 × (Nat → Int32) × (Nat → Int32) × (Nat → Int32) × (Nat → Int32) × (Nat → Int32) × (Nat → Int32)) (h : mi_MO_open N th ki ce wi cu gr ru nu gv ca u1 = some out) : fw_C l y_MO_open (.code y_MO_open b_MO_open 2 (some .int) :: Gw) (fr 3 63) D vwCl (tyA cI cL) [.ref (ad 0), .int u1] (wM ad cI cL th ki ce wi ma fo cu gr ru nu gv ca nw lo ke un cn fi fl pa sh od bd bs) (some (.int out.1)) (wM ad cI cL out.2.1 out.2.2.1 out.2.2.2.1 out.2.2.2.2.1 ma fo out.2.2.2.2.2.1 out.2.2.2.2.2.2.1 out.2.2.2.2.2.2.2.1 out.2.2.2.2.2.2.2.2.1 out.2.2.2.2.2.2.2.2.2.1 out.2.2.2.2.2.2.2.2.2.2 nw lo ke un cn fi fl pa sh od bd bs) := by
  refine fw_of (by decide) (Nat.le_of_ble_eq_true rfl) ?_
  intro p e s m args below meth c ls A R Q hR hQ S hr hlk hX hA hl hw
  have hK := hX.1
  have hx := S.1
  have hb := S.2.1
  have hown := S.2.2.2.1
  have hg := S.2.2.2.2
  have hl : lv_has ls 2 [(0, .ref (ad 0)), (1, .int u1)] := hl
  unfold mi_MO_open at h
  refine lv_aload_n hx hb d_MO_open_0 rfl (lv_at hl 0 rfl) ?_
  refine lv_iload_n hx hb d_MO_open_1 rfl (lv_at hl 1 rfl) ?_
  have J15 : ∀ (j15s1 : Int32), mj_MO_open_15 N ki ce wi cu gr ru nu gv ca u1 j15s1 = some out → ∀ (ls : Array Slot) (H : Heap) (locs : List Loc), lv_has ls 2 [(0, .ref (ad 0)), (1, .int u1)] → fw_H D vwCl A s.heap (wM ad cI cL th ki ce wi ma fo cu gr ru nu gv ca nw lo ke un cn fi fl pa sh od bd bs) H locs → W p l e R s m args below meth c H locs 0 0 Q (F0 m 15 ls [.int j15s1, .ref (ad 0)]) := by
    intro j15s1 h ls H locs hl hw
    unfold mj_MO_open_15 at h
    refine va_put (ci := 6) (v := .int j15s1) (ty := .int) (C := R_MO) (T := F_MO) (N := 24) hx hb hg in_MO t_MO t_MO_ok n_MO hown hK hw.1 hw.2.1 hw.2.2 0 rfl rfl 0 (by decide) (hg _ q_749) (fun _ h9 => h9) rfl (by decide +kernel) rfl rfl (Nat.le_of_ble_eq_true rfl) d_MO_open_15 (fun H locs hP hD hS => ?_)
    have hw : fw_H D vwCl A s.heap (wM ad cI cL j15s1 ki ce wi ma fo cu gr ru nu gv ca nw lo ke un cn fi fl pa sh od bd bs) H locs := ⟨hP, hD, hS⟩
    refine lv_aload_n hx hb d_MO_open_18 rfl (lv_at hl 0 rfl) ?_
    refine va_get (ci := 6) (v := .int j15s1) (C := R_MO) (T := F_MO) (N := 24) hx hb hg in_MO hown hK hw.1 0 rfl rfl 0 (by decide) (hg _ q_749) (fun _ h9 => h9) rfl d_MO_open_19 ?_
    refine lv_if_eq (tgt := 27) hx hb d_MO_open_22 (by decide) (fun hc => ?_) (fun hc => ?_)
    · have h := oi h hc
      refine lv_aload_n hx hb d_MO_open_27 rfl (lv_at hl 0 rfl) ?_
      refine lv_iload_n hx hb d_MO_open_28 rfl (lv_at hl 1 rfl) ?_
      refine ob h (fun r29 h29 h => ?_)
      refine fw_callV (As := [.int u1]) (rest := []) (st1 := []) S (ct_MO_begin l D ad cI cL N j15s1 ki ce wi ma fo cu gr ru nu gv ca nw lo ke un cn fi fl pa sh od bd bs u1 r29 h29) q_737 q_739 s_17 q_10 k_MO_begin hd_MO_begin ⟨by rw [hR]; decide, by rw [hR]; decide⟩ rfl rfl hX hw hA 0 (ci := 6) rfl rfl hl.1 rfl rfl (Nat.le_of_ble_eq_true rfl) d_MO_open_29 ⟨Nat.zero_le _, Nat.zero_le _⟩ rfl (fun H locs hw => ?_)
      refine lv_aload_n hx hb d_MO_open_32 rfl (lv_at hl 0 rfl) ?_
      refine va_get (ci := 6) (v := .int r29.2.1) (C := R_MO) (T := F_MO) (N := 24) hx hb hg in_MO hown hK hw.1 0 rfl rfl 2 (by decide) (hg _ q_751) (fun _ h9 => h9) rfl d_MO_open_33 ?_
      have q := Option.some.inj h
      subst q
      exact fw_iret hQ S hr hlk hX hw d_MO_open_36
    · have h := oe h hc
      refine lv_iconst (v := 0) hx hb d_MO_open_25 (by decide) ?_
      have q := Option.some.inj h
      subst q
      exact fw_iret hQ S hr hlk hX hw d_MO_open_26
  refine lv_if_lt (tgt := 10) hx hb d_MO_open_2 (by decide) (fun hc => ?_) (fun hc => ?_)
  · have h := oi h hc
    refine lv_iconst (v := 1) hx hb d_MO_open_10 (by decide) ?_
    refine lv_goto (tgt := 15) hx hb d_MO_open_11 (by decide) ?_
    exact J15 (1 : Int32) h _ _ _ hl hw
  · have h := oe h hc
    refine lv_iload_n hx hb d_MO_open_5 rfl (lv_at hl 1 rfl) ?_
    refine lv_iconst (v := 2) hx hb d_MO_open_6 (by decide) ?_
    refine lv_icmp_le (tgt := 14) hx hb d_MO_open_7 (by decide) (fun hc => ?_) (fun hc => ?_)
    · have h := oi h hc
      refine lv_iconst (v := 0) hx hb d_MO_open_14 (by decide) ?_
      exact J15 (0 : Int32) h _ _ _ hl hw
    · have h := oe h hc
      refine lv_iconst (v := 1) hx hb d_MO_open_10 (by decide) ?_
      refine lv_goto (tgt := 15) hx hb d_MO_open_11 (by decide) ?_
      exact J15 (1 : Int32) h _ _ _ hl hw
set_option maxHeartbeats 4000000 in
set_option maxRecDepth 100000 in
theorem ct_MO_kind (l : Launch) (D : va_G) (ad : Nat → Nat) (cI cL : ClassId) (N : Nat) (th : Int32) (ki : Int32) (ce : Int32) (wi : Int32) (ma : Int32) (fo : Int32) (cu : Nat → Int32) (gr : Nat → Int32) (ru : Nat → Int32) (nu : Nat → Int32) (gv : Nat → Int32) (ca : Nat → Int32) (nw : Nat → Int32) (lo : Nat → Int32) (ke : Nat → Int32) (un : Nat → Int32) (cn : Nat → Int32) (fi : Nat → Int32) (fl : Nat → Int32) (pa : Nat → Int32) (sh : Nat → Int32) (od : Nat → Int32) (bd : Nat → Int32) (bs : Nat → Int32)  (out : Int32 × Int32) (h : mi_MO_kind N th ki = some out) : fw_C l y_MO_kind (.code y_MO_kind b_MO_kind 1 (some .int) :: Gw) (fr 0 0) D vwCl (tyA cI cL) [.ref (ad 0)] (wM ad cI cL th ki ce wi ma fo cu gr ru nu gv ca nw lo ke un cn fi fl pa sh od bd bs) (some (.int out.1)) (wM ad cI cL out.2 ki ce wi ma fo cu gr ru nu gv ca nw lo ke un cn fi fl pa sh od bd bs) := by
  refine fw_of (by decide) (Nat.le_of_ble_eq_true rfl) ?_
  intro p e s m args below meth c ls A R Q hR hQ S hr hlk hX hA hl hw
  have hK := hX.1
  have hx := S.1
  have hb := S.2.1
  have hown := S.2.2.2.1
  have hg := S.2.2.2.2
  have hl : lv_has ls 1 [(0, .ref (ad 0))] := hl
  unfold mi_MO_kind at h
  refine lv_aload_n hx hb d_MO_kind_0 rfl (lv_at hl 0 rfl) ?_
  refine lv_iconst (v := 0) hx hb d_MO_kind_1 (by decide) ?_
  refine va_put (ci := 6) (v := .int (0 : Int32)) (ty := .int) (C := R_MO) (T := F_MO) (N := 24) hx hb hg in_MO t_MO t_MO_ok n_MO hown hK hw.1 hw.2.1 hw.2.2 0 rfl rfl 0 (by decide) (hg _ q_749) (fun _ h9 => h9) rfl (by decide +kernel) rfl rfl (Nat.le_of_ble_eq_true rfl) d_MO_kind_2 (fun H locs hP hD hS => ?_)
  have hw : fw_H D vwCl A s.heap (wM ad cI cL (0 : Int32) ki ce wi ma fo cu gr ru nu gv ca nw lo ke un cn fi fl pa sh od bd bs) H locs := ⟨hP, hD, hS⟩
  refine lv_aload_n hx hb d_MO_kind_5 rfl (lv_at hl 0 rfl) ?_
  refine va_get (ci := 6) (v := .int ki) (C := R_MO) (T := F_MO) (N := 24) hx hb hg in_MO hown hK hw.1 0 rfl rfl 1 (by decide) (hg _ q_750) (fun _ h9 => h9) rfl d_MO_kind_6 ?_
  have q := Option.some.inj h
  subst q
  exact fw_iret hQ S hr hlk hX hw d_MO_kind_9
set_option maxHeartbeats 4000000 in
set_option maxRecDepth 100000 in
theorem ct_MO_clue (l : Launch) (D : va_G) (ad : Nat → Nat) (cI cL : ClassId) (N : Nat) (th : Int32) (ki : Int32) (ce : Int32) (wi : Int32) (ma : Int32) (fo : Int32) (cu : Nat → Int32) (gr : Nat → Int32) (ru : Nat → Int32) (nu : Nat → Int32) (gv : Nat → Int32) (ca : Nat → Int32) (nw : Nat → Int32) (lo : Nat → Int32) (ke : Nat → Int32) (un : Nat → Int32) (cn : Nat → Int32) (fi : Nat → Int32) (fl : Nat → Int32) (pa : Nat → Int32) (sh : Nat → Int32) (od : Nat → Int32) (bd : Nat → Int32) (bs : Nat → Int32) (u1 : Int32) (u2 : Int32) (out : Int32 × Int32 × (Nat → Int32) × (Nat → Int32)) (h : mi_MO_clue N th ki ce cu gv ca u1 u2 = some out) : fw_C l y_MO_clue (.code y_MO_clue b_MO_clue 4 (some .int) :: Gw) (fr 2 41) D vwCl (tyA cI cL) [.ref (ad 0), .int u1, .int u2] (wM ad cI cL th ki ce wi ma fo cu gr ru nu gv ca nw lo ke un cn fi fl pa sh od bd bs) (some (.int out.1)) (wM ad cI cL out.2.1 ki ce wi ma fo out.2.2.1 gr ru nu gv out.2.2.2 nw lo ke un cn fi fl pa sh od bd bs) := by
  refine fw_of (by decide) (Nat.le_of_ble_eq_true rfl) ?_
  intro p e s m args below meth c ls A R Q hR hQ S hr hlk hX hA hl hw
  have hK := hX.1
  have hx := S.1
  have hb := S.2.1
  have hown := S.2.2.2.1
  have hg := S.2.2.2.2
  have hl : lv_has ls 4 [(0, .ref (ad 0)), (1, .int u1), (2, .int u2)] := hl
  unfold mi_MO_clue at h
  refine lv_aload_n hx hb d_MO_clue_0 rfl (lv_at hl 0 rfl) ?_
  refine lv_aload_n hx hb d_MO_clue_1 rfl (lv_at hl 0 rfl) ?_
  refine va_get (ci := 6) (v := .int ki) (C := R_MO) (T := F_MO) (N := 24) hx hb hg in_MO hown hK hw.1 0 rfl rfl 1 (by decide) (hg _ q_750) (fun _ h9 => h9) rfl d_MO_clue_2 ?_
  have J38 : ∀ (j38s1 : Int32), mj_MO_clue_38 N ki ce cu gv ca u1 u2 j38s1 = some out → ∀ (ls : Array Slot) (H : Heap) (locs : List Loc), lv_has ls 4 [(0, .ref (ad 0)), (1, .int u1), (2, .int u2)] → fw_H D vwCl A s.heap (wM ad cI cL th ki ce wi ma fo cu gr ru nu gv ca nw lo ke un cn fi fl pa sh od bd bs) H locs → W p l e R s m args below meth c H locs 0 0 Q (F0 m 38 ls [.int j38s1, .ref (ad 0)]) := by
    intro j38s1 h ls H locs hl hw
    unfold mj_MO_clue_38 at h
    refine va_put (ci := 6) (v := .int j38s1) (ty := .int) (C := R_MO) (T := F_MO) (N := 24) hx hb hg in_MO t_MO t_MO_ok n_MO hown hK hw.1 hw.2.1 hw.2.2 0 rfl rfl 0 (by decide) (hg _ q_749) (fun _ h9 => h9) rfl (by decide +kernel) rfl rfl (Nat.le_of_ble_eq_true rfl) d_MO_clue_38 (fun H locs hP hD hS => ?_)
    have hw : fw_H D vwCl A s.heap (wM ad cI cL j38s1 ki ce wi ma fo cu gr ru nu gv ca nw lo ke un cn fi fl pa sh od bd bs) H locs := ⟨hP, hD, hS⟩
    refine lv_aload_n hx hb d_MO_clue_41 rfl (lv_at hl 0 rfl) ?_
    refine va_get (ci := 6) (v := .int j38s1) (C := R_MO) (T := F_MO) (N := 24) hx hb hg in_MO hown hK hw.1 0 rfl rfl 0 (by decide) (hg _ q_749) (fun _ h9 => h9) rfl d_MO_clue_42 ?_
    refine lv_if_eq (tgt := 50) hx hb d_MO_clue_45 (by decide) (fun hc => ?_) (fun hc => ?_)
    · have h := oi h hc
      refine lv_aload_n hx hb d_MO_clue_50 rfl (lv_at hl 0 rfl) ?_
      refine va_get (ci := 6) (v := .ref (ad 1)) (C := R_MO) (T := F_MO) (N := 24) hx hb hg in_MO hown hK hw.1 0 rfl rfl 4 (by decide) (hg _ q_753) (fun _ h9 => h9) rfl d_MO_clue_51 ?_
      refine lv_iload_n hx hb d_MO_clue_54 rfl (lv_at hl 1 rfl) ?_
      refine oc h (fun hc1 h => ?_)
      refine va_iald hx hb hK hw.1 1 0 rfl rfl hc1 d_MO_clue_55 ?_
      refine lv_istore_n (lv' := [(3, .int (cu u1.toNatClampNeg)), (0, .ref (ad 0)), (1, .int u1), (2, .int u2)]) hx hb d_MO_clue_56 rfl hl (by decide) rfl (fun ls hl => ?_)
      refine lv_aload_n hx hb d_MO_clue_57 rfl (lv_at hl 1 rfl) ?_
      refine va_get (ci := 6) (v := .ref (ad 1)) (C := R_MO) (T := F_MO) (N := 24) hx hb hg in_MO hown hK hw.1 0 rfl rfl 4 (by decide) (hg _ q_753) (fun _ h9 => h9) rfl d_MO_clue_58 ?_
      refine lv_iload_n hx hb d_MO_clue_61 rfl (lv_at hl 2 rfl) ?_
      refine lv_iload_n hx hb d_MO_clue_62 rfl (lv_at hl 3 rfl) ?_
      refine va_iast hx hb hK hw.1 hw.2.1 hw.2.2 1 0 rfl rfl hc1 d_MO_clue_63 (fun H locs hP hD hS => ?_)
      have hw : fw_H D vwCl A s.heap (wM ad cI cL j38s1 ki ce wi ma fo (upd cu u1.toNatClampNeg u2) gr ru nu gv ca nw lo ke un cn fi fl pa sh od bd bs) H locs := ⟨hP, hD, hS⟩
      refine lv_aload_n hx hb d_MO_clue_64 rfl (lv_at hl 1 rfl) ?_
      refine ob h (fun r65 h65 h => ?_)
      refine fw_callV (As := []) (rest := []) (st1 := []) S (ct_MO_refresh l D ad cI cL N j38s1 ki ce wi ma fo (upd cu u1.toNatClampNeg u2) gr ru nu gv ca nw lo ke un cn fi fl pa sh od bd bs r65 h65) q_741 q_743 s_18 q_10 k_MO_refresh hd_MO_refresh ⟨by rw [hR]; decide, by rw [hR]; decide⟩ rfl rfl hX hw hA 0 (ci := 6) rfl rfl hl.1 rfl rfl (Nat.le_of_ble_eq_true rfl) d_MO_clue_65 ⟨Nat.zero_le _, Nat.zero_le _⟩ rfl (fun H locs hw => ?_)
      refine lv_iload_n hx hb d_MO_clue_68 rfl (lv_at hl 0 rfl) ?_
      have q := Option.some.inj h
      subst q
      exact fw_iret hQ S hr hlk hX hw d_MO_clue_69
    · have h := oe h hc
      refine lv_iconst (v := 0) hx hb d_MO_clue_48 (by decide) ?_
      have q := Option.some.inj h
      subst q
      exact fw_iret hQ S hr hlk hX hw d_MO_clue_49
  refine lv_if_eq (tgt := 12) hx hb d_MO_clue_5 (by decide) (fun hc => ?_) (fun hc => ?_)
  · have h := oi h hc
    refine lv_iload_n hx hb d_MO_clue_12 rfl (lv_at hl 1 rfl) ?_
    refine lv_if_lt (tgt := 22) hx hb d_MO_clue_13 (by decide) (fun hc => ?_) (fun hc => ?_)
    · have h := oi h hc
      refine lv_iconst (v := 2) hx hb d_MO_clue_22 (by decide) ?_
      refine lv_goto (tgt := 38) hx hb d_MO_clue_23 (by decide) ?_
      exact J38 (2 : Int32) h _ _ _ hl hw
    · have h := oe h hc
      refine lv_iload_n hx hb d_MO_clue_16 rfl (lv_at hl 1 rfl) ?_
      refine lv_bipush (v := 9) hx hb d_MO_clue_17 (by decide) ?_
      refine lv_icmp_le (tgt := 26) hx hb d_MO_clue_19 (by decide) (fun hc => ?_) (fun hc => ?_)
      · have h := oi h hc
        refine lv_iload_n hx hb d_MO_clue_26 rfl (lv_at hl 2 rfl) ?_
        refine ob h (fun r27 h27 h => ?_)
        refine fw_callS (As := [.int u2]) (rest := [.ref (ad 0)]) (st1 := [.int r27, .ref (ad 0)]) S (ct_MO_isClue l D (tyA cI cL) (wM ad cI cL th ki ce wi ma fo cu gr ru nu gv ca nw lo ke un cn fi fl pa sh od bd bs) N u2 r27 h27) q_838 q_839 q_10 k_MO_isClue hd_MO_isClue ⟨by rw [hR]; decide, by rw [hR]; decide⟩ rfl rfl hX hw hA hl.1 rfl rfl (Nat.le_of_ble_eq_true rfl) d_MO_clue_27 ⟨Nat.zero_le _, Nat.zero_le _⟩ rfl (fun H locs hw => ?_)
        refine lv_if_ne (tgt := 37) hx hb d_MO_clue_30 (by decide) (fun hc => ?_) (fun hc => ?_)
        · have h := oe h hc
          refine lv_iconst (v := 0) hx hb d_MO_clue_37 (by decide) ?_
          exact J38 (0 : Int32) h _ _ _ hl hw
        · have h := oi h hc
          refine lv_iconst (v := 3) hx hb d_MO_clue_33 (by decide) ?_
          refine lv_goto (tgt := 38) hx hb d_MO_clue_34 (by decide) ?_
          exact J38 (3 : Int32) h _ _ _ hl hw
      · have h := oe h hc
        refine lv_iconst (v := 2) hx hb d_MO_clue_22 (by decide) ?_
        refine lv_goto (tgt := 38) hx hb d_MO_clue_23 (by decide) ?_
        exact J38 (2 : Int32) h _ _ _ hl hw
  · have h := oe h hc
    refine lv_iconst (v := 1) hx hb d_MO_clue_8 (by decide) ?_
    refine lv_goto (tgt := 38) hx hb d_MO_clue_9 (by decide) ?_
    exact J38 (1 : Int32) h _ _ _ hl hw
set_option maxHeartbeats 4000000 in
set_option maxRecDepth 100000 in
theorem ct_MO_noCell (l : Launch) (D : va_G) (ad : Nat → Nat) (cI cL : ClassId) (N : Nat) (th : Int32) (ki : Int32) (ce : Int32) (wi : Int32) (ma : Int32) (fo : Int32) (cu : Nat → Int32) (gr : Nat → Int32) (ru : Nat → Int32) (nu : Nat → Int32) (gv : Nat → Int32) (ca : Nat → Int32) (nw : Nat → Int32) (lo : Nat → Int32) (ke : Nat → Int32) (un : Nat → Int32) (cn : Nat → Int32) (fi : Nat → Int32) (fl : Nat → Int32) (pa : Nat → Int32) (sh : Nat → Int32) (od : Nat → Int32) (bd : Nat → Int32) (bs : Nat → Int32) (u1 : Int32) (out : Int32) (h : mi_MO_noCell N ce u1 = some out) : fw_C l y_MO_noCell (.code y_MO_noCell b_MO_noCell 2 (some .boolean) :: Gw) (fr 0 0) D vwCl (tyA cI cL) [.ref (ad 0), .int u1] (wM ad cI cL th ki ce wi ma fo cu gr ru nu gv ca nw lo ke un cn fi fl pa sh od bd bs) (some (.int out)) (wM ad cI cL th ki ce wi ma fo cu gr ru nu gv ca nw lo ke un cn fi fl pa sh od bd bs) := by
  refine fw_of (by decide) (Nat.le_of_ble_eq_true rfl) ?_
  intro p e s m args below meth c ls A R Q hR hQ S hr hlk hX hA hl hw
  have hK := hX.1
  have hx := S.1
  have hb := S.2.1
  have hown := S.2.2.2.1
  have hg := S.2.2.2.2
  have hl : lv_has ls 2 [(0, .ref (ad 0)), (1, .int u1)] := hl
  unfold mi_MO_noCell at h
  refine lv_iload_n hx hb d_MO_noCell_0 rfl (lv_at hl 1 rfl) ?_
  refine lv_if_lt (tgt := 12) hx hb d_MO_noCell_1 (by decide) (fun hc => ?_) (fun hc => ?_)
  · have h := oi h hc
    refine lv_iconst (v := 1) hx hb d_MO_noCell_12 (by decide) ?_
    refine lv_goto (tgt := 17) hx hb d_MO_noCell_13 (by decide) ?_
    have q := Option.some.inj h
    subst q
    exact fw_zret hQ S hr rfl hlk hX hw d_MO_noCell_17
  · have h := oe h hc
    refine lv_iload_n hx hb d_MO_noCell_4 rfl (lv_at hl 1 rfl) ?_
    refine lv_aload_n hx hb d_MO_noCell_5 rfl (lv_at hl 0 rfl) ?_
    refine va_get (ci := 6) (v := .int ce) (C := R_MO) (T := F_MO) (N := 24) hx hb hg in_MO hown hK hw.1 0 rfl rfl 2 (by decide) (hg _ q_751) (fun _ h9 => h9) rfl d_MO_noCell_6 ?_
    refine lv_icmp_lt (tgt := 16) hx hb d_MO_noCell_9 (by decide) (fun hc => ?_) (fun hc => ?_)
    · have h := oi h hc
      refine lv_iconst (v := 0) hx hb d_MO_noCell_16 (by decide) ?_
      have q := Option.some.inj h
      subst q
      exact fw_zret hQ S hr rfl hlk hX hw d_MO_noCell_17
    · have h := oe h hc
      refine lv_iconst (v := 1) hx hb d_MO_noCell_12 (by decide) ?_
      refine lv_goto (tgt := 17) hx hb d_MO_noCell_13 (by decide) ?_
      have q := Option.some.inj h
      subst q
      exact fw_zret hQ S hr rfl hlk hX hw d_MO_noCell_17
set_option maxHeartbeats 4000000 in
set_option maxRecDepth 100000 in
theorem ct_MO_sizeOf (l : Launch) (D : va_G) (ad : Nat → Nat) (cI cL : ClassId) (N : Nat) (th : Int32) (ki : Int32) (ce : Int32) (wi : Int32) (ma : Int32) (fo : Int32) (cu : Nat → Int32) (gr : Nat → Int32) (ru : Nat → Int32) (nu : Nat → Int32) (gv : Nat → Int32) (ca : Nat → Int32) (nw : Nat → Int32) (lo : Nat → Int32) (ke : Nat → Int32) (un : Nat → Int32) (cn : Nat → Int32) (fi : Nat → Int32) (fl : Nat → Int32) (pa : Nat → Int32) (sh : Nat → Int32) (od : Nat → Int32) (bd : Nat → Int32) (bs : Nat → Int32) (u1 : Int32) (out : Int32) (h : mi_MO_sizeOf N ce gr u1 = some out) : fw_C l y_MO_sizeOf (.code y_MO_sizeOf b_MO_sizeOf 4 (some .int) :: Gw) (fr 0 0) D vwCl (tyA cI cL) [.ref (ad 0), .int u1] (wM ad cI cL th ki ce wi ma fo cu gr ru nu gv ca nw lo ke un cn fi fl pa sh od bd bs) (some (.int out)) (wM ad cI cL th ki ce wi ma fo cu gr ru nu gv ca nw lo ke un cn fi fl pa sh od bd bs) := by
  refine fw_of (by decide) (Nat.le_of_ble_eq_true rfl) ?_
  intro p e s m args below meth c ls A R Q hR hQ S hr hlk hX hA hl hw
  have hK := hX.1
  have hx := S.1
  have hb := S.2.1
  have hown := S.2.2.2.1
  have hg := S.2.2.2.2
  have hl : lv_has ls 4 [(0, .ref (ad 0)), (1, .int u1)] := hl
  unfold mi_MO_sizeOf at h
  refine lv_iconst (v := 0) hx hb d_MO_sizeOf_0 (by decide) ?_
  refine lv_istore_n (lv' := [(2, .int (0 : Int32)), (0, .ref (ad 0)), (1, .int u1)]) hx hb d_MO_sizeOf_1 rfl hl (by decide) rfl (fun ls hl => ?_)
  refine lv_iconst (v := 0) hx hb d_MO_sizeOf_2 (by decide) ?_
  refine lv_istore_n (lv' := [(3, .int (0 : Int32)), (2, .int (0 : Int32)), (0, .ref (ad 0)), (1, .int u1)]) hx hb d_MO_sizeOf_3 rfl hl (by decide) rfl (fun ls hl => ?_)
  have X4 : ∀ (y4 : Int32 × Int32), mr_MO_sizeOf_4 y4 = some out → ∀ (ls : Array Slot) (H : Heap) (locs : List Loc), lv_has ls 4 [(2, .int y4.1)] → fw_H D vwCl A s.heap (wM ad cI cL th ki ce wi ma fo cu gr ru nu gv ca nw lo ke un cn fi fl pa sh od bd bs) H locs → W p l e R s m args below meth c H locs 0 0 Q (F0 m 36 ls []) := by
    intro y4 h ls H locs hl hw
    unfold mr_MO_sizeOf_4 at h
    refine lv_iload_n hx hb d_MO_sizeOf_36 rfl (lv_at hl 0 rfl) ?_
    have q := Option.some.inj h
    subst q
    exact fw_iret hQ S hr hlk hX hw d_MO_sizeOf_37
  have L4 : ∀ (n4 : Nat) (x4 : Int32 × Int32) (e4 : Int32 × Int32), lp (mb_MO_sizeOf_4 ce gr u1) n4 x4 = some e4 → (mr_MO_sizeOf_4) e4 = some out → ∀ (ls : Array Slot) (H : Heap) (locs : List Loc), lv_has ls 4 [(0, .ref (ad 0)), (1, .int u1), (2, .int x4.1), (3, .int x4.2)] → fw_H D vwCl A s.heap (wM ad cI cL th ki ce wi ma fo cu gr ru nu gv ca nw lo ke un cn fi fl pa sh od bd bs) H locs → W p l e R s m args below meth c H locs 0 0 Q (F0 m 4 ls []) := by
    intro n4
    induction n4 with
    | zero => intro x4 e4 h1; exact absurd h1 lp_0
    | succ n4 ih4 =>
      intro x4 e4 h1 hr4 ls H locs hl hw
      rw [lp_s] at h1
      refine ob h1 (fun r4 h hk4 => ?_)
      unfold mb_MO_sizeOf_4 at h
      refine lv_iload_n hx hb d_MO_sizeOf_4 rfl (lv_at hl 3 rfl) ?_
      refine lv_aload_n hx hb d_MO_sizeOf_5 rfl (lv_at hl 0 rfl) ?_
      refine va_get (ci := 6) (v := .int ce) (C := R_MO) (T := F_MO) (N := 24) hx hb hg in_MO hown hK hw.1 0 rfl rfl 2 (by decide) (hg _ q_751) (fun _ h9 => h9) rfl d_MO_sizeOf_6 ?_
      refine lv_icmp_ge (tgt := 36) hx hb d_MO_sizeOf_9 (by decide) (fun hc => ?_) (fun hc => ?_)
      · have h := oi h hc
        have q := Option.some.inj h
        subst q
        have q := Option.some.inj hk4
        subst q
        exact X4 (x4.1, x4.2) hr4 _ _ _ (lv_sub hl [2] rfl) hw
      · have h := oe h hc
        refine lv_iload_n hx hb d_MO_sizeOf_12 rfl (lv_at hl 2 rfl) ?_
        refine lv_aload_n hx hb d_MO_sizeOf_13 rfl (lv_at hl 0 rfl) ?_
        refine va_get (ci := 6) (v := .ref (ad 2)) (C := R_MO) (T := F_MO) (N := 24) hx hb hg in_MO hown hK hw.1 0 rfl rfl 5 (by decide) (hg _ q_754) (fun _ h9 => h9) rfl d_MO_sizeOf_14 ?_
        refine lv_iload_n hx hb d_MO_sizeOf_17 rfl (lv_at hl 3 rfl) ?_
        refine oc h (fun hc1 h => ?_)
        refine va_iald hx hb hK hw.1 2 0 rfl rfl hc1 d_MO_sizeOf_18 ?_
        refine lv_iload_n hx hb d_MO_sizeOf_19 rfl (lv_at hl 1 rfl) ?_
        refine lv_icmp_ne (tgt := 27) hx hb d_MO_sizeOf_20 (by decide) (fun hc => ?_) (fun hc => ?_)
        · have h := oe h hc
          refine lv_iconst (v := 0) hx hb d_MO_sizeOf_27 (by decide) ?_
          refine lv_iadd hx hb d_MO_sizeOf_28 ?_
          refine lv_istore_n (lv' := [(2, .int (x4.1 + (0 : Int32))), (0, .ref (ad 0)), (1, .int u1), (3, .int x4.2)]) hx hb d_MO_sizeOf_29 rfl hl (by decide) rfl (fun ls hl => ?_)
          refine lv_iinc (k := 3) (v := x4.2 + 1) (lv' := [(3, .int (x4.2 + 1)), (2, .int (x4.1 + (0 : Int32))), (0, .ref (ad 0)), (1, .int u1)]) hx hb d_MO_sizeOf_30 hl rfl (by rw [lit1]) (by decide) rfl (fun ls hl => ?_)
          refine lv_goto (tgt := 4) hx hb d_MO_sizeOf_33 (by decide) ?_
          have q := Option.some.inj h
          subst q
          exact ih4 (x4.1 + (0 : Int32), x4.2 + 1) e4 hk4 hr4 _ _ _ (lv_sub hl [2, 3, 1, 0] rfl) hw
        · have h := oi h hc
          refine lv_iconst (v := 1) hx hb d_MO_sizeOf_23 (by decide) ?_
          refine lv_goto (tgt := 28) hx hb d_MO_sizeOf_24 (by decide) ?_
          refine lv_iadd hx hb d_MO_sizeOf_28 ?_
          refine lv_istore_n (lv' := [(2, .int (x4.1 + (1 : Int32))), (0, .ref (ad 0)), (1, .int u1), (3, .int x4.2)]) hx hb d_MO_sizeOf_29 rfl hl (by decide) rfl (fun ls hl => ?_)
          refine lv_iinc (k := 3) (v := x4.2 + 1) (lv' := [(3, .int (x4.2 + 1)), (2, .int (x4.1 + (1 : Int32))), (0, .ref (ad 0)), (1, .int u1)]) hx hb d_MO_sizeOf_30 hl rfl (by rw [lit1]) (by decide) rfl (fun ls hl => ?_)
          refine lv_goto (tgt := 4) hx hb d_MO_sizeOf_33 (by decide) ?_
          have q := Option.some.inj h
          subst q
          exact ih4 (x4.1 + (1 : Int32), x4.2 + 1) e4 hk4 hr4 _ _ _ (lv_sub hl [2, 3, 1, 0] rfl) hw
  refine ob h (fun e4 h1 h2 => ?_)
  exact L4 N ((0 : Int32), (0 : Int32)) e4 h1 h2 _ _ _ (lv_sub hl [2, 3, 1, 0] rfl) hw
set_option maxHeartbeats 4000000 in
set_option maxRecDepth 100000 in
theorem ct_MO_group (l : Launch) (D : va_G) (ad : Nat → Nat) (cI cL : ClassId) (N : Nat) (th : Int32) (ki : Int32) (ce : Int32) (wi : Int32) (ma : Int32) (fo : Int32) (cu : Nat → Int32) (gr : Nat → Int32) (ru : Nat → Int32) (nu : Nat → Int32) (gv : Nat → Int32) (ca : Nat → Int32) (nw : Nat → Int32) (lo : Nat → Int32) (ke : Nat → Int32) (un : Nat → Int32) (cn : Nat → Int32) (fi : Nat → Int32) (fl : Nat → Int32) (pa : Nat → Int32) (sh : Nat → Int32) (od : Nat → Int32) (bd : Nat → Int32) (bs : Nat → Int32) (u1 : Int32) (u2 : Int32) (out : Int32 × Int32 × (Nat → Int32) × (Nat → Int32)) (h : mi_MO_group N th ki ce gr gv ca u1 u2 = some out) : fw_C l y_MO_group (.code y_MO_group b_MO_group 5 (some .int) :: Gw) (fr 2 41) D vwCl (tyA cI cL) [.ref (ad 0), .int u1, .int u2] (wM ad cI cL th ki ce wi ma fo cu gr ru nu gv ca nw lo ke un cn fi fl pa sh od bd bs) (some (.int out.1)) (wM ad cI cL out.2.1 ki ce wi ma fo cu out.2.2.1 ru nu gv out.2.2.2 nw lo ke un cn fi fl pa sh od bd bs) := by
  refine fw_of (by decide) (Nat.le_of_ble_eq_true rfl) ?_
  intro p e s m args below meth c ls A R Q hR hQ S hr hlk hX hA hl hw
  have hK := hX.1
  have hx := S.1
  have hb := S.2.1
  have hown := S.2.2.2.1
  have hg := S.2.2.2.2
  have hl : lv_has ls 5 [(0, .ref (ad 0)), (1, .int u1), (2, .int u2)] := hl
  unfold mi_MO_group at h
  refine lv_aload_n hx hb d_MO_group_0 rfl (lv_at hl 0 rfl) ?_
  refine lv_iload_n hx hb d_MO_group_1 rfl (lv_at hl 1 rfl) ?_
  refine ob h (fun r2 h2 h => ?_)
  refine fw_callV (As := [.int u1]) (rest := []) (st1 := [.int r2]) S (ct_MO_noCell l D ad cI cL N th ki ce wi ma fo cu gr ru nu gv ca nw lo ke un cn fi fl pa sh od bd bs u1 r2 h2) q_845 q_847 s_20 q_10 k_MO_noCell hd_MO_noCell ⟨by rw [hR]; decide, by rw [hR]; decide⟩ rfl rfl hX hw hA 0 (ci := 6) rfl rfl hl.1 rfl rfl (Nat.le_of_ble_eq_true rfl) d_MO_group_2 ⟨Nat.zero_le _, Nat.zero_le _⟩ rfl (fun H locs hw => ?_)
  have J35 : ∀ (j35s0 : Int32), mj_MO_group_35 N ki ce gr gv ca u1 u2 j35s0 = some out → ∀ (ls : Array Slot) (H : Heap) (locs : List Loc), lv_has ls 5 [(0, .ref (ad 0)), (1, .int u1), (2, .int u2)] → fw_H D vwCl A s.heap (wM ad cI cL th ki ce wi ma fo cu gr ru nu gv ca nw lo ke un cn fi fl pa sh od bd bs) H locs → W p l e R s m args below meth c H locs 0 0 Q (F0 m 35 ls [.int j35s0]) := by
    intro j35s0 h ls H locs hl hw
    unfold mj_MO_group_35 at h
    refine lv_istore_n (lv' := [(3, .int j35s0), (0, .ref (ad 0)), (1, .int u1), (2, .int u2)]) hx hb d_MO_group_35 rfl hl (by decide) rfl (fun ls hl => ?_)
    refine lv_aload_n hx hb d_MO_group_36 rfl (lv_at hl 1 rfl) ?_
    refine lv_aload_n hx hb d_MO_group_37 rfl (lv_at hl 1 rfl) ?_
    refine va_get (ci := 6) (v := .int ki) (C := R_MO) (T := F_MO) (N := 24) hx hb hg in_MO hown hK hw.1 0 rfl rfl 1 (by decide) (hg _ q_750) (fun _ h9 => h9) rfl d_MO_group_38 ?_
    have J57 : ∀ (j57s1 : Int32), mj_MO_group_57 N ki ce gr gv ca u1 u2 j57s1 = some out → ∀ (ls : Array Slot) (H : Heap) (locs : List Loc), lv_has ls 5 [(0, .ref (ad 0)), (1, .int u1), (2, .int u2)] → fw_H D vwCl A s.heap (wM ad cI cL th ki ce wi ma fo cu gr ru nu gv ca nw lo ke un cn fi fl pa sh od bd bs) H locs → W p l e R s m args below meth c H locs 0 0 Q (F0 m 57 ls [.int j57s1, .ref (ad 0)]) := by
      intro j57s1 h ls H locs hl hw
      unfold mj_MO_group_57 at h
      refine va_put (ci := 6) (v := .int j57s1) (ty := .int) (C := R_MO) (T := F_MO) (N := 24) hx hb hg in_MO t_MO t_MO_ok n_MO hown hK hw.1 hw.2.1 hw.2.2 0 rfl rfl 0 (by decide) (hg _ q_749) (fun _ h9 => h9) rfl (by decide +kernel) rfl rfl (Nat.le_of_ble_eq_true rfl) d_MO_group_57 (fun H locs hP hD hS => ?_)
      have hw : fw_H D vwCl A s.heap (wM ad cI cL j57s1 ki ce wi ma fo cu gr ru nu gv ca nw lo ke un cn fi fl pa sh od bd bs) H locs := ⟨hP, hD, hS⟩
      refine lv_aload_n hx hb d_MO_group_60 rfl (lv_at hl 0 rfl) ?_
      refine va_get (ci := 6) (v := .int j57s1) (C := R_MO) (T := F_MO) (N := 24) hx hb hg in_MO hown hK hw.1 0 rfl rfl 0 (by decide) (hg _ q_749) (fun _ h9 => h9) rfl d_MO_group_61 ?_
      refine lv_if_eq (tgt := 69) hx hb d_MO_group_64 (by decide) (fun hc => ?_) (fun hc => ?_)
      · have h := oi h hc
        refine lv_aload_n hx hb d_MO_group_69 rfl (lv_at hl 0 rfl) ?_
        refine lv_aload_n hx hb d_MO_group_70 rfl (lv_at hl 0 rfl) ?_
        refine va_get (ci := 6) (v := .int ki) (C := R_MO) (T := F_MO) (N := 24) hx hb hg in_MO hown hK hw.1 0 rfl rfl 1 (by decide) (hg _ q_750) (fun _ h9 => h9) rfl d_MO_group_71 ?_
        refine lv_iconst (v := 1) hx hb d_MO_group_74 (by decide) ?_
        have J102 : ∀ (j102s1 : Int32), mj_MO_group_102 N ki ce gr gv ca u1 u2 j102s1 = some out → ∀ (ls : Array Slot) (H : Heap) (locs : List Loc), lv_has ls 5 [(0, .ref (ad 0)), (1, .int u1), (2, .int u2)] → fw_H D vwCl A s.heap (wM ad cI cL j57s1 ki ce wi ma fo cu gr ru nu gv ca nw lo ke un cn fi fl pa sh od bd bs) H locs → W p l e R s m args below meth c H locs 0 0 Q (F0 m 102 ls [.int j102s1, .ref (ad 0)]) := by
          intro j102s1 h ls H locs hl hw
          unfold mj_MO_group_102 at h
          refine va_put (ci := 6) (v := .int j102s1) (ty := .int) (C := R_MO) (T := F_MO) (N := 24) hx hb hg in_MO t_MO t_MO_ok n_MO hown hK hw.1 hw.2.1 hw.2.2 0 rfl rfl 0 (by decide) (hg _ q_749) (fun _ h9 => h9) rfl (by decide +kernel) rfl rfl (Nat.le_of_ble_eq_true rfl) d_MO_group_102 (fun H locs hP hD hS => ?_)
          have hw : fw_H D vwCl A s.heap (wM ad cI cL j102s1 ki ce wi ma fo cu gr ru nu gv ca nw lo ke un cn fi fl pa sh od bd bs) H locs := ⟨hP, hD, hS⟩
          refine lv_aload_n hx hb d_MO_group_105 rfl (lv_at hl 0 rfl) ?_
          refine va_get (ci := 6) (v := .int j102s1) (C := R_MO) (T := F_MO) (N := 24) hx hb hg in_MO hown hK hw.1 0 rfl rfl 0 (by decide) (hg _ q_749) (fun _ h9 => h9) rfl d_MO_group_106 ?_
          refine lv_if_eq (tgt := 114) hx hb d_MO_group_109 (by decide) (fun hc => ?_) (fun hc => ?_)
          · have h := oi h hc
            refine lv_aload_n hx hb d_MO_group_114 rfl (lv_at hl 0 rfl) ?_
            refine va_get (ci := 6) (v := .ref (ad 2)) (C := R_MO) (T := F_MO) (N := 24) hx hb hg in_MO hown hK hw.1 0 rfl rfl 5 (by decide) (hg _ q_754) (fun _ h9 => h9) rfl d_MO_group_115 ?_
            refine lv_iload_n hx hb d_MO_group_118 rfl (lv_at hl 1 rfl) ?_
            refine oc h (fun hc1 h => ?_)
            refine va_iald hx hb hK hw.1 2 0 rfl rfl hc1 d_MO_group_119 ?_
            refine lv_istore (lv' := [(4, .int (gr u1.toNatClampNeg)), (0, .ref (ad 0)), (1, .int u1), (2, .int u2)]) hx hb d_MO_group_120 hl (by decide) rfl (fun ls hl => ?_)
            refine lv_aload_n hx hb d_MO_group_122 rfl (lv_at hl 1 rfl) ?_
            refine va_get (ci := 6) (v := .ref (ad 2)) (C := R_MO) (T := F_MO) (N := 24) hx hb hg in_MO hown hK hw.1 0 rfl rfl 5 (by decide) (hg _ q_754) (fun _ h9 => h9) rfl d_MO_group_123 ?_
            refine lv_iload_n hx hb d_MO_group_126 rfl (lv_at hl 2 rfl) ?_
            refine lv_iload_n hx hb d_MO_group_127 rfl (lv_at hl 3 rfl) ?_
            refine va_iast hx hb hK hw.1 hw.2.1 hw.2.2 2 0 rfl rfl hc1 d_MO_group_128 (fun H locs hP hD hS => ?_)
            have hw : fw_H D vwCl A s.heap (wM ad cI cL j102s1 ki ce wi ma fo cu (upd gr u1.toNatClampNeg u2) ru nu gv ca nw lo ke un cn fi fl pa sh od bd bs) H locs := ⟨hP, hD, hS⟩
            refine lv_aload_n hx hb d_MO_group_129 rfl (lv_at hl 1 rfl) ?_
            refine ob h (fun r130 h130 h => ?_)
            refine fw_callV (As := []) (rest := []) (st1 := []) S (ct_MO_refresh l D ad cI cL N j102s1 ki ce wi ma fo cu (upd gr u1.toNatClampNeg u2) ru nu gv ca nw lo ke un cn fi fl pa sh od bd bs r130 h130) q_741 q_743 s_18 q_10 k_MO_refresh hd_MO_refresh ⟨by rw [hR]; decide, by rw [hR]; decide⟩ rfl rfl hX hw hA 0 (ci := 6) rfl rfl hl.1 rfl rfl (Nat.le_of_ble_eq_true rfl) d_MO_group_130 ⟨Nat.zero_le _, Nat.zero_le _⟩ rfl (fun H locs hw => ?_)
            refine lv_iload hx hb d_MO_group_133 (lv_at hl 0 rfl) ?_
            have q := Option.some.inj h
            subst q
            exact fw_iret hQ S hr hlk hX hw d_MO_group_135
          · have h := oe h hc
            refine lv_iconst (v := 0) hx hb d_MO_group_112 (by decide) ?_
            have q := Option.some.inj h
            subst q
            exact fw_iret hQ S hr hlk hX hw d_MO_group_113
        refine lv_icmp_ne (tgt := 101) hx hb d_MO_group_75 (by decide) (fun hc => ?_) (fun hc => ?_)
        · have h := oe h hc
          refine lv_iconst (v := 0) hx hb d_MO_group_101 (by decide) ?_
          exact J102 (0 : Int32) h _ _ _ hl hw
        · have h := oi h hc
          refine lv_aload_n hx hb d_MO_group_78 rfl (lv_at hl 0 rfl) ?_
          refine va_get (ci := 6) (v := .ref (ad 2)) (C := R_MO) (T := F_MO) (N := 24) hx hb hg in_MO hown hK hw.1 0 rfl rfl 5 (by decide) (hg _ q_754) (fun _ h9 => h9) rfl d_MO_group_79 ?_
          refine lv_iload_n hx hb d_MO_group_82 rfl (lv_at hl 1 rfl) ?_
          refine oc h (fun hc2 h => ?_)
          refine va_iald hx hb hK hw.1 2 0 rfl rfl hc2 d_MO_group_83 ?_
          refine lv_iload_n hx hb d_MO_group_84 rfl (lv_at hl 2 rfl) ?_
          refine lv_icmp_eq (tgt := 101) hx hb d_MO_group_85 (by decide) (fun hc => ?_) (fun hc => ?_)
          · have h := oi h hc
            refine lv_iconst (v := 0) hx hb d_MO_group_101 (by decide) ?_
            exact J102 (0 : Int32) h _ _ _ hl hw
          · have h := oe h hc
            refine lv_aload_n hx hb d_MO_group_88 rfl (lv_at hl 0 rfl) ?_
            refine lv_iload_n hx hb d_MO_group_89 rfl (lv_at hl 2 rfl) ?_
            refine ob h (fun r90 h90 h => ?_)
            refine fw_callV (As := [.int u2]) (rest := [.ref (ad 0)]) (st1 := [.int r90, .ref (ad 0)]) S (ct_MO_sizeOf l D ad cI cL N j57s1 ki ce wi ma fo cu gr ru nu gv ca nw lo ke un cn fi fl pa sh od bd bs u2 r90 h90) q_849 q_851 s_21 q_10 k_MO_sizeOf hd_MO_sizeOf ⟨by rw [hR]; decide, by rw [hR]; decide⟩ rfl rfl hX hw hA 0 (ci := 6) rfl rfl hl.1 rfl rfl (Nat.le_of_ble_eq_true rfl) d_MO_group_90 ⟨Nat.zero_le _, Nat.zero_le _⟩ rfl (fun H locs hw => ?_)
            refine lv_iconst (v := 4) hx hb d_MO_group_93 (by decide) ?_
            refine lv_icmp_ne (tgt := 101) hx hb d_MO_group_94 (by decide) (fun hc => ?_) (fun hc => ?_)
            · have h := oe h hc
              refine lv_iconst (v := 0) hx hb d_MO_group_101 (by decide) ?_
              exact J102 (0 : Int32) h _ _ _ hl hw
            · have h := oi h hc
              refine lv_iconst (v := 3) hx hb d_MO_group_97 (by decide) ?_
              refine lv_goto (tgt := 102) hx hb d_MO_group_98 (by decide) ?_
              exact J102 (3 : Int32) h _ _ _ hl hw
      · have h := oe h hc
        refine lv_iconst (v := 0) hx hb d_MO_group_67 (by decide) ?_
        have q := Option.some.inj h
        subst q
        exact fw_iret hQ S hr hlk hX hw d_MO_group_68
    refine lv_if_ne (tgt := 48) hx hb d_MO_group_41 (by decide) (fun hc => ?_) (fun hc => ?_)
    · have h := oe h hc
      refine lv_iload_n hx hb d_MO_group_48 rfl (lv_at hl 0 rfl) ?_
      refine lv_if_eq (tgt := 56) hx hb d_MO_group_49 (by decide) (fun hc => ?_) (fun hc => ?_)
      · have h := oi h hc
        refine lv_iconst (v := 0) hx hb d_MO_group_56 (by decide) ?_
        exact J57 (0 : Int32) h _ _ _ (lv_sub hl [1, 2, 3] rfl) hw
      · have h := oe h hc
        refine lv_iconst (v := 2) hx hb d_MO_group_52 (by decide) ?_
        refine lv_goto (tgt := 57) hx hb d_MO_group_53 (by decide) ?_
        exact J57 (2 : Int32) h _ _ _ (lv_sub hl [1, 2, 3] rfl) hw
    · have h := oi h hc
      refine lv_iconst (v := 1) hx hb d_MO_group_44 (by decide) ?_
      refine lv_goto (tgt := 57) hx hb d_MO_group_45 (by decide) ?_
      exact J57 (1 : Int32) h _ _ _ (lv_sub hl [1, 2, 3] rfl) hw
  refine lv_if_ne (tgt := 30) hx hb d_MO_group_5 (by decide) (fun hc => ?_) (fun hc => ?_)
  · have h := oe h hc
    refine lv_iconst (v := 1) hx hb d_MO_group_30 (by decide) ?_
    refine lv_goto (tgt := 35) hx hb d_MO_group_31 (by decide) ?_
    exact J35 (1 : Int32) h _ _ _ hl hw
  · have h := oi h hc
    refine lv_iload_n hx hb d_MO_group_8 rfl (lv_at hl 2 rfl) ?_
    refine lv_if_lt (tgt := 30) hx hb d_MO_group_9 (by decide) (fun hc => ?_) (fun hc => ?_)
    · have h := oi h hc
      refine lv_iconst (v := 1) hx hb d_MO_group_30 (by decide) ?_
      refine lv_goto (tgt := 35) hx hb d_MO_group_31 (by decide) ?_
      exact J35 (1 : Int32) h _ _ _ hl hw
    · have h := oe h hc
      refine lv_iload_n hx hb d_MO_group_12 rfl (lv_at hl 2 rfl) ?_
      refine lv_aload_n hx hb d_MO_group_13 rfl (lv_at hl 0 rfl) ?_
      refine va_get (ci := 6) (v := .int ki) (C := R_MO) (T := F_MO) (N := 24) hx hb hg in_MO hown hK hw.1 0 rfl rfl 1 (by decide) (hg _ q_750) (fun _ h9 => h9) rfl d_MO_group_14 ?_
      refine lv_iconst (v := 1) hx hb d_MO_group_17 (by decide) ?_
      refine lv_icmp_ne (tgt := 26) hx hb d_MO_group_18 (by decide) (fun hc => ?_) (fun hc => ?_)
      · have h := oe h hc
        refine lv_iconst (v := 5) hx hb d_MO_group_26 (by decide) ?_
        refine lv_icmp_lt (tgt := 34) hx hb d_MO_group_27 (by decide) (fun hc => ?_) (fun hc => ?_)
        · have h := oi h hc
          refine lv_iconst (v := 0) hx hb d_MO_group_34 (by decide) ?_
          exact J35 (0 : Int32) h _ _ _ hl hw
        · have h := oe h hc
          refine lv_iconst (v := 1) hx hb d_MO_group_30 (by decide) ?_
          refine lv_goto (tgt := 35) hx hb d_MO_group_31 (by decide) ?_
          exact J35 (1 : Int32) h _ _ _ hl hw
      · have h := oi h hc
        refine lv_bipush (v := 16) hx hb d_MO_group_21 (by decide) ?_
        refine lv_goto (tgt := 27) hx hb d_MO_group_23 (by decide) ?_
        refine lv_icmp_lt (tgt := 34) hx hb d_MO_group_27 (by decide) (fun hc => ?_) (fun hc => ?_)
        · have h := oi h hc
          refine lv_iconst (v := 0) hx hb d_MO_group_34 (by decide) ?_
          exact J35 (0 : Int32) h _ _ _ hl hw
        · have h := oe h hc
          refine lv_iconst (v := 1) hx hb d_MO_group_30 (by decide) ?_
          refine lv_goto (tgt := 35) hx hb d_MO_group_31 (by decide) ?_
          exact J35 (1 : Int32) h _ _ _ hl hw
set_option maxHeartbeats 4000000 in
set_option maxRecDepth 100000 in
theorem ct_MO_rule (l : Launch) (D : va_G) (ad : Nat → Nat) (cI cL : ClassId) (N : Nat) (th : Int32) (ki : Int32) (ce : Int32) (wi : Int32) (ma : Int32) (fo : Int32) (cu : Nat → Int32) (gr : Nat → Int32) (ru : Nat → Int32) (nu : Nat → Int32) (gv : Nat → Int32) (ca : Nat → Int32) (nw : Nat → Int32) (lo : Nat → Int32) (ke : Nat → Int32) (un : Nat → Int32) (cn : Nat → Int32) (fi : Nat → Int32) (fl : Nat → Int32) (pa : Nat → Int32) (sh : Nat → Int32) (od : Nat → Int32) (bd : Nat → Int32) (bs : Nat → Int32) (u1 : Int32) (u2 : Int32) (u3 : Int32) (out : Int32 × Int32 × (Nat → Int32) × (Nat → Int32) × (Nat → Int32)) (h : mi_MO_rule N th ki ce gr ru nu gv ca u1 u2 u3 = some out) : fw_C l y_MO_rule (.code y_MO_rule b_MO_rule 4 (some .int) :: Gw) (fr 2 41) D vwCl (tyA cI cL) [.ref (ad 0), .int u1, .int u2, .int u3] (wM ad cI cL th ki ce wi ma fo cu gr ru nu gv ca nw lo ke un cn fi fl pa sh od bd bs) (some (.int out.1)) (wM ad cI cL out.2.1 ki ce wi ma fo cu gr out.2.2.1 out.2.2.2.1 gv out.2.2.2.2 nw lo ke un cn fi fl pa sh od bd bs) := by
  refine fw_of (by decide) (Nat.le_of_ble_eq_true rfl) ?_
  intro p e s m args below meth c ls A R Q hR hQ S hr hlk hX hA hl hw
  have hK := hX.1
  have hx := S.1
  have hb := S.2.1
  have hown := S.2.2.2.1
  have hg := S.2.2.2.2
  have hl : lv_has ls 4 [(0, .ref (ad 0)), (1, .int u1), (2, .int u2), (3, .int u3)] := hl
  unfold mi_MO_rule at h
  refine lv_aload_n hx hb d_MO_rule_0 rfl (lv_at hl 0 rfl) ?_
  refine lv_aload_n hx hb d_MO_rule_1 rfl (lv_at hl 0 rfl) ?_
  refine va_get (ci := 6) (v := .int ki) (C := R_MO) (T := F_MO) (N := 24) hx hb hg in_MO hown hK hw.1 0 rfl rfl 1 (by decide) (hg _ q_750) (fun _ h9 => h9) rfl d_MO_rule_2 ?_
  refine lv_iconst (v := 1) hx hb d_MO_rule_5 (by decide) ?_
  have J51 : ∀ (j51s1 : Int32), mj_MO_rule_51 N ki ce gr ru nu gv ca u1 u2 u3 j51s1 = some out → ∀ (ls : Array Slot) (H : Heap) (locs : List Loc), lv_has ls 4 [(0, .ref (ad 0)), (1, .int u1), (2, .int u2), (3, .int u3)] → fw_H D vwCl A s.heap (wM ad cI cL th ki ce wi ma fo cu gr ru nu gv ca nw lo ke un cn fi fl pa sh od bd bs) H locs → W p l e R s m args below meth c H locs 0 0 Q (F0 m 51 ls [.int j51s1, .ref (ad 0)]) := by
    intro j51s1 h ls H locs hl hw
    unfold mj_MO_rule_51 at h
    refine va_put (ci := 6) (v := .int j51s1) (ty := .int) (C := R_MO) (T := F_MO) (N := 24) hx hb hg in_MO t_MO t_MO_ok n_MO hown hK hw.1 hw.2.1 hw.2.2 0 rfl rfl 0 (by decide) (hg _ q_749) (fun _ h9 => h9) rfl (by decide +kernel) rfl rfl (Nat.le_of_ble_eq_true rfl) d_MO_rule_51 (fun H locs hP hD hS => ?_)
    have hw : fw_H D vwCl A s.heap (wM ad cI cL j51s1 ki ce wi ma fo cu gr ru nu gv ca nw lo ke un cn fi fl pa sh od bd bs) H locs := ⟨hP, hD, hS⟩
    refine lv_aload_n hx hb d_MO_rule_54 rfl (lv_at hl 0 rfl) ?_
    refine va_get (ci := 6) (v := .int j51s1) (C := R_MO) (T := F_MO) (N := 24) hx hb hg in_MO hown hK hw.1 0 rfl rfl 0 (by decide) (hg _ q_749) (fun _ h9 => h9) rfl d_MO_rule_55 ?_
    refine lv_if_eq (tgt := 63) hx hb d_MO_rule_58 (by decide) (fun hc => ?_) (fun hc => ?_)
    · have h := oi h hc
      refine lv_aload_n hx hb d_MO_rule_63 rfl (lv_at hl 0 rfl) ?_
      refine va_get (ci := 6) (v := .ref (ad 3)) (C := R_MO) (T := F_MO) (N := 24) hx hb hg in_MO hown hK hw.1 0 rfl rfl 6 (by decide) (hg _ q_755) (fun _ h9 => h9) rfl d_MO_rule_64 ?_
      refine lv_iload_n hx hb d_MO_rule_67 rfl (lv_at hl 1 rfl) ?_
      refine lv_iload_n hx hb d_MO_rule_68 rfl (lv_at hl 2 rfl) ?_
      refine oc h (fun hc1 h => ?_)
      refine va_iast hx hb hK hw.1 hw.2.1 hw.2.2 3 0 rfl rfl hc1 d_MO_rule_69 (fun H locs hP hD hS => ?_)
      have hw : fw_H D vwCl A s.heap (wM ad cI cL j51s1 ki ce wi ma fo cu gr (upd ru u1.toNatClampNeg u2) nu gv ca nw lo ke un cn fi fl pa sh od bd bs) H locs := ⟨hP, hD, hS⟩
      refine lv_aload_n hx hb d_MO_rule_70 rfl (lv_at hl 0 rfl) ?_
      refine va_get (ci := 6) (v := .ref (ad 4)) (C := R_MO) (T := F_MO) (N := 24) hx hb hg in_MO hown hK hw.1 0 rfl rfl 7 (by decide) (hg _ q_756) (fun _ h9 => h9) rfl d_MO_rule_71 ?_
      refine lv_iload_n hx hb d_MO_rule_74 rfl (lv_at hl 1 rfl) ?_
      refine lv_iload_n hx hb d_MO_rule_75 rfl (lv_at hl 3 rfl) ?_
      refine va_iast hx hb hK hw.1 hw.2.1 hw.2.2 4 0 rfl rfl hc1 d_MO_rule_76 (fun H locs hP hD hS => ?_)
      have hw : fw_H D vwCl A s.heap (wM ad cI cL j51s1 ki ce wi ma fo cu gr (upd ru u1.toNatClampNeg u2) (upd nu u1.toNatClampNeg u3) gv ca nw lo ke un cn fi fl pa sh od bd bs) H locs := ⟨hP, hD, hS⟩
      refine lv_aload_n hx hb d_MO_rule_77 rfl (lv_at hl 0 rfl) ?_
      refine ob h (fun r78 h78 h => ?_)
      refine fw_callV (As := []) (rest := []) (st1 := []) S (ct_MO_refresh l D ad cI cL N j51s1 ki ce wi ma fo cu gr (upd ru u1.toNatClampNeg u2) (upd nu u1.toNatClampNeg u3) gv ca nw lo ke un cn fi fl pa sh od bd bs r78 h78) q_741 q_743 s_18 q_10 k_MO_refresh hd_MO_refresh ⟨by rw [hR]; decide, by rw [hR]; decide⟩ rfl rfl hX hw hA 0 (ci := 6) rfl rfl hl.1 rfl rfl (Nat.le_of_ble_eq_true rfl) d_MO_rule_78 ⟨Nat.zero_le _, Nat.zero_le _⟩ rfl (fun H locs hw => ?_)
      refine lv_aload_n hx hb d_MO_rule_81 rfl (lv_at hl 0 rfl) ?_
      refine lv_iload_n hx hb d_MO_rule_82 rfl (lv_at hl 1 rfl) ?_
      refine ob h (fun r83 h83 h => ?_)
      refine fw_callV (As := [.int u1]) (rest := []) (st1 := [.int r83]) S (ct_MO_sizeOf l D ad cI cL N j51s1 ki ce wi ma fo cu gr (upd ru u1.toNatClampNeg u2) (upd nu u1.toNatClampNeg u3) gv r78 nw lo ke un cn fi fl pa sh od bd bs u1 r83 h83) q_849 q_851 s_21 q_10 k_MO_sizeOf hd_MO_sizeOf ⟨by rw [hR]; decide, by rw [hR]; decide⟩ rfl rfl hX hw hA 0 (ci := 6) rfl rfl hl.1 rfl rfl (Nat.le_of_ble_eq_true rfl) d_MO_rule_83 ⟨Nat.zero_le _, Nat.zero_le _⟩ rfl (fun H locs hw => ?_)
      have q := Option.some.inj h
      subst q
      exact fw_iret hQ S hr hlk hX hw d_MO_rule_86
    · have h := oe h hc
      refine lv_iconst (v := 0) hx hb d_MO_rule_61 (by decide) ?_
      have q := Option.some.inj h
      subst q
      exact fw_iret hQ S hr hlk hX hw d_MO_rule_62
  refine lv_icmp_eq (tgt := 13) hx hb d_MO_rule_6 (by decide) (fun hc => ?_) (fun hc => ?_)
  · have h := oi h hc
    refine lv_iload_n hx hb d_MO_rule_13 rfl (lv_at hl 1 rfl) ?_
    refine lv_if_lt (tgt := 23) hx hb d_MO_rule_14 (by decide) (fun hc => ?_) (fun hc => ?_)
    · have h := oi h hc
      refine lv_iconst (v := 2) hx hb d_MO_rule_23 (by decide) ?_
      refine lv_goto (tgt := 51) hx hb d_MO_rule_24 (by decide) ?_
      exact J51 (2 : Int32) h _ _ _ hl hw
    · have h := oe h hc
      refine lv_iload_n hx hb d_MO_rule_17 rfl (lv_at hl 1 rfl) ?_
      refine lv_bipush (v := 15) hx hb d_MO_rule_18 (by decide) ?_
      refine lv_icmp_le (tgt := 27) hx hb d_MO_rule_20 (by decide) (fun hc => ?_) (fun hc => ?_)
      · have h := oi h hc
        refine lv_iload_n hx hb d_MO_rule_27 rfl (lv_at hl 2 rfl) ?_
        refine lv_if_lt (tgt := 46) hx hb d_MO_rule_28 (by decide) (fun hc => ?_) (fun hc => ?_)
        · have h := oi h hc
          refine lv_iconst (v := 3) hx hb d_MO_rule_46 (by decide) ?_
          refine lv_goto (tgt := 51) hx hb d_MO_rule_47 (by decide) ?_
          exact J51 (3 : Int32) h _ _ _ hl hw
        · have h := oe h hc
          refine lv_iload_n hx hb d_MO_rule_31 rfl (lv_at hl 2 rfl) ?_
          refine lv_iconst (v := 2) hx hb d_MO_rule_32 (by decide) ?_
          refine lv_icmp_gt (tgt := 46) hx hb d_MO_rule_33 (by decide) (fun hc => ?_) (fun hc => ?_)
          · have h := oi h hc
            refine lv_iconst (v := 3) hx hb d_MO_rule_46 (by decide) ?_
            refine lv_goto (tgt := 51) hx hb d_MO_rule_47 (by decide) ?_
            exact J51 (3 : Int32) h _ _ _ hl hw
          · have h := oe h hc
            refine lv_iload_n hx hb d_MO_rule_36 rfl (lv_at hl 3 rfl) ?_
            refine lv_if_lt (tgt := 46) hx hb d_MO_rule_37 (by decide) (fun hc => ?_) (fun hc => ?_)
            · have h := oi h hc
              refine lv_iconst (v := 3) hx hb d_MO_rule_46 (by decide) ?_
              refine lv_goto (tgt := 51) hx hb d_MO_rule_47 (by decide) ?_
              exact J51 (3 : Int32) h _ _ _ hl hw
            · have h := oe h hc
              refine lv_iload_n hx hb d_MO_rule_40 rfl (lv_at hl 3 rfl) ?_
              refine lv_bipush (v := 99) hx hb d_MO_rule_41 (by decide) ?_
              refine lv_icmp_le (tgt := 50) hx hb d_MO_rule_43 (by decide) (fun hc => ?_) (fun hc => ?_)
              · have h := oi h hc
                refine lv_iconst (v := 0) hx hb d_MO_rule_50 (by decide) ?_
                exact J51 (0 : Int32) h _ _ _ hl hw
              · have h := oe h hc
                refine lv_iconst (v := 3) hx hb d_MO_rule_46 (by decide) ?_
                refine lv_goto (tgt := 51) hx hb d_MO_rule_47 (by decide) ?_
                exact J51 (3 : Int32) h _ _ _ hl hw
      · have h := oe h hc
        refine lv_iconst (v := 2) hx hb d_MO_rule_23 (by decide) ?_
        refine lv_goto (tgt := 51) hx hb d_MO_rule_24 (by decide) ?_
        exact J51 (2 : Int32) h _ _ _ hl hw
  · have h := oe h hc
    refine lv_iconst (v := 1) hx hb d_MO_rule_9 (by decide) ?_
    refine lv_goto (tgt := 51) hx hb d_MO_rule_10 (by decide) ?_
    exact J51 (1 : Int32) h _ _ _ hl hw
set_option maxHeartbeats 4000000 in
set_option maxRecDepth 100000 in
theorem ct_MO_isValue (l : Launch) (D : va_G) (ad : Nat → Nat) (cI cL : ClassId) (N : Nat) (th : Int32) (ki : Int32) (ce : Int32) (wi : Int32) (ma : Int32) (fo : Int32) (cu : Nat → Int32) (gr : Nat → Int32) (ru : Nat → Int32) (nu : Nat → Int32) (gv : Nat → Int32) (ca : Nat → Int32) (nw : Nat → Int32) (lo : Nat → Int32) (ke : Nat → Int32) (un : Nat → Int32) (cn : Nat → Int32) (fi : Nat → Int32) (fl : Nat → Int32) (pa : Nat → Int32) (sh : Nat → Int32) (od : Nat → Int32) (bd : Nat → Int32) (bs : Nat → Int32) (u1 : Int32) (out : Int32) (h : mi_MO_isValue N ki u1 = some out) : fw_C l y_MO_isValue (.code y_MO_isValue b_MO_isValue 2 (some .boolean) :: Gw) (fr 1 20) D vwCl (tyA cI cL) [.ref (ad 0), .int u1] (wM ad cI cL th ki ce wi ma fo cu gr ru nu gv ca nw lo ke un cn fi fl pa sh od bd bs) (some (.int out)) (wM ad cI cL th ki ce wi ma fo cu gr ru nu gv ca nw lo ke un cn fi fl pa sh od bd bs) := by
  refine fw_of (by decide) (Nat.le_of_ble_eq_true rfl) ?_
  intro p e s m args below meth c ls A R Q hR hQ S hr hlk hX hA hl hw
  have hK := hX.1
  have hx := S.1
  have hb := S.2.1
  have hown := S.2.2.2.1
  have hg := S.2.2.2.2
  have hl : lv_has ls 2 [(0, .ref (ad 0)), (1, .int u1)] := hl
  unfold mi_MO_isValue at h
  refine lv_iload_n hx hb d_MO_isValue_0 rfl (lv_at hl 1 rfl) ?_
  refine lv_if_lt (tgt := 25) hx hb d_MO_isValue_1 (by decide) (fun hc => ?_) (fun hc => ?_)
  · have h := oi h hc
    refine lv_iconst (v := 0) hx hb d_MO_isValue_25 (by decide) ?_
    have q := Option.some.inj h
    subst q
    exact fw_zret hQ S hr rfl hlk hX hw d_MO_isValue_26
  · have h := oe h hc
    refine lv_iload_n hx hb d_MO_isValue_4 rfl (lv_at hl 1 rfl) ?_
    refine lv_iconst (v := 5) hx hb d_MO_isValue_5 (by decide) ?_
    refine lv_icmp_ge (tgt := 25) hx hb d_MO_isValue_6 (by decide) (fun hc => ?_) (fun hc => ?_)
    · have h := oi h hc
      refine lv_iconst (v := 0) hx hb d_MO_isValue_25 (by decide) ?_
      have q := Option.some.inj h
      subst q
      exact fw_zret hQ S hr rfl hlk hX hw d_MO_isValue_26
    · have h := oe h hc
      refine lv_aload_n hx hb d_MO_isValue_9 rfl (lv_at hl 0 rfl) ?_
      refine ob h (fun r10 h10 h => ?_)
      refine fw_callV (As := []) (rest := []) (st1 := [.int r10]) S (ct_MO_allValues l D ad cI cL N th ki ce wi ma fo cu gr ru nu gv ca nw lo ke un cn fi fl pa sh od bd bs r10 h10) q_745 q_747 s_19 q_10 k_MO_allValues hd_MO_allValues ⟨by rw [hR]; decide, by rw [hR]; decide⟩ rfl rfl hX hw hA 0 (ci := 6) rfl rfl hl.1 rfl rfl (Nat.le_of_ble_eq_true rfl) d_MO_isValue_10 ⟨Nat.zero_le _, Nat.zero_le _⟩ rfl (fun H locs hw => ?_)
      refine lv_iload_n hx hb d_MO_isValue_13 rfl (lv_at hl 1 rfl) ?_
      refine lv_ishr hx hb d_MO_isValue_14 ?_
      refine lv_iconst (v := 1) hx hb d_MO_isValue_15 (by decide) ?_
      refine lv_iand hx hb d_MO_isValue_16 ?_
      refine lv_iconst (v := 1) hx hb d_MO_isValue_17 (by decide) ?_
      refine lv_icmp_ne (tgt := 25) hx hb d_MO_isValue_18 (by decide) (fun hc => ?_) (fun hc => ?_)
      · have h := oe h hc
        refine lv_iconst (v := 0) hx hb d_MO_isValue_25 (by decide) ?_
        have q := Option.some.inj h
        subst q
        exact fw_zret hQ S hr rfl hlk hX hw d_MO_isValue_26
      · have h := oi h hc
        refine lv_iconst (v := 1) hx hb d_MO_isValue_21 (by decide) ?_
        refine lv_goto (tgt := 26) hx hb d_MO_isValue_22 (by decide) ?_
        have q := Option.some.inj h
        subst q
        exact fw_zret hQ S hr rfl hlk hX hw d_MO_isValue_26
set_option maxHeartbeats 4000000 in
set_option maxRecDepth 100000 in
theorem ct_MO_give (l : Launch) (D : va_G) (ad : Nat → Nat) (cI cL : ClassId) (N : Nat) (th : Int32) (ki : Int32) (ce : Int32) (wi : Int32) (ma : Int32) (fo : Int32) (cu : Nat → Int32) (gr : Nat → Int32) (ru : Nat → Int32) (nu : Nat → Int32) (gv : Nat → Int32) (ca : Nat → Int32) (nw : Nat → Int32) (lo : Nat → Int32) (ke : Nat → Int32) (un : Nat → Int32) (cn : Nat → Int32) (fi : Nat → Int32) (fl : Nat → Int32) (pa : Nat → Int32) (sh : Nat → Int32) (od : Nat → Int32) (bd : Nat → Int32) (bs : Nat → Int32) (u1 : Int32) (u2 : Int32) (out : Int32 × Int32 × (Nat → Int32) × (Nat → Int32)) (h : mi_MO_give N th ki ce gv ca u1 u2 = some out) : fw_C l y_MO_give (.code y_MO_give b_MO_give 4 (some .int) :: Gw) (fr 2 41) D vwCl (tyA cI cL) [.ref (ad 0), .int u1, .int u2] (wM ad cI cL th ki ce wi ma fo cu gr ru nu gv ca nw lo ke un cn fi fl pa sh od bd bs) (some (.int out.1)) (wM ad cI cL out.2.1 ki ce wi ma fo cu gr ru nu out.2.2.1 out.2.2.2 nw lo ke un cn fi fl pa sh od bd bs) := by
  refine fw_of (by decide) (Nat.le_of_ble_eq_true rfl) ?_
  intro p e s m args below meth c ls A R Q hR hQ S hr hlk hX hA hl hw
  have hK := hX.1
  have hx := S.1
  have hb := S.2.1
  have hown := S.2.2.2.1
  have hg := S.2.2.2.2
  have hl : lv_has ls 4 [(0, .ref (ad 0)), (1, .int u1), (2, .int u2)] := hl
  unfold mi_MO_give at h
  refine lv_aload_n hx hb d_MO_give_0 rfl (lv_at hl 0 rfl) ?_
  refine lv_aload_n hx hb d_MO_give_1 rfl (lv_at hl 0 rfl) ?_
  refine lv_iload_n hx hb d_MO_give_2 rfl (lv_at hl 1 rfl) ?_
  refine ob h (fun r3 h3 h => ?_)
  refine fw_callV (As := [.int u1]) (rest := [.ref (ad 0)]) (st1 := [.int r3, .ref (ad 0)]) S (ct_MO_noCell l D ad cI cL N th ki ce wi ma fo cu gr ru nu gv ca nw lo ke un cn fi fl pa sh od bd bs u1 r3 h3) q_845 q_847 s_20 q_10 k_MO_noCell hd_MO_noCell ⟨by rw [hR]; decide, by rw [hR]; decide⟩ rfl rfl hX hw hA 0 (ci := 6) rfl rfl hl.1 rfl rfl (Nat.le_of_ble_eq_true rfl) d_MO_give_3 ⟨Nat.zero_le _, Nat.zero_le _⟩ rfl (fun H locs hw => ?_)
  have J31 : ∀ (j31s1 : Int32), mj_MO_give_31 N ki ce gv ca u1 u2 j31s1 = some out → ∀ (ls : Array Slot) (H : Heap) (locs : List Loc), lv_has ls 4 [(0, .ref (ad 0)), (1, .int u1), (2, .int u2)] → fw_H D vwCl A s.heap (wM ad cI cL th ki ce wi ma fo cu gr ru nu gv ca nw lo ke un cn fi fl pa sh od bd bs) H locs → W p l e R s m args below meth c H locs 0 0 Q (F0 m 31 ls [.int j31s1, .ref (ad 0)]) := by
    intro j31s1 h ls H locs hl hw
    unfold mj_MO_give_31 at h
    refine va_put (ci := 6) (v := .int j31s1) (ty := .int) (C := R_MO) (T := F_MO) (N := 24) hx hb hg in_MO t_MO t_MO_ok n_MO hown hK hw.1 hw.2.1 hw.2.2 0 rfl rfl 0 (by decide) (hg _ q_749) (fun _ h9 => h9) rfl (by decide +kernel) rfl rfl (Nat.le_of_ble_eq_true rfl) d_MO_give_31 (fun H locs hP hD hS => ?_)
    have hw : fw_H D vwCl A s.heap (wM ad cI cL j31s1 ki ce wi ma fo cu gr ru nu gv ca nw lo ke un cn fi fl pa sh od bd bs) H locs := ⟨hP, hD, hS⟩
    refine lv_aload_n hx hb d_MO_give_34 rfl (lv_at hl 0 rfl) ?_
    refine va_get (ci := 6) (v := .int j31s1) (C := R_MO) (T := F_MO) (N := 24) hx hb hg in_MO hown hK hw.1 0 rfl rfl 0 (by decide) (hg _ q_749) (fun _ h9 => h9) rfl d_MO_give_35 ?_
    refine lv_if_eq (tgt := 43) hx hb d_MO_give_38 (by decide) (fun hc => ?_) (fun hc => ?_)
    · have h := oi h hc
      refine lv_aload_n hx hb d_MO_give_43 rfl (lv_at hl 0 rfl) ?_
      refine va_get (ci := 6) (v := .ref (ad 5)) (C := R_MO) (T := F_MO) (N := 24) hx hb hg in_MO hown hK hw.1 0 rfl rfl 8 (by decide) (hg _ q_757) (fun _ h9 => h9) rfl d_MO_give_44 ?_
      refine lv_iload_n hx hb d_MO_give_47 rfl (lv_at hl 1 rfl) ?_
      refine oc h (fun hc1 h => ?_)
      refine va_iald hx hb hK hw.1 5 0 rfl rfl hc1 d_MO_give_48 ?_
      refine lv_istore_n (lv' := [(3, .int (gv u1.toNatClampNeg)), (0, .ref (ad 0)), (1, .int u1), (2, .int u2)]) hx hb d_MO_give_49 rfl hl (by decide) rfl (fun ls hl => ?_)
      refine lv_aload_n hx hb d_MO_give_50 rfl (lv_at hl 1 rfl) ?_
      refine va_get (ci := 6) (v := .ref (ad 5)) (C := R_MO) (T := F_MO) (N := 24) hx hb hg in_MO hown hK hw.1 0 rfl rfl 8 (by decide) (hg _ q_757) (fun _ h9 => h9) rfl d_MO_give_51 ?_
      refine lv_iload_n hx hb d_MO_give_54 rfl (lv_at hl 2 rfl) ?_
      refine lv_iload_n hx hb d_MO_give_55 rfl (lv_at hl 3 rfl) ?_
      refine va_iast hx hb hK hw.1 hw.2.1 hw.2.2 5 0 rfl rfl hc1 d_MO_give_56 (fun H locs hP hD hS => ?_)
      have hw : fw_H D vwCl A s.heap (wM ad cI cL j31s1 ki ce wi ma fo cu gr ru nu (upd gv u1.toNatClampNeg u2) ca nw lo ke un cn fi fl pa sh od bd bs) H locs := ⟨hP, hD, hS⟩
      refine lv_aload_n hx hb d_MO_give_57 rfl (lv_at hl 1 rfl) ?_
      refine ob h (fun r58 h58 h => ?_)
      refine fw_callV (As := []) (rest := []) (st1 := []) S (ct_MO_refresh l D ad cI cL N j31s1 ki ce wi ma fo cu gr ru nu (upd gv u1.toNatClampNeg u2) ca nw lo ke un cn fi fl pa sh od bd bs r58 h58) q_741 q_743 s_18 q_10 k_MO_refresh hd_MO_refresh ⟨by rw [hR]; decide, by rw [hR]; decide⟩ rfl rfl hX hw hA 0 (ci := 6) rfl rfl hl.1 rfl rfl (Nat.le_of_ble_eq_true rfl) d_MO_give_58 ⟨Nat.zero_le _, Nat.zero_le _⟩ rfl (fun H locs hw => ?_)
      refine lv_iload_n hx hb d_MO_give_61 rfl (lv_at hl 0 rfl) ?_
      have q := Option.some.inj h
      subst q
      exact fw_iret hQ S hr hlk hX hw d_MO_give_62
    · have h := oe h hc
      refine lv_iconst (v := 0) hx hb d_MO_give_41 (by decide) ?_
      have q := Option.some.inj h
      subst q
      exact fw_iret hQ S hr hlk hX hw d_MO_give_42
  refine lv_if_eq (tgt := 13) hx hb d_MO_give_6 (by decide) (fun hc => ?_) (fun hc => ?_)
  · have h := oi h hc
    refine lv_iload_n hx hb d_MO_give_13 rfl (lv_at hl 2 rfl) ?_
    refine lv_iconst (v := (-1)) hx hb d_MO_give_14 (by decide) ?_
    refine lv_icmp_eq (tgt := 30) hx hb d_MO_give_15 (by decide) (fun hc => ?_) (fun hc => ?_)
    · have h := oi h hc
      refine lv_iconst (v := 0) hx hb d_MO_give_30 (by decide) ?_
      exact J31 (0 : Int32) h _ _ _ hl hw
    · have h := oe h hc
      refine lv_aload_n hx hb d_MO_give_18 rfl (lv_at hl 0 rfl) ?_
      refine lv_iload_n hx hb d_MO_give_19 rfl (lv_at hl 2 rfl) ?_
      refine ob h (fun r20 h20 h => ?_)
      refine fw_callV (As := [.int u2]) (rest := [.ref (ad 0)]) (st1 := [.int r20, .ref (ad 0)]) S (ct_MO_isValue l D ad cI cL N th ki ce wi ma fo cu gr ru nu gv ca nw lo ke un cn fi fl pa sh od bd bs u2 r20 h20) q_861 q_863 s_22 q_10 k_MO_isValue hd_MO_isValue ⟨by rw [hR]; decide, by rw [hR]; decide⟩ rfl rfl hX hw hA 0 (ci := 6) rfl rfl hl.1 rfl rfl (Nat.le_of_ble_eq_true rfl) d_MO_give_20 ⟨Nat.zero_le _, Nat.zero_le _⟩ rfl (fun H locs hw => ?_)
      refine lv_if_ne (tgt := 30) hx hb d_MO_give_23 (by decide) (fun hc => ?_) (fun hc => ?_)
      · have h := oe h hc
        refine lv_iconst (v := 0) hx hb d_MO_give_30 (by decide) ?_
        exact J31 (0 : Int32) h _ _ _ hl hw
      · have h := oi h hc
        refine lv_iconst (v := 2) hx hb d_MO_give_26 (by decide) ?_
        refine lv_goto (tgt := 31) hx hb d_MO_give_27 (by decide) ?_
        exact J31 (2 : Int32) h _ _ _ hl hw
  · have h := oe h hc
    refine lv_iconst (v := 1) hx hb d_MO_give_9 (by decide) ?_
    refine lv_goto (tgt := 31) hx hb d_MO_give_10 (by decide) ?_
    exact J31 (1 : Int32) h _ _ _ hl hw
set_option maxHeartbeats 4000000 in
set_option maxRecDepth 100000 in
theorem ct_MO_given (l : Launch) (D : va_G) (ad : Nat → Nat) (cI cL : ClassId) (N : Nat) (th : Int32) (ki : Int32) (ce : Int32) (wi : Int32) (ma : Int32) (fo : Int32) (cu : Nat → Int32) (gr : Nat → Int32) (ru : Nat → Int32) (nu : Nat → Int32) (gv : Nat → Int32) (ca : Nat → Int32) (nw : Nat → Int32) (lo : Nat → Int32) (ke : Nat → Int32) (un : Nat → Int32) (cn : Nat → Int32) (fi : Nat → Int32) (fl : Nat → Int32) (pa : Nat → Int32) (sh : Nat → Int32) (od : Nat → Int32) (bd : Nat → Int32) (bs : Nat → Int32) (u1 : Int32) (out : Int32 × Int32) (h : mi_MO_given N th ce gv u1 = some out) : fw_C l y_MO_given (.code y_MO_given b_MO_given 2 (some .int) :: Gw) (fr 1 21) D vwCl (tyA cI cL) [.ref (ad 0), .int u1] (wM ad cI cL th ki ce wi ma fo cu gr ru nu gv ca nw lo ke un cn fi fl pa sh od bd bs) (some (.int out.1)) (wM ad cI cL out.2 ki ce wi ma fo cu gr ru nu gv ca nw lo ke un cn fi fl pa sh od bd bs) := by
  refine fw_of (by decide) (Nat.le_of_ble_eq_true rfl) ?_
  intro p e s m args below meth c ls A R Q hR hQ S hr hlk hX hA hl hw
  have hK := hX.1
  have hx := S.1
  have hb := S.2.1
  have hown := S.2.2.2.1
  have hg := S.2.2.2.2
  have hl : lv_has ls 2 [(0, .ref (ad 0)), (1, .int u1)] := hl
  unfold mi_MO_given at h
  refine lv_aload_n hx hb d_MO_given_0 rfl (lv_at hl 0 rfl) ?_
  refine lv_aload_n hx hb d_MO_given_1 rfl (lv_at hl 0 rfl) ?_
  refine lv_iload_n hx hb d_MO_given_2 rfl (lv_at hl 1 rfl) ?_
  refine ob h (fun r3 h3 h => ?_)
  refine fw_callV (As := [.int u1]) (rest := [.ref (ad 0)]) (st1 := [.int r3, .ref (ad 0)]) S (ct_MO_noCell l D ad cI cL N th ki ce wi ma fo cu gr ru nu gv ca nw lo ke un cn fi fl pa sh od bd bs u1 r3 h3) q_845 q_847 s_20 q_10 k_MO_noCell hd_MO_noCell ⟨by rw [hR]; decide, by rw [hR]; decide⟩ rfl rfl hX hw hA 0 (ci := 6) rfl rfl hl.1 rfl rfl (Nat.le_of_ble_eq_true rfl) d_MO_given_3 ⟨Nat.zero_le _, Nat.zero_le _⟩ rfl (fun H locs hw => ?_)
  have J14 : ∀ (j14s1 : Int32), mj_MO_given_14 gv u1 j14s1 = some out → ∀ (ls : Array Slot) (H : Heap) (locs : List Loc), lv_has ls 2 [(0, .ref (ad 0)), (1, .int u1)] → fw_H D vwCl A s.heap (wM ad cI cL th ki ce wi ma fo cu gr ru nu gv ca nw lo ke un cn fi fl pa sh od bd bs) H locs → W p l e R s m args below meth c H locs 0 0 Q (F0 m 14 ls [.int j14s1, .ref (ad 0)]) := by
    intro j14s1 h ls H locs hl hw
    unfold mj_MO_given_14 at h
    refine va_put (ci := 6) (v := .int j14s1) (ty := .int) (C := R_MO) (T := F_MO) (N := 24) hx hb hg in_MO t_MO t_MO_ok n_MO hown hK hw.1 hw.2.1 hw.2.2 0 rfl rfl 0 (by decide) (hg _ q_749) (fun _ h9 => h9) rfl (by decide +kernel) rfl rfl (Nat.le_of_ble_eq_true rfl) d_MO_given_14 (fun H locs hP hD hS => ?_)
    have hw : fw_H D vwCl A s.heap (wM ad cI cL j14s1 ki ce wi ma fo cu gr ru nu gv ca nw lo ke un cn fi fl pa sh od bd bs) H locs := ⟨hP, hD, hS⟩
    refine lv_aload_n hx hb d_MO_given_17 rfl (lv_at hl 0 rfl) ?_
    refine va_get (ci := 6) (v := .int j14s1) (C := R_MO) (T := F_MO) (N := 24) hx hb hg in_MO hown hK hw.1 0 rfl rfl 0 (by decide) (hg _ q_749) (fun _ h9 => h9) rfl d_MO_given_18 ?_
    refine lv_if_ne (tgt := 33) hx hb d_MO_given_21 (by decide) (fun hc => ?_) (fun hc => ?_)
    · have h := oe h hc
      refine lv_iconst (v := 0) hx hb d_MO_given_33 (by decide) ?_
      have q := Option.some.inj h
      subst q
      exact fw_iret hQ S hr hlk hX hw d_MO_given_34
    · have h := oi h hc
      refine lv_aload_n hx hb d_MO_given_24 rfl (lv_at hl 0 rfl) ?_
      refine va_get (ci := 6) (v := .ref (ad 5)) (C := R_MO) (T := F_MO) (N := 24) hx hb hg in_MO hown hK hw.1 0 rfl rfl 8 (by decide) (hg _ q_757) (fun _ h9 => h9) rfl d_MO_given_25 ?_
      refine lv_iload_n hx hb d_MO_given_28 rfl (lv_at hl 1 rfl) ?_
      refine oc h (fun hc1 h => ?_)
      refine va_iald hx hb hK hw.1 5 0 rfl rfl hc1 d_MO_given_29 ?_
      refine lv_goto (tgt := 34) hx hb d_MO_given_30 (by decide) ?_
      have q := Option.some.inj h
      subst q
      exact fw_iret hQ S hr hlk hX hw d_MO_given_34
  refine lv_if_eq (tgt := 13) hx hb d_MO_given_6 (by decide) (fun hc => ?_) (fun hc => ?_)
  · have h := oi h hc
    refine lv_iconst (v := 0) hx hb d_MO_given_13 (by decide) ?_
    exact J14 (0 : Int32) h _ _ _ hl hw
  · have h := oe h hc
    refine lv_iconst (v := 1) hx hb d_MO_given_9 (by decide) ?_
    refine lv_goto (tgt := 14) hx hb d_MO_given_10 (by decide) ?_
    exact J14 (1 : Int32) h _ _ _ hl hw
