theorem d_SQ_isRule_0 : decode b_SQ_isRule 0 = .ok (.iload_n 0, 1) := by decide +kernel
theorem d_SQ_isRule_1 : decode b_SQ_isRule 1 = .ok (.ifCond .eq 13, 3) := by decide +kernel
theorem d_SQ_isRule_4 : decode b_SQ_isRule 4 = .ok (.iload_n 0, 1) := by decide +kernel
theorem d_SQ_isRule_5 : decode b_SQ_isRule 5 = .ok (.iconst 1, 1) := by decide +kernel
theorem d_SQ_isRule_6 : decode b_SQ_isRule 6 = .ok (.if_icmp .eq 8, 3) := by decide +kernel
theorem d_SQ_isRule_9 : decode b_SQ_isRule 9 = .ok (.iload_n 0, 1) := by decide +kernel
theorem d_SQ_isRule_10 : decode b_SQ_isRule 10 = .ok (.iconst 2, 1) := by decide +kernel
theorem d_SQ_isRule_11 : decode b_SQ_isRule 11 = .ok (.if_icmp .ne 7, 3) := by decide +kernel
theorem d_SQ_isRule_14 : decode b_SQ_isRule 14 = .ok (.iconst 1, 1) := by decide +kernel
theorem d_SQ_isRule_15 : decode b_SQ_isRule 15 = .ok (.goto 4, 3) := by decide +kernel
theorem d_SQ_isRule_18 : decode b_SQ_isRule 18 = .ok (.iconst 0, 1) := by decide +kernel
theorem d_SQ_isRule_19 : decode b_SQ_isRule 19 = .ok (.ireturn, 1) := by decide +kernel
theorem d_SQ_makeNew_0 : decode b_SQ_makeNew 0 = .ok (.iconst 0, 1) := by decide +kernel
theorem d_SQ_makeNew_1 : decode b_SQ_makeNew 1 = .ok (.istore_n 1, 1) := by decide +kernel
theorem d_SQ_makeNew_2 : decode b_SQ_makeNew 2 = .ok (.iload_n 1, 1) := by decide +kernel
theorem d_SQ_makeNew_3 : decode b_SQ_makeNew 3 = .ok (.bipush 16, 2) := by decide +kernel
theorem d_SQ_makeNew_5 : decode b_SQ_makeNew 5 = .ok (.if_icmp .ge 30, 3) := by decide +kernel
theorem d_SQ_makeNew_8 : decode b_SQ_makeNew 8 = .ok (.aload_n 0, 1) := by decide +kernel
theorem d_SQ_makeNew_9 : decode b_SQ_makeNew 9 = .ok (.getfield 16, 3) := by decide +kernel
theorem d_SQ_makeNew_12 : decode b_SQ_makeNew 12 = .ok (.iload_n 1, 1) := by decide +kernel
theorem d_SQ_makeNew_13 : decode b_SQ_makeNew 13 = .ok (.iload_n 1, 1) := by decide +kernel
theorem d_SQ_makeNew_14 : decode b_SQ_makeNew 14 = .ok (.iastore, 1) := by decide +kernel
theorem d_SQ_makeNew_15 : decode b_SQ_makeNew 15 = .ok (.aload_n 0, 1) := by decide +kernel
theorem d_SQ_makeNew_16 : decode b_SQ_makeNew 16 = .ok (.getfield 9, 3) := by decide +kernel
theorem d_SQ_makeNew_19 : decode b_SQ_makeNew 19 = .ok (.iload_n 1, 1) := by decide +kernel
theorem d_SQ_makeNew_20 : decode b_SQ_makeNew 20 = .ok (.iconst 0, 1) := by decide +kernel
theorem d_SQ_makeNew_21 : decode b_SQ_makeNew 21 = .ok (.iastore, 1) := by decide +kernel
theorem d_SQ_makeNew_22 : decode b_SQ_makeNew 22 = .ok (.aload_n 0, 1) := by decide +kernel
theorem d_SQ_makeNew_23 : decode b_SQ_makeNew 23 = .ok (.getfield 13, 3) := by decide +kernel
theorem d_SQ_makeNew_26 : decode b_SQ_makeNew 26 = .ok (.iload_n 1, 1) := by decide +kernel
theorem d_SQ_makeNew_27 : decode b_SQ_makeNew 27 = .ok (.iconst 0, 1) := by decide +kernel
theorem d_SQ_makeNew_28 : decode b_SQ_makeNew 28 = .ok (.iastore, 1) := by decide +kernel
theorem d_SQ_makeNew_29 : decode b_SQ_makeNew 29 = .ok (.iinc 1 1, 3) := by decide +kernel
theorem d_SQ_makeNew_32 : decode b_SQ_makeNew 32 = .ok (.goto (-30), 3) := by decide +kernel
theorem d_SQ_makeNew_35 : decode b_SQ_makeNew 35 = .ok (.return_, 1) := by decide +kernel
theorem d_SQ_obeys_0 : decode b_SQ_obeys 0 = .ok (.iconst 0, 1) := by decide +kernel
theorem d_SQ_obeys_1 : decode b_SQ_obeys 1 = .ok (.istore 4, 2) := by decide +kernel
theorem d_SQ_obeys_3 : decode b_SQ_obeys 3 = .ok (.iconst 1, 1) := by decide +kernel
theorem d_SQ_obeys_4 : decode b_SQ_obeys 4 = .ok (.istore 5, 2) := by decide +kernel
theorem d_SQ_obeys_6 : decode b_SQ_obeys 6 = .ok (.aload_n 0, 1) := by decide +kernel
theorem d_SQ_obeys_7 : decode b_SQ_obeys 7 = .ok (.getfield 57, 3) := by decide +kernel
theorem d_SQ_obeys_10 : decode b_SQ_obeys 10 = .ok (.istore 6, 2) := by decide +kernel
theorem d_SQ_obeys_12 : decode b_SQ_obeys 12 = .ok (.iload 6, 2) := by decide +kernel
theorem d_SQ_obeys_14 : decode b_SQ_obeys 14 = .ok (.aload_n 0, 1) := by decide +kernel
theorem d_SQ_obeys_15 : decode b_SQ_obeys 15 = .ok (.getfield 57, 3) := by decide +kernel
theorem d_SQ_obeys_18 : decode b_SQ_obeys 18 = .ok (.aload_n 0, 1) := by decide +kernel
theorem d_SQ_obeys_19 : decode b_SQ_obeys 19 = .ok (.getfield 61, 3) := by decide +kernel
theorem d_SQ_obeys_22 : decode b_SQ_obeys 22 = .ok (.iadd, 1) := by decide +kernel
theorem d_SQ_obeys_23 : decode b_SQ_obeys 23 = .ok (.if_icmp .ge 32, 3) := by decide +kernel
theorem d_SQ_obeys_26 : decode b_SQ_obeys 26 = .ok (.iload_n 1, 1) := by decide +kernel
theorem d_SQ_obeys_27 : decode b_SQ_obeys 27 = .ok (.iconst 1, 1) := by decide +kernel
theorem d_SQ_obeys_28 : decode b_SQ_obeys 28 = .ok (.iload 6, 2) := by decide +kernel
theorem d_SQ_obeys_30 : decode b_SQ_obeys 30 = .ok (.ishl, 1) := by decide +kernel
theorem d_SQ_obeys_31 : decode b_SQ_obeys 31 = .ok (.iand, 1) := by decide +kernel
theorem d_SQ_obeys_32 : decode b_SQ_obeys 32 = .ok (.ifCond .eq 17, 3) := by decide +kernel
theorem d_SQ_obeys_35 : decode b_SQ_obeys 35 = .ok (.iload 4, 2) := by decide +kernel
theorem d_SQ_obeys_37 : decode b_SQ_obeys 37 = .ok (.iload 6, 2) := by decide +kernel
theorem d_SQ_obeys_39 : decode b_SQ_obeys 39 = .ok (.iadd, 1) := by decide +kernel
theorem d_SQ_obeys_40 : decode b_SQ_obeys 40 = .ok (.istore 4, 2) := by decide +kernel
theorem d_SQ_obeys_42 : decode b_SQ_obeys 42 = .ok (.iload 5, 2) := by decide +kernel
theorem d_SQ_obeys_44 : decode b_SQ_obeys 44 = .ok (.iload 6, 2) := by decide +kernel
theorem d_SQ_obeys_46 : decode b_SQ_obeys 46 = .ok (.imul, 1) := by decide +kernel
theorem d_SQ_obeys_47 : decode b_SQ_obeys 47 = .ok (.istore 5, 2) := by decide +kernel
theorem d_SQ_obeys_49 : decode b_SQ_obeys 49 = .ok (.iinc 6 1, 3) := by decide +kernel
theorem d_SQ_obeys_52 : decode b_SQ_obeys 52 = .ok (.goto (-40), 3) := by decide +kernel
theorem d_SQ_obeys_55 : decode b_SQ_obeys 55 = .ok (.iload_n 2, 1) := by decide +kernel
theorem d_SQ_obeys_56 : decode b_SQ_obeys 56 = .ok (.ifCond .eq 19, 3) := by decide +kernel
theorem d_SQ_obeys_59 : decode b_SQ_obeys 59 = .ok (.iload_n 2, 1) := by decide +kernel
theorem d_SQ_obeys_60 : decode b_SQ_obeys 60 = .ok (.iconst 1, 1) := by decide +kernel
theorem d_SQ_obeys_61 : decode b_SQ_obeys 61 = .ok (.if_icmp .ne 8, 3) := by decide +kernel
theorem d_SQ_obeys_64 : decode b_SQ_obeys 64 = .ok (.iload 4, 2) := by decide +kernel
theorem d_SQ_obeys_66 : decode b_SQ_obeys 66 = .ok (.goto 5, 3) := by decide +kernel
theorem d_SQ_obeys_69 : decode b_SQ_obeys 69 = .ok (.iload 5, 2) := by decide +kernel
theorem d_SQ_obeys_71 : decode b_SQ_obeys 71 = .ok (.iload_n 3, 1) := by decide +kernel
theorem d_SQ_obeys_72 : decode b_SQ_obeys 72 = .ok (.if_icmp .ne 7, 3) := by decide +kernel
theorem d_SQ_obeys_75 : decode b_SQ_obeys 75 = .ok (.iconst 1, 1) := by decide +kernel
theorem d_SQ_obeys_76 : decode b_SQ_obeys 76 = .ok (.goto 4, 3) := by decide +kernel
theorem d_SQ_obeys_79 : decode b_SQ_obeys 79 = .ok (.iconst 0, 1) := by decide +kernel
theorem d_SQ_obeys_80 : decode b_SQ_obeys 80 = .ok (.ireturn, 1) := by decide +kernel
theorem d_SQ_addWays_0 : decode b_SQ_addWays 0 = .ok (.iload_n 2, 1) := by decide +kernel
theorem d_SQ_addWays_1 : decode b_SQ_addWays 1 = .ok (.ifCond .ne 22, 3) := by decide +kernel
theorem d_SQ_addWays_4 : decode b_SQ_addWays 4 = .ok (.aload_n 0, 1) := by decide +kernel
theorem d_SQ_addWays_5 : decode b_SQ_addWays 5 = .ok (.iload 5, 2) := by decide +kernel
theorem d_SQ_addWays_7 : decode b_SQ_addWays 7 = .ok (.iload 6, 2) := by decide +kernel
theorem d_SQ_addWays_9 : decode b_SQ_addWays 9 = .ok (.iload 7, 2) := by decide +kernel
theorem d_SQ_addWays_11 : decode b_SQ_addWays 11 = .ok (.invokevirtual 47, 3) := by decide +kernel
theorem d_SQ_addWays_14 : decode b_SQ_addWays 14 = .ok (.ifCond .eq 8, 3) := by decide +kernel
theorem d_SQ_addWays_17 : decode b_SQ_addWays 17 = .ok (.aload_n 1, 1) := by decide +kernel
theorem d_SQ_addWays_18 : decode b_SQ_addWays 18 = .ok (.lload_n 3, 1) := by decide +kernel
theorem d_SQ_addWays_19 : decode b_SQ_addWays 19 = .ok (.invokevirtual 51, 3) := by decide +kernel
theorem d_SQ_addWays_22 : decode b_SQ_addWays 22 = .ok (.return_, 1) := by decide +kernel
theorem d_SQ_addWays_23 : decode b_SQ_addWays 23 = .ok (.iload_n 2, 1) := by decide +kernel
theorem d_SQ_addWays_24 : decode b_SQ_addWays 24 = .ok (.invokestatic 54, 3) := by decide +kernel
theorem d_SQ_addWays_27 : decode b_SQ_addWays 27 = .ok (.istore 8, 2) := by decide +kernel
theorem d_SQ_addWays_29 : decode b_SQ_addWays 29 = .ok (.aload_n 0, 1) := by decide +kernel
theorem d_SQ_addWays_30 : decode b_SQ_addWays 30 = .ok (.getfield 57, 3) := by decide +kernel
theorem d_SQ_addWays_33 : decode b_SQ_addWays 33 = .ok (.istore 9, 2) := by decide +kernel
theorem d_SQ_addWays_35 : decode b_SQ_addWays 35 = .ok (.iload 9, 2) := by decide +kernel
theorem d_SQ_addWays_37 : decode b_SQ_addWays 37 = .ok (.aload_n 0, 1) := by decide +kernel
theorem d_SQ_addWays_38 : decode b_SQ_addWays 38 = .ok (.getfield 57, 3) := by decide +kernel
theorem d_SQ_addWays_41 : decode b_SQ_addWays 41 = .ok (.aload_n 0, 1) := by decide +kernel
theorem d_SQ_addWays_42 : decode b_SQ_addWays 42 = .ok (.getfield 61, 3) := by decide +kernel
theorem d_SQ_addWays_45 : decode b_SQ_addWays 45 = .ok (.iadd, 1) := by decide +kernel
theorem d_SQ_addWays_46 : decode b_SQ_addWays 46 = .ok (.if_icmp .ge 53, 3) := by decide +kernel
theorem d_SQ_addWays_49 : decode b_SQ_addWays 49 = .ok (.iload 5, 2) := by decide +kernel
theorem d_SQ_addWays_51 : decode b_SQ_addWays 51 = .ok (.iconst 1, 1) := by decide +kernel
theorem d_SQ_addWays_52 : decode b_SQ_addWays 52 = .ok (.iload 9, 2) := by decide +kernel
theorem d_SQ_addWays_54 : decode b_SQ_addWays 54 = .ok (.ishl, 1) := by decide +kernel
theorem d_SQ_addWays_55 : decode b_SQ_addWays 55 = .ok (.iand, 1) := by decide +kernel
theorem d_SQ_addWays_56 : decode b_SQ_addWays 56 = .ok (.ifCond .ne 37, 3) := by decide +kernel
theorem d_SQ_addWays_59 : decode b_SQ_addWays 59 = .ok (.aload_n 0, 1) := by decide +kernel
theorem d_SQ_addWays_60 : decode b_SQ_addWays 60 = .ok (.aload_n 1, 1) := by decide +kernel
theorem d_SQ_addWays_61 : decode b_SQ_addWays 61 = .ok (.iload_n 2, 1) := by decide +kernel
theorem d_SQ_addWays_62 : decode b_SQ_addWays 62 = .ok (.iconst 1, 1) := by decide +kernel
theorem d_SQ_addWays_63 : decode b_SQ_addWays 63 = .ok (.iload 8, 2) := by decide +kernel
theorem d_SQ_addWays_65 : decode b_SQ_addWays 65 = .ok (.ishl, 1) := by decide +kernel
theorem d_SQ_addWays_66 : decode b_SQ_addWays 66 = .ok (.iconst (-1), 1) := by decide +kernel
theorem d_SQ_addWays_67 : decode b_SQ_addWays 67 = .ok (.ixor, 1) := by decide +kernel
theorem d_SQ_addWays_68 : decode b_SQ_addWays 68 = .ok (.iand, 1) := by decide +kernel
theorem d_SQ_addWays_69 : decode b_SQ_addWays 69 = .ok (.lload_n 3, 1) := by decide +kernel
theorem d_SQ_addWays_70 : decode b_SQ_addWays 70 = .ok (.aload_n 0, 1) := by decide +kernel
theorem d_SQ_addWays_71 : decode b_SQ_addWays 71 = .ok (.iload 8, 2) := by decide +kernel
theorem d_SQ_addWays_73 : decode b_SQ_addWays 73 = .ok (.iload 9, 2) := by decide +kernel
theorem d_SQ_addWays_75 : decode b_SQ_addWays 75 = .ok (.invokevirtual 64, 3) := by decide +kernel
theorem d_SQ_addWays_78 : decode b_SQ_addWays 78 = .ok (.lor, 1) := by decide +kernel
theorem d_SQ_addWays_79 : decode b_SQ_addWays 79 = .ok (.iload 5, 2) := by decide +kernel
theorem d_SQ_addWays_81 : decode b_SQ_addWays 81 = .ok (.iconst 1, 1) := by decide +kernel
theorem d_SQ_addWays_82 : decode b_SQ_addWays 82 = .ok (.iload 9, 2) := by decide +kernel
theorem d_SQ_addWays_84 : decode b_SQ_addWays 84 = .ok (.ishl, 1) := by decide +kernel
theorem d_SQ_addWays_85 : decode b_SQ_addWays 85 = .ok (.ior, 1) := by decide +kernel
theorem d_SQ_addWays_86 : decode b_SQ_addWays 86 = .ok (.iload 6, 2) := by decide +kernel
theorem d_SQ_addWays_88 : decode b_SQ_addWays 88 = .ok (.iload 7, 2) := by decide +kernel
theorem d_SQ_addWays_90 : decode b_SQ_addWays 90 = .ok (.invokevirtual 43, 3) := by decide +kernel
theorem d_SQ_addWays_93 : decode b_SQ_addWays 93 = .ok (.iinc 9 1, 3) := by decide +kernel
theorem d_SQ_addWays_96 : decode b_SQ_addWays 96 = .ok (.goto (-61), 3) := by decide +kernel
theorem d_SQ_addWays_99 : decode b_SQ_addWays 99 = .ok (.return_, 1) := by decide +kernel
theorem d_SQ_addUnlike_0 : decode b_SQ_addUnlike 0 = .ok (.aload_n 1, 1) := by decide +kernel
theorem d_SQ_addUnlike_1 : decode b_SQ_addUnlike 1 = .ok (.aload_n 0, 1) := by decide +kernel
theorem d_SQ_addUnlike_2 : decode b_SQ_addUnlike 2 = .ok (.iload_n 2, 1) := by decide +kernel
theorem d_SQ_addUnlike_3 : decode b_SQ_addUnlike 3 = .ok (.invokevirtual 33, 3) := by decide +kernel
theorem d_SQ_addUnlike_6 : decode b_SQ_addUnlike 6 = .ok (.invokevirtual 37, 3) := by decide +kernel
theorem d_SQ_addUnlike_9 : decode b_SQ_addUnlike 9 = .ok (.aload_n 0, 1) := by decide +kernel
theorem d_SQ_addUnlike_10 : decode b_SQ_addUnlike 10 = .ok (.aload_n 1, 1) := by decide +kernel
theorem d_SQ_addUnlike_11 : decode b_SQ_addUnlike 11 = .ok (.iload_n 2, 1) := by decide +kernel
theorem d_SQ_addUnlike_12 : decode b_SQ_addUnlike 12 = .ok (.lconst 0, 1) := by decide +kernel
theorem d_SQ_addUnlike_13 : decode b_SQ_addUnlike 13 = .ok (.iconst 0, 1) := by decide +kernel
theorem d_SQ_addUnlike_14 : decode b_SQ_addUnlike 14 = .ok (.iload_n 3, 1) := by decide +kernel
theorem d_SQ_addUnlike_15 : decode b_SQ_addUnlike 15 = .ok (.iload 4, 2) := by decide +kernel
theorem d_SQ_addUnlike_17 : decode b_SQ_addUnlike 17 = .ok (.invokevirtual 43, 3) := by decide +kernel
theorem d_SQ_addUnlike_20 : decode b_SQ_addUnlike 20 = .ok (.return_, 1) := by decide +kernel
theorem d_SQ_addFixedUnits_0 : decode b_SQ_addFixedUnits 0 = .ok (.iconst 0, 1) := by decide +kernel
theorem d_SQ_addFixedUnits_1 : decode b_SQ_addFixedUnits 1 = .ok (.istore_n 2, 1) := by decide +kernel
theorem d_SQ_addFixedUnits_2 : decode b_SQ_addFixedUnits 2 = .ok (.iload_n 2, 1) := by decide +kernel
theorem d_SQ_addFixedUnits_3 : decode b_SQ_addFixedUnits 3 = .ok (.iconst 4, 1) := by decide +kernel
theorem d_SQ_addFixedUnits_4 : decode b_SQ_addFixedUnits 4 = .ok (.if_icmp .ge 33, 3) := by decide +kernel
theorem d_SQ_addFixedUnits_7 : decode b_SQ_addFixedUnits 7 = .ok (.aload_n 0, 1) := by decide +kernel
theorem d_SQ_addFixedUnits_8 : decode b_SQ_addFixedUnits 8 = .ok (.aload_n 1, 1) := by decide +kernel
theorem d_SQ_addFixedUnits_9 : decode b_SQ_addFixedUnits 9 = .ok (.aload_n 0, 1) := by decide +kernel
theorem d_SQ_addFixedUnits_10 : decode b_SQ_addFixedUnits 10 = .ok (.iload_n 2, 1) := by decide +kernel
theorem d_SQ_addFixedUnits_11 : decode b_SQ_addFixedUnits 11 = .ok (.invokevirtual 19, 3) := by decide +kernel
theorem d_SQ_addFixedUnits_14 : decode b_SQ_addFixedUnits 14 = .ok (.iconst 0, 1) := by decide +kernel
theorem d_SQ_addFixedUnits_15 : decode b_SQ_addFixedUnits 15 = .ok (.iconst 0, 1) := by decide +kernel
theorem d_SQ_addFixedUnits_16 : decode b_SQ_addFixedUnits 16 = .ok (.invokevirtual 23, 3) := by decide +kernel
theorem d_SQ_addFixedUnits_19 : decode b_SQ_addFixedUnits 19 = .ok (.aload_n 0, 1) := by decide +kernel
theorem d_SQ_addFixedUnits_20 : decode b_SQ_addFixedUnits 20 = .ok (.aload_n 1, 1) := by decide +kernel
theorem d_SQ_addFixedUnits_21 : decode b_SQ_addFixedUnits 21 = .ok (.aload_n 0, 1) := by decide +kernel
theorem d_SQ_addFixedUnits_22 : decode b_SQ_addFixedUnits 22 = .ok (.iload_n 2, 1) := by decide +kernel
theorem d_SQ_addFixedUnits_23 : decode b_SQ_addFixedUnits 23 = .ok (.invokevirtual 27, 3) := by decide +kernel
theorem d_SQ_addFixedUnits_26 : decode b_SQ_addFixedUnits 26 = .ok (.iconst 0, 1) := by decide +kernel
theorem d_SQ_addFixedUnits_27 : decode b_SQ_addFixedUnits 27 = .ok (.iconst 0, 1) := by decide +kernel
theorem d_SQ_addFixedUnits_28 : decode b_SQ_addFixedUnits 28 = .ok (.invokevirtual 23, 3) := by decide +kernel
theorem d_SQ_addFixedUnits_31 : decode b_SQ_addFixedUnits 31 = .ok (.iinc 2 1, 3) := by decide +kernel
theorem d_SQ_addFixedUnits_34 : decode b_SQ_addFixedUnits 34 = .ok (.goto (-32), 3) := by decide +kernel
theorem d_SQ_addFixedUnits_37 : decode b_SQ_addFixedUnits 37 = .ok (.return_, 1) := by decide +kernel
theorem d_SQ_addOtherUnits_0 : decode b_SQ_addOtherUnits 0 = .ok (.iconst 0, 1) := by decide +kernel
theorem d_SQ_addOtherUnits_1 : decode b_SQ_addOtherUnits 1 = .ok (.istore_n 2, 1) := by decide +kernel
theorem d_SQ_addOtherUnits_2 : decode b_SQ_addOtherUnits 2 = .ok (.iload_n 2, 1) := by decide +kernel
theorem d_SQ_addOtherUnits_3 : decode b_SQ_addOtherUnits 3 = .ok (.bipush 16, 2) := by decide +kernel
theorem d_SQ_addOtherUnits_5 : decode b_SQ_addOtherUnits 5 = .ok (.if_icmp .ge 31, 3) := by decide +kernel
theorem d_SQ_addOtherUnits_8 : decode b_SQ_addOtherUnits 8 = .ok (.aload_n 0, 1) := by decide +kernel
theorem d_SQ_addOtherUnits_9 : decode b_SQ_addOtherUnits 9 = .ok (.aload_n 1, 1) := by decide +kernel
theorem d_SQ_addOtherUnits_10 : decode b_SQ_addOtherUnits 10 = .ok (.aload_n 0, 1) := by decide +kernel
theorem d_SQ_addOtherUnits_11 : decode b_SQ_addOtherUnits 11 = .ok (.iload_n 2, 1) := by decide +kernel
theorem d_SQ_addOtherUnits_12 : decode b_SQ_addOtherUnits 12 = .ok (.invokevirtual 30, 3) := by decide +kernel
theorem d_SQ_addOtherUnits_15 : decode b_SQ_addOtherUnits 15 = .ok (.aload_n 0, 1) := by decide +kernel
theorem d_SQ_addOtherUnits_16 : decode b_SQ_addOtherUnits 16 = .ok (.getfield 9, 3) := by decide +kernel
theorem d_SQ_addOtherUnits_19 : decode b_SQ_addOtherUnits 19 = .ok (.iload_n 2, 1) := by decide +kernel
theorem d_SQ_addOtherUnits_20 : decode b_SQ_addOtherUnits 20 = .ok (.iaload, 1) := by decide +kernel
theorem d_SQ_addOtherUnits_21 : decode b_SQ_addOtherUnits 21 = .ok (.aload_n 0, 1) := by decide +kernel
theorem d_SQ_addOtherUnits_22 : decode b_SQ_addOtherUnits 22 = .ok (.getfield 13, 3) := by decide +kernel
theorem d_SQ_addOtherUnits_25 : decode b_SQ_addOtherUnits 25 = .ok (.iload_n 2, 1) := by decide +kernel
theorem d_SQ_addOtherUnits_26 : decode b_SQ_addOtherUnits 26 = .ok (.iaload, 1) := by decide +kernel
theorem d_SQ_addOtherUnits_27 : decode b_SQ_addOtherUnits 27 = .ok (.invokevirtual 23, 3) := by decide +kernel
theorem d_SQ_addOtherUnits_30 : decode b_SQ_addOtherUnits 30 = .ok (.iinc 2 1, 3) := by decide +kernel
theorem d_SQ_addOtherUnits_33 : decode b_SQ_addOtherUnits 33 = .ok (.goto (-31), 3) := by decide +kernel
theorem d_SQ_addOtherUnits_36 : decode b_SQ_addOtherUnits 36 = .ok (.return_, 1) := by decide +kernel
set_option maxHeartbeats 4000000 in
set_option maxRecDepth 100000 in
theorem ct_SQ_isRule (l : Launch) (D : va_G) (tys : List (ClassId × FieldType)) (w0 : va_W) (N : Nat)  (u0 : Int32) (out : Int32) (h : mi_SQ_isRule N u0 = some out) : fw_C l y_SQ_isRule (.code y_SQ_isRule b_SQ_isRule 1 (some .boolean) :: Gw) (fr 0 0) D vwCl tys [.int u0] (w0) (some (.int out)) (w0) := by
  refine fw_of (by decide) (Nat.le_of_ble_eq_true rfl) ?_
  intro p e s m args below meth c ls A R Q hR hQ S hr hlk hX hA hl hw
  have hK := hX.1
  have hx := S.1
  have hb := S.2.1
  have hown := S.2.2.2.1
  have hg := S.2.2.2.2
  have hl : lv_has ls 1 [(0, .int u0)] := hl
  unfold mi_SQ_isRule at h
  refine lv_iload_n hx hb d_SQ_isRule_0 rfl (lv_at hl 0 rfl) ?_
  refine lv_if_eq (tgt := 14) hx hb d_SQ_isRule_1 (by decide) (fun hc => ?_) (fun hc => ?_)
  · have h := oi h hc
    refine lv_iconst (v := 1) hx hb d_SQ_isRule_14 (by decide) ?_
    refine lv_goto (tgt := 19) hx hb d_SQ_isRule_15 (by decide) ?_
    have q := Option.some.inj h
    subst q
    exact fw_zret hQ S hr rfl hlk hX hw d_SQ_isRule_19
  · have h := oe h hc
    refine lv_iload_n hx hb d_SQ_isRule_4 rfl (lv_at hl 0 rfl) ?_
    refine lv_iconst (v := 1) hx hb d_SQ_isRule_5 (by decide) ?_
    refine lv_icmp_eq (tgt := 14) hx hb d_SQ_isRule_6 (by decide) (fun hc => ?_) (fun hc => ?_)
    · have h := oi h hc
      refine lv_iconst (v := 1) hx hb d_SQ_isRule_14 (by decide) ?_
      refine lv_goto (tgt := 19) hx hb d_SQ_isRule_15 (by decide) ?_
      have q := Option.some.inj h
      subst q
      exact fw_zret hQ S hr rfl hlk hX hw d_SQ_isRule_19
    · have h := oe h hc
      refine lv_iload_n hx hb d_SQ_isRule_9 rfl (lv_at hl 0 rfl) ?_
      refine lv_iconst (v := 2) hx hb d_SQ_isRule_10 (by decide) ?_
      refine lv_icmp_ne (tgt := 18) hx hb d_SQ_isRule_11 (by decide) (fun hc => ?_) (fun hc => ?_)
      · have h := oe h hc
        refine lv_iconst (v := 0) hx hb d_SQ_isRule_18 (by decide) ?_
        have q := Option.some.inj h
        subst q
        exact fw_zret hQ S hr rfl hlk hX hw d_SQ_isRule_19
      · have h := oi h hc
        refine lv_iconst (v := 1) hx hb d_SQ_isRule_14 (by decide) ?_
        refine lv_goto (tgt := 19) hx hb d_SQ_isRule_15 (by decide) ?_
        have q := Option.some.inj h
        subst q
        exact fw_zret hQ S hr rfl hlk hX hw d_SQ_isRule_19
set_option maxHeartbeats 4000000 in
set_option maxRecDepth 100000 in
theorem ct_SQ_makeNew (l : Launch) (D : va_G) (ad : Nat → Nat) (cI cL : ClassId) (N : Nat) (kk : Nat) (kn : Int32) (le : Int64) (ff : Int64) (fo : Int32) (ct : Int32) (fx : Int32) (gv : Nat → Int32) (pg : Nat → Int32) (cu : Nat → Int32) (co : Nat → Int32) (sg : Nat → Int32) (ru : Nat → Int32) (nu : Nat → Int32) (tg : Nat → Int32) (sc : Nat → Int64) (sr : Nat → Int32) (wy : Nat → Int64)  (out : (Nat → Int32) × (Nat → Int32) × (Nat → Int32)) (h : mi_SQ_makeNew N sg ru nu = some out) : fw_C l y_SQ_makeNew (.code y_SQ_makeNew b_SQ_makeNew 2 (none) :: Gw) (fr 0 0) D vwCl (tyA cI cL) [.ref (ad 2)] (wC ad cI cL kk kn le ff fo ct fx gv pg cu co sg ru nu tg sc sr wy) none (wC ad cI cL kk kn le ff fo ct fx gv pg cu co out.1 out.2.1 out.2.2 tg sc sr wy) := by
  refine fw_of (by decide) (Nat.le_of_ble_eq_true rfl) ?_
  intro p e s m args below meth c ls A R Q hR hQ S hr hlk hX hA hl hw
  have hK := hX.1
  have hx := S.1
  have hb := S.2.1
  have hown := S.2.2.2.1
  have hg := S.2.2.2.2
  have hl : lv_has ls 2 [(0, .ref (ad 2))] := hl
  unfold mi_SQ_makeNew at h
  refine lv_iconst (v := 0) hx hb d_SQ_makeNew_0 (by decide) ?_
  refine lv_istore_n (lv' := [(1, .int (0 : Int32)), (0, .ref (ad 2))]) hx hb d_SQ_makeNew_1 rfl hl (by decide) rfl (fun ls hl => ?_)
  have X2 : ∀ (y2 : Int32 × (Nat → Int32) × (Nat → Int32) × (Nat → Int32)), mr_SQ_makeNew_2 y2 = some out → ∀ (ls : Array Slot) (H : Heap) (locs : List Loc), lv_has ls 2 [] → fw_H D vwCl A s.heap (wC ad cI cL kk kn le ff fo ct fx gv pg cu co y2.2.1 y2.2.2.1 y2.2.2.2 tg sc sr wy) H locs → W p l e R s m args below meth c H locs 0 0 Q (F0 m 35 ls []) := by
    intro y2 h ls H locs hl hw
    unfold mr_SQ_makeNew_2 at h
    have q := Option.some.inj h
    subst q
    exact fw_vret hQ S hr hlk hX hw d_SQ_makeNew_35
  have L2 : ∀ (n2 : Nat) (x2 : Int32 × (Nat → Int32) × (Nat → Int32) × (Nat → Int32)) (e2 : Int32 × (Nat → Int32) × (Nat → Int32) × (Nat → Int32)), lp (mb_SQ_makeNew_2) n2 x2 = some e2 → (mr_SQ_makeNew_2) e2 = some out → ∀ (ls : Array Slot) (H : Heap) (locs : List Loc), lv_has ls 2 [(0, .ref (ad 2)), (1, .int x2.1)] → fw_H D vwCl A s.heap (wC ad cI cL kk kn le ff fo ct fx gv pg cu co x2.2.1 x2.2.2.1 x2.2.2.2 tg sc sr wy) H locs → W p l e R s m args below meth c H locs 0 0 Q (F0 m 2 ls []) := by
    intro n2
    induction n2 with
    | zero => intro x2 e2 h1; exact absurd h1 lp_0
    | succ n2 ih2 =>
      intro x2 e2 h1 hr2 ls H locs hl hw
      rw [lp_s] at h1
      refine ob h1 (fun r2 h hk2 => ?_)
      unfold mb_SQ_makeNew_2 at h
      refine lv_iload_n hx hb d_SQ_makeNew_2 rfl (lv_at hl 1 rfl) ?_
      refine lv_bipush (v := 16) hx hb d_SQ_makeNew_3 (by decide) ?_
      refine lv_icmp_ge (tgt := 35) hx hb d_SQ_makeNew_5 (by decide) (fun hc => ?_) (fun hc => ?_)
      · have h := oi h hc
        have q := Option.some.inj h
        subst q
        have q := Option.some.inj hk2
        subst q
        exact X2 (x2.1, x2.2.1, x2.2.2.1, x2.2.2.2) hr2 _ _ _ (lv_sub hl [] rfl) hw
      · have h := oe h hc
        refine lv_aload_n hx hb d_SQ_makeNew_8 rfl (lv_at hl 0 rfl) ?_
        refine va_get (ci := 2) (v := .ref (ad 10)) (C := R_SQ) (T := F_SQ) (N := 8) hx hb hg in_SQ hown hK hw.1 2 rfl rfl 5 (by decide) (hg _ q_64) (u_same (hg _ q_65)) rfl d_SQ_makeNew_9 ?_
        refine lv_iload_n hx hb d_SQ_makeNew_12 rfl (lv_at hl 1 rfl) ?_
        refine lv_iload_n hx hb d_SQ_makeNew_13 rfl (lv_at hl 1 rfl) ?_
        refine oc h (fun hc1 h => ?_)
        refine va_iast hx hb hK hw.1 hw.2.1 hw.2.2 10 0 rfl rfl hc1 d_SQ_makeNew_14 (fun H locs hP hD hS => ?_)
        have hw : fw_H D vwCl A s.heap (wC ad cI cL kk kn le ff fo ct fx gv pg cu co (upd x2.2.1 x2.1.toNatClampNeg x2.1) x2.2.2.1 x2.2.2.2 tg sc sr wy) H locs := ⟨hP, hD, hS⟩
        refine lv_aload_n hx hb d_SQ_makeNew_15 rfl (lv_at hl 0 rfl) ?_
        refine va_get (ci := 2) (v := .ref (ad 11)) (C := R_SQ) (T := F_SQ) (N := 8) hx hb hg in_SQ hown hK hw.1 2 rfl rfl 6 (by decide) (hg _ q_91) (fun _ h9 => h9) rfl d_SQ_makeNew_16 ?_
        refine lv_iload_n hx hb d_SQ_makeNew_19 rfl (lv_at hl 1 rfl) ?_
        refine lv_iconst (v := 0) hx hb d_SQ_makeNew_20 (by decide) ?_
        refine va_iast hx hb hK hw.1 hw.2.1 hw.2.2 11 0 rfl rfl hc1 d_SQ_makeNew_21 (fun H locs hP hD hS => ?_)
        have hw : fw_H D vwCl A s.heap (wC ad cI cL kk kn le ff fo ct fx gv pg cu co (upd x2.2.1 x2.1.toNatClampNeg x2.1) (upd x2.2.2.1 x2.1.toNatClampNeg (0 : Int32)) x2.2.2.2 tg sc sr wy) H locs := ⟨hP, hD, hS⟩
        refine lv_aload_n hx hb d_SQ_makeNew_22 rfl (lv_at hl 0 rfl) ?_
        refine va_get (ci := 2) (v := .ref (ad 12)) (C := R_SQ) (T := F_SQ) (N := 8) hx hb hg in_SQ hown hK hw.1 2 rfl rfl 7 (by decide) (hg _ q_93) (fun _ h9 => h9) rfl d_SQ_makeNew_23 ?_
        refine lv_iload_n hx hb d_SQ_makeNew_26 rfl (lv_at hl 1 rfl) ?_
        refine lv_iconst (v := 0) hx hb d_SQ_makeNew_27 (by decide) ?_
        refine va_iast hx hb hK hw.1 hw.2.1 hw.2.2 12 0 rfl rfl hc1 d_SQ_makeNew_28 (fun H locs hP hD hS => ?_)
        have hw : fw_H D vwCl A s.heap (wC ad cI cL kk kn le ff fo ct fx gv pg cu co (upd x2.2.1 x2.1.toNatClampNeg x2.1) (upd x2.2.2.1 x2.1.toNatClampNeg (0 : Int32)) (upd x2.2.2.2 x2.1.toNatClampNeg (0 : Int32)) tg sc sr wy) H locs := ⟨hP, hD, hS⟩
        refine lv_iinc (k := 1) (v := x2.1 + 1) (lv' := [(1, .int (x2.1 + 1)), (0, .ref (ad 2))]) hx hb d_SQ_makeNew_29 hl rfl (by rw [lit1]) (by decide) rfl (fun ls hl => ?_)
        refine lv_goto (tgt := 2) hx hb d_SQ_makeNew_32 (by decide) ?_
        have q := Option.some.inj h
        subst q
        exact ih2 (x2.1 + 1, upd x2.2.1 x2.1.toNatClampNeg x2.1, upd x2.2.2.1 x2.1.toNatClampNeg (0 : Int32), upd x2.2.2.2 x2.1.toNatClampNeg (0 : Int32)) e2 hk2 hr2 _ _ _ (lv_sub hl [1, 0] rfl) hw
  refine ob h (fun e2 h1 h2 => ?_)
  exact L2 N ((0 : Int32), sg, ru, nu) e2 h1 h2 _ _ _ (lv_sub hl [1, 0] rfl) hw
set_option maxHeartbeats 4000000 in
set_option maxRecDepth 100000 in
theorem ct_SQ_obeys (l : Launch) (D : va_G) (ad : Nat → Nat) (cI cL : ClassId) (N : Nat) (kk : Nat) (kn : Int32) (le : Int64) (ff : Int64) (fo : Int32) (ct : Int32) (fx : Int32) (gv : Nat → Int32) (pg : Nat → Int32) (cu : Nat → Int32) (co : Nat → Int32) (sg : Nat → Int32) (ru : Nat → Int32) (nu : Nat → Int32) (tg : Nat → Int32) (sc : Nat → Int64) (sr : Nat → Int32) (wy : Nat → Int64) (u1 : Int32) (u2 : Int32) (u3 : Int32) (out : Int32) (h : mi_SQ_obeys N u1 u2 u3 = some out) : fw_C l y_SQ_obeys (.code y_SQ_obeys b_SQ_obeys 7 (some .boolean) :: Gw) (fr 0 0) D vwCl (tyA cI cL) [.ref (ad 2), .int u1, .int u2, .int u3] (wC ad cI cL kk kn le ff fo ct fx gv pg cu co sg ru nu tg sc sr wy) (some (.int out)) (wC ad cI cL kk kn le ff fo ct fx gv pg cu co sg ru nu tg sc sr wy) := by
  refine fw_of (by decide) (Nat.le_of_ble_eq_true rfl) ?_
  intro p e s m args below meth c ls A R Q hR hQ S hr hlk hX hA hl hw
  have hK := hX.1
  have hx := S.1
  have hb := S.2.1
  have hown := S.2.2.2.1
  have hg := S.2.2.2.2
  have hl : lv_has ls 7 [(0, .ref (ad 2)), (1, .int u1), (2, .int u2), (3, .int u3)] := hl
  unfold mi_SQ_obeys at h
  refine lv_iconst (v := 0) hx hb d_SQ_obeys_0 (by decide) ?_
  refine lv_istore (lv' := [(4, .int (0 : Int32)), (0, .ref (ad 2)), (1, .int u1), (2, .int u2), (3, .int u3)]) hx hb d_SQ_obeys_1 hl (by decide) rfl (fun ls hl => ?_)
  refine lv_iconst (v := 1) hx hb d_SQ_obeys_3 (by decide) ?_
  refine lv_istore (lv' := [(5, .int (1 : Int32)), (4, .int (0 : Int32)), (0, .ref (ad 2)), (1, .int u1), (2, .int u2), (3, .int u3)]) hx hb d_SQ_obeys_4 hl (by decide) rfl (fun ls hl => ?_)
  refine lv_aload_n hx hb d_SQ_obeys_6 rfl (lv_at hl 2 rfl) ?_
  refine va_get (ci := 2) (v := .int (1 : Int32)) (C := R_SQ) (T := F_SQ) (N := 8) hx hb hg in_SQ hown hK hw.1 2 rfl rfl 2 (by decide) (hg _ q_51) (u_same (hg _ q_52)) rfl d_SQ_obeys_7 ?_
  refine lv_istore (lv' := [(6, .int (1 : Int32)), (5, .int (1 : Int32)), (4, .int (0 : Int32)), (0, .ref (ad 2)), (1, .int u1), (2, .int u2), (3, .int u3)]) hx hb d_SQ_obeys_10 hl (by decide) rfl (fun ls hl => ?_)
  have X12 : ∀ (y12 : Int32 × Int32 × Int32), mr_SQ_obeys_12 u2 u3 y12 = some out → ∀ (ls : Array Slot) (H : Heap) (locs : List Loc), lv_has ls 7 [(2, .int u2), (3, .int u3), (4, .int y12.1), (5, .int y12.2.1)] → fw_H D vwCl A s.heap (wC ad cI cL kk kn le ff fo ct fx gv pg cu co sg ru nu tg sc sr wy) H locs → W p l e R s m args below meth c H locs 0 0 Q (F0 m 55 ls []) := by
    intro y12 h ls H locs hl hw
    unfold mr_SQ_obeys_12 at h
    refine lv_iload_n hx hb d_SQ_obeys_55 rfl (lv_at hl 0 rfl) ?_
    refine lv_if_eq (tgt := 75) hx hb d_SQ_obeys_56 (by decide) (fun hc => ?_) (fun hc => ?_)
    · have h := oi h hc
      refine lv_iconst (v := 1) hx hb d_SQ_obeys_75 (by decide) ?_
      refine lv_goto (tgt := 80) hx hb d_SQ_obeys_76 (by decide) ?_
      have q := Option.some.inj h
      subst q
      exact fw_zret hQ S hr rfl hlk hX hw d_SQ_obeys_80
    · have h := oe h hc
      refine lv_iload_n hx hb d_SQ_obeys_59 rfl (lv_at hl 0 rfl) ?_
      refine lv_iconst (v := 1) hx hb d_SQ_obeys_60 (by decide) ?_
      refine lv_icmp_ne (tgt := 69) hx hb d_SQ_obeys_61 (by decide) (fun hc => ?_) (fun hc => ?_)
      · have h := oe h hc
        refine lv_iload hx hb d_SQ_obeys_69 (lv_at hl 3 rfl) ?_
        refine lv_iload_n hx hb d_SQ_obeys_71 rfl (lv_at hl 1 rfl) ?_
        refine lv_icmp_ne (tgt := 79) hx hb d_SQ_obeys_72 (by decide) (fun hc => ?_) (fun hc => ?_)
        · have h := oe h hc
          refine lv_iconst (v := 0) hx hb d_SQ_obeys_79 (by decide) ?_
          have q := Option.some.inj h
          subst q
          exact fw_zret hQ S hr rfl hlk hX hw d_SQ_obeys_80
        · have h := oi h hc
          refine lv_iconst (v := 1) hx hb d_SQ_obeys_75 (by decide) ?_
          refine lv_goto (tgt := 80) hx hb d_SQ_obeys_76 (by decide) ?_
          have q := Option.some.inj h
          subst q
          exact fw_zret hQ S hr rfl hlk hX hw d_SQ_obeys_80
      · have h := oi h hc
        refine lv_iload hx hb d_SQ_obeys_64 (lv_at hl 2 rfl) ?_
        refine lv_goto (tgt := 71) hx hb d_SQ_obeys_66 (by decide) ?_
        refine lv_iload_n hx hb d_SQ_obeys_71 rfl (lv_at hl 1 rfl) ?_
        refine lv_icmp_ne (tgt := 79) hx hb d_SQ_obeys_72 (by decide) (fun hc => ?_) (fun hc => ?_)
        · have h := oe h hc
          refine lv_iconst (v := 0) hx hb d_SQ_obeys_79 (by decide) ?_
          have q := Option.some.inj h
          subst q
          exact fw_zret hQ S hr rfl hlk hX hw d_SQ_obeys_80
        · have h := oi h hc
          refine lv_iconst (v := 1) hx hb d_SQ_obeys_75 (by decide) ?_
          refine lv_goto (tgt := 80) hx hb d_SQ_obeys_76 (by decide) ?_
          have q := Option.some.inj h
          subst q
          exact fw_zret hQ S hr rfl hlk hX hw d_SQ_obeys_80
  have L12 : ∀ (n12 : Nat) (x12 : Int32 × Int32 × Int32) (e12 : Int32 × Int32 × Int32), lp (mb_SQ_obeys_12 u1) n12 x12 = some e12 → (mr_SQ_obeys_12 u2 u3) e12 = some out → ∀ (ls : Array Slot) (H : Heap) (locs : List Loc), lv_has ls 7 [(0, .ref (ad 2)), (1, .int u1), (2, .int u2), (3, .int u3), (4, .int x12.1), (5, .int x12.2.1), (6, .int x12.2.2)] → fw_H D vwCl A s.heap (wC ad cI cL kk kn le ff fo ct fx gv pg cu co sg ru nu tg sc sr wy) H locs → W p l e R s m args below meth c H locs 0 0 Q (F0 m 12 ls []) := by
    intro n12
    induction n12 with
    | zero => intro x12 e12 h1; exact absurd h1 lp_0
    | succ n12 ih12 =>
      intro x12 e12 h1 hr12 ls H locs hl hw
      rw [lp_s] at h1
      refine ob h1 (fun r12 h hk12 => ?_)
      unfold mb_SQ_obeys_12 at h
      refine lv_iload hx hb d_SQ_obeys_12 (lv_at hl 6 rfl) ?_
      refine lv_aload_n hx hb d_SQ_obeys_14 rfl (lv_at hl 0 rfl) ?_
      refine va_get (ci := 2) (v := .int (1 : Int32)) (C := R_SQ) (T := F_SQ) (N := 8) hx hb hg in_SQ hown hK hw.1 2 rfl rfl 2 (by decide) (hg _ q_51) (u_same (hg _ q_52)) rfl d_SQ_obeys_15 ?_
      refine lv_aload_n hx hb d_SQ_obeys_18 rfl (lv_at hl 0 rfl) ?_
      refine va_get (ci := 2) (v := .int (4 : Int32)) (C := R_SQ) (T := F_SQ) (N := 8) hx hb hg in_SQ hown hK hw.1 2 rfl rfl 3 (by decide) (hg _ q_55) (u_same (hg _ q_56)) rfl d_SQ_obeys_19 ?_
      refine lv_iadd hx hb d_SQ_obeys_22 ?_
      refine lv_icmp_ge (tgt := 55) hx hb d_SQ_obeys_23 (by decide) (fun hc => ?_) (fun hc => ?_)
      · have h := oi h hc
        have q := Option.some.inj h
        subst q
        have q := Option.some.inj hk12
        subst q
        exact X12 (x12.1, x12.2.1, x12.2.2) hr12 _ _ _ (lv_sub hl [2, 3, 4, 5] rfl) hw
      · have h := oe h hc
        refine lv_iload_n hx hb d_SQ_obeys_26 rfl (lv_at hl 1 rfl) ?_
        refine lv_iconst (v := 1) hx hb d_SQ_obeys_27 (by decide) ?_
        refine lv_iload hx hb d_SQ_obeys_28 (lv_at hl 6 rfl) ?_
        refine lv_ishl hx hb d_SQ_obeys_30 ?_
        refine lv_iand hx hb d_SQ_obeys_31 ?_
        refine lv_if_eq (tgt := 49) hx hb d_SQ_obeys_32 (by decide) (fun hc => ?_) (fun hc => ?_)
        · have h := oi h hc
          refine lv_iinc (k := 6) (v := x12.2.2 + 1) (lv' := [(6, .int (x12.2.2 + 1)), (0, .ref (ad 2)), (1, .int u1), (2, .int u2), (3, .int u3), (4, .int x12.1), (5, .int x12.2.1)]) hx hb d_SQ_obeys_49 hl rfl (by rw [lit1]) (by decide) rfl (fun ls hl => ?_)
          refine lv_goto (tgt := 12) hx hb d_SQ_obeys_52 (by decide) ?_
          have q := Option.some.inj h
          subst q
          exact ih12 (x12.1, x12.2.1, x12.2.2 + 1) e12 hk12 hr12 _ _ _ (lv_sub hl [1, 2, 3, 4, 5, 6, 0] rfl) hw
        · have h := oe h hc
          refine lv_iload hx hb d_SQ_obeys_35 (lv_at hl 4 rfl) ?_
          refine lv_iload hx hb d_SQ_obeys_37 (lv_at hl 6 rfl) ?_
          refine lv_iadd hx hb d_SQ_obeys_39 ?_
          refine lv_istore (lv' := [(4, .int (x12.1 + x12.2.2)), (0, .ref (ad 2)), (1, .int u1), (2, .int u2), (3, .int u3), (5, .int x12.2.1), (6, .int x12.2.2)]) hx hb d_SQ_obeys_40 hl (by decide) rfl (fun ls hl => ?_)
          refine lv_iload hx hb d_SQ_obeys_42 (lv_at hl 5 rfl) ?_
          refine lv_iload hx hb d_SQ_obeys_44 (lv_at hl 6 rfl) ?_
          refine lv_imul hx hb d_SQ_obeys_46 ?_
          refine lv_istore (lv' := [(5, .int (x12.2.1 * x12.2.2)), (4, .int (x12.1 + x12.2.2)), (0, .ref (ad 2)), (1, .int u1), (2, .int u2), (3, .int u3), (6, .int x12.2.2)]) hx hb d_SQ_obeys_47 hl (by decide) rfl (fun ls hl => ?_)
          refine lv_iinc (k := 6) (v := x12.2.2 + 1) (lv' := [(6, .int (x12.2.2 + 1)), (5, .int (x12.2.1 * x12.2.2)), (4, .int (x12.1 + x12.2.2)), (0, .ref (ad 2)), (1, .int u1), (2, .int u2), (3, .int u3)]) hx hb d_SQ_obeys_49 hl rfl (by rw [lit1]) (by decide) rfl (fun ls hl => ?_)
          refine lv_goto (tgt := 12) hx hb d_SQ_obeys_52 (by decide) ?_
          have q := Option.some.inj h
          subst q
          exact ih12 (x12.1 + x12.2.2, x12.2.1 * x12.2.2, x12.2.2 + 1) e12 hk12 hr12 _ _ _ (lv_sub hl [3, 4, 5, 6, 2, 1, 0] rfl) hw
  refine ob h (fun e12 h1 h2 => ?_)
  exact L12 N ((0 : Int32), (1 : Int32), (1 : Int32)) e12 h1 h2 _ _ _ (lv_sub hl [3, 4, 5, 6, 2, 1, 0] rfl) hw
set_option maxHeartbeats 4000000 in
set_option maxRecDepth 100000 in
theorem ct_SQ_addWays (l : Launch) (D : va_G) (ad : Nat → Nat) (cI cL : ClassId) (N : Nat) : ∀ (dd : Nat) (kk : Nat) (kn : Int32) (le : Int64) (ff : Int64) (fo : Int32) (ct : Int32) (fx : Int32) (gv : Nat → Int32) (pg : Nat → Int32) (cu : Nat → Int32) (co : Nat → Int32) (sg : Nat → Int32) (ru : Nat → Int32) (nu : Nat → Int32) (tg : Nat → Int32) (sc : Nat → Int64) (sr : Nat → Int32) (wy : Nat → Int64) (u2 : Int32) (u3 : Int64) (u5 : Int32) (u6 : Int32) (u7 : Int32) (out : (Nat → Int32) × (Nat → Int64)) (h : mi_SQ_addWays N dd ct sr wy u2 u3 u5 u6 u7 = some out), fw_C l y_SQ_addWays (.code y_SQ_addWays b_SQ_addWays 10 (none) :: Gw) (fr (2 + dd) (40 + dd * 29)) D vwCl (tyA cI cL) [.ref (ad 2), .ref (ad 5), .int u2, .long u3, .int u5, .int u6, .int u7] (wC ad cI cL kk kn le ff fo ct fx gv pg cu co sg ru nu tg sc sr wy) none (wC ad cI cL kk kn le ff fo ct fx gv pg cu co sg ru nu tg sc out.1 out.2) := by
  intro dd
  induction dd with
  | zero => intro kk kn le ff fo ct fx gv pg cu co sg ru nu tg sc sr wy u2 u3 u5 u6 u7 out h; exact absurd h (fun q => nomatch q)
  | succ dd ih =>
    intro kk kn le ff fo ct fx gv pg cu co sg ru nu tg sc sr wy u2 u3 u5 u6 u7 out h
    have h : mn_SQ_addWays N (mi_SQ_addWays N dd) ct sr wy u2 u3 u5 u6 u7 = some out := h
    generalize mi_SQ_addWays N dd = rc at h ih
    refine fw_of (by decide) (Nat.le_of_ble_eq_true rfl) ?_
    intro p e s m args below meth c ls A R Q hR hQ S hr hlk hX hA hl hw
    have hK := hX.1
    have hx := S.1
    have hb := S.2.1
    have hown := S.2.2.2.1
    have hg := S.2.2.2.2
    have hl : lv_has ls 10 [(0, .ref (ad 2)), (1, .ref (ad 5)), (2, .int u2), (3, .long u3), (5, .int u5), (6, .int u6), (7, .int u7)] := hl
    unfold mn_SQ_addWays at h
    refine lv_iload_n hx hb d_SQ_addWays_0 rfl (lv_at hl 2 rfl) ?_
    refine lv_if_ne (tgt := 23) hx hb d_SQ_addWays_1 (by decide) (fun hc => ?_) (fun hc => ?_)
    · have h := oe h hc
      refine lv_iload_n hx hb d_SQ_addWays_23 rfl (lv_at hl 2 rfl) ?_
      refine ob h (fun r24 h24 h => ?_)
      refine fw_callSU (As := [.int u2]) (rest := []) (st1 := [.int r24]) S (ct_KD_firstOf l D (tyA cI cL) (wC ad cI cL kk kn le ff fo ct fx gv pg cu co sg ru nu tg sc sr wy) N u2 r24 h24) q_228 q_229 q_231 q_2 k_KD_firstOf hd_KD_firstOf rfl ⟨by rw [hR]; exact (by omega : 1 + 1 ≤ 2 + (dd + 1)), by rw [hR]; exact (by omega : 8 + (1 + 11) + 20 ≤ 40 + (dd + 1) * 29)⟩ rfl rfl hX hw hA hl.1 rfl rfl (Nat.le_of_ble_eq_true rfl) d_SQ_addWays_24 ⟨Nat.zero_le _, Nat.zero_le _⟩ rfl (fun H locs hw => ?_)
      refine lv_istore (lv' := [(8, .int r24), (0, .ref (ad 2)), (1, .ref (ad 5)), (2, .int u2), (3, .long u3), (5, .int u5), (6, .int u6), (7, .int u7)]) hx hb d_SQ_addWays_27 hl (by decide) rfl (fun ls hl => ?_)
      refine lv_aload_n hx hb d_SQ_addWays_29 rfl (lv_at hl 1 rfl) ?_
      refine va_get (ci := 2) (v := .int (1 : Int32)) (C := R_SQ) (T := F_SQ) (N := 8) hx hb hg in_SQ hown hK hw.1 2 rfl rfl 2 (by decide) (hg _ q_51) (u_same (hg _ q_52)) rfl d_SQ_addWays_30 ?_
      refine lv_istore (lv' := [(9, .int (1 : Int32)), (8, .int r24), (0, .ref (ad 2)), (1, .ref (ad 5)), (2, .int u2), (3, .long u3), (5, .int u5), (6, .int u6), (7, .int u7)]) hx hb d_SQ_addWays_33 hl (by decide) rfl (fun ls hl => ?_)
      have X35 : ∀ (y35 : Int32 × (Nat → Int32) × (Nat → Int64)), mr_SQ_addWays_35 y35 = some out → ∀ (ls : Array Slot) (H : Heap) (locs : List Loc), lv_has ls 10 [] → fw_H D vwCl A s.heap (wC ad cI cL kk kn le ff fo ct fx gv pg cu co sg ru nu tg sc y35.2.1 y35.2.2) H locs → W p l e R s m args below meth c H locs 0 0 Q (F0 m 99 ls []) := by
        intro y35 h ls H locs hl hw
        unfold mr_SQ_addWays_35 at h
        have q := Option.some.inj h
        subst q
        exact fw_vret hQ S hr hlk hX hw d_SQ_addWays_99
      have L35 : ∀ (n35 : Nat) (x35 : Int32 × (Nat → Int32) × (Nat → Int64)) (e35 : Int32 × (Nat → Int32) × (Nat → Int64)), lp (mb_SQ_addWays_35 N rc ct u2 u3 u5 u6 u7 r24) n35 x35 = some e35 → (mr_SQ_addWays_35) e35 = some out → ∀ (ls : Array Slot) (H : Heap) (locs : List Loc), lv_has ls 10 [(0, .ref (ad 2)), (1, .ref (ad 5)), (2, .int u2), (3, .long u3), (5, .int u5), (6, .int u6), (7, .int u7), (8, .int r24), (9, .int x35.1)] → fw_H D vwCl A s.heap (wC ad cI cL kk kn le ff fo ct fx gv pg cu co sg ru nu tg sc x35.2.1 x35.2.2) H locs → W p l e R s m args below meth c H locs 0 0 Q (F0 m 35 ls []) := by
        intro n35
        induction n35 with
        | zero => intro x35 e35 h1; exact absurd h1 lp_0
        | succ n35 ih35 =>
          intro x35 e35 h1 hr35 ls H locs hl hw
          rw [lp_s] at h1
          refine ob h1 (fun r35 h hk35 => ?_)
          unfold mb_SQ_addWays_35 at h
          refine lv_iload hx hb d_SQ_addWays_35 (lv_at hl 8 rfl) ?_
          refine lv_aload_n hx hb d_SQ_addWays_37 rfl (lv_at hl 0 rfl) ?_
          refine va_get (ci := 2) (v := .int (1 : Int32)) (C := R_SQ) (T := F_SQ) (N := 8) hx hb hg in_SQ hown hK hw.1 2 rfl rfl 2 (by decide) (hg _ q_51) (u_same (hg _ q_52)) rfl d_SQ_addWays_38 ?_
          refine lv_aload_n hx hb d_SQ_addWays_41 rfl (lv_at hl 0 rfl) ?_
          refine va_get (ci := 2) (v := .int (4 : Int32)) (C := R_SQ) (T := F_SQ) (N := 8) hx hb hg in_SQ hown hK hw.1 2 rfl rfl 3 (by decide) (hg _ q_55) (u_same (hg _ q_56)) rfl d_SQ_addWays_42 ?_
          refine lv_iadd hx hb d_SQ_addWays_45 ?_
          refine lv_icmp_ge (tgt := 99) hx hb d_SQ_addWays_46 (by decide) (fun hc => ?_) (fun hc => ?_)
          · have h := oi h hc
            have q := Option.some.inj h
            subst q
            have q := Option.some.inj hk35
            subst q
            exact X35 (x35.1, x35.2.1, x35.2.2) hr35 _ _ _ (lv_sub hl [] rfl) hw
          · have h := oe h hc
            refine lv_iload hx hb d_SQ_addWays_49 (lv_at hl 4 rfl) ?_
            refine lv_iconst (v := 1) hx hb d_SQ_addWays_51 (by decide) ?_
            refine lv_iload hx hb d_SQ_addWays_52 (lv_at hl 8 rfl) ?_
            refine lv_ishl hx hb d_SQ_addWays_54 ?_
            refine lv_iand hx hb d_SQ_addWays_55 ?_
            refine lv_if_ne (tgt := 93) hx hb d_SQ_addWays_56 (by decide) (fun hc => ?_) (fun hc => ?_)
            · have h := oe h hc
              refine lv_iinc (k := 8) (v := x35.1 + 1) (lv' := [(9, .int (x35.1 + 1)), (0, .ref (ad 2)), (1, .ref (ad 5)), (2, .int u2), (3, .long u3), (5, .int u5), (6, .int u6), (7, .int u7), (8, .int r24)]) hx hb d_SQ_addWays_93 hl rfl (by rw [lit1]) (by decide) rfl (fun ls hl => ?_)
              refine lv_goto (tgt := 35) hx hb d_SQ_addWays_96 (by decide) ?_
              have q := Option.some.inj h
              subst q
              exact ih35 (x35.1 + 1, x35.2.1, x35.2.2) e35 hk35 hr35 _ _ _ (lv_sub hl [1, 2, 3, 4, 5, 6, 7, 8, 0] rfl) hw
            · have h := oi h hc
              refine lv_aload_n hx hb d_SQ_addWays_59 rfl (lv_at hl 0 rfl) ?_
              refine lv_aload_n hx hb d_SQ_addWays_60 rfl (lv_at hl 1 rfl) ?_
              refine lv_iload_n hx hb d_SQ_addWays_61 rfl (lv_at hl 2 rfl) ?_
              refine lv_iconst (v := 1) hx hb d_SQ_addWays_62 (by decide) ?_
              refine lv_iload hx hb d_SQ_addWays_63 (lv_at hl 7 rfl) ?_
              refine lv_ishl hx hb d_SQ_addWays_65 ?_
              refine lv_iconst (v := (-1)) hx hb d_SQ_addWays_66 (by decide) ?_
              refine lv_ixor hx hb d_SQ_addWays_67 ?_
              refine lv_iand hx hb d_SQ_addWays_68 ?_
              refine lv_lload_n hx hb d_SQ_addWays_69 rfl (lv_at hl 3 rfl) ?_
              refine lv_aload_n hx hb d_SQ_addWays_70 rfl (lv_at hl 0 rfl) ?_
              refine lv_iload hx hb d_SQ_addWays_71 (lv_at hl 7 rfl) ?_
              refine lv_iload hx hb d_SQ_addWays_73 (lv_at hl 8 rfl) ?_
              refine ob h (fun r75 h75 h => ?_)
              refine fw_callU (As := [.int r24, .int x35.1]) (rest := [.long u3, .int (u2 &&& (((1 : Int32) <<< (r24 &&& 31)) ^^^ (-1 : Int32))), .ref (ad 5), .ref (ad 2)]) (st1 := [.long r75, .long u3, .int (u2 &&& (((1 : Int32) <<< (r24 &&& 31)) ^^^ (-1 : Int32))), .ref (ad 5), .ref (ad 2)]) S (ct_KD_bit l D ad cI cL N 2 K3_2 kk kn le ff fo ct fx gv pg cu co sg ru nu tg sc x35.2.1 x35.2.2 r24 x35.1 r75 h75) q_239 q_240 q_242 q_243 q_2 k_KD_bit hd_KD_bit rfl ⟨by rw [hR]; exact (by omega : 0 + 1 ≤ 2 + (dd + 1)), by rw [hR]; exact (by omega : 8 + (3 + 11) + 0 ≤ 40 + (dd + 1) * 29)⟩ rfl rfl hX hw hA 2 (ci := 2) rfl rfl hl.1 rfl rfl (Nat.le_of_ble_eq_true rfl) d_SQ_addWays_75 ⟨Nat.zero_le _, Nat.zero_le _⟩ rfl (fun H locs hw => ?_)
              refine lv_lor hx hb d_SQ_addWays_78 ?_
              refine lv_iload hx hb d_SQ_addWays_79 (lv_at hl 4 rfl) ?_
              refine lv_iconst (v := 1) hx hb d_SQ_addWays_81 (by decide) ?_
              refine lv_iload hx hb d_SQ_addWays_82 (lv_at hl 8 rfl) ?_
              refine lv_ishl hx hb d_SQ_addWays_84 ?_
              refine lv_ior hx hb d_SQ_addWays_85 ?_
              refine lv_iload hx hb d_SQ_addWays_86 (lv_at hl 5 rfl) ?_
              refine lv_iload hx hb d_SQ_addWays_88 (lv_at hl 6 rfl) ?_
              refine ob h (fun r90 h90 h => ?_)
              refine fw_callV (As := [.ref (ad 5), .int (u2 &&& (((1 : Int32) <<< (r24 &&& 31)) ^^^ (-1 : Int32))), .long (u3 ||| r75), .int (u5 ||| ((1 : Int32) <<< (x35.1 &&& 31))), .int u6, .int u7]) (rest := []) (st1 := []) S (ih kk kn le ff fo ct fx gv pg cu co sg ru nu tg sc x35.2.1 x35.2.2 (u2 &&& (((1 : Int32) <<< (r24 &&& 31)) ^^^ (-1 : Int32))) (u3 ||| r75) (u5 ||| ((1 : Int32) <<< (x35.1 &&& 31))) u6 u7 r90 h90) q_216 q_218 s_2 q_4 k_SQ_addWays hd_SQ_addWays ⟨by rw [hR]; exact (by omega : 2 + dd + 1 ≤ 2 + (dd + 1)), by rw [hR]; exact (by omega : 8 + (10 + 11) + (40 + dd * 29) ≤ 40 + (dd + 1) * 29)⟩ rfl rfl hX hw hA 2 (ci := 2) rfl rfl hl.1 rfl rfl (Nat.le_of_ble_eq_true rfl) d_SQ_addWays_90 ⟨Nat.zero_le _, Nat.zero_le _⟩ rfl (fun H locs hw => ?_)
              refine lv_iinc (k := 8) (v := x35.1 + 1) (lv' := [(9, .int (x35.1 + 1)), (0, .ref (ad 2)), (1, .ref (ad 5)), (2, .int u2), (3, .long u3), (5, .int u5), (6, .int u6), (7, .int u7), (8, .int r24)]) hx hb d_SQ_addWays_93 hl rfl (by rw [lit1]) (by decide) rfl (fun ls hl => ?_)
              refine lv_goto (tgt := 35) hx hb d_SQ_addWays_96 (by decide) ?_
              have q := Option.some.inj h
              subst q
              exact ih35 (x35.1 + 1, r90.1, r90.2) e35 hk35 hr35 _ _ _ (lv_sub hl [1, 2, 3, 4, 5, 6, 7, 8, 0] rfl) hw
      refine ob h (fun e35 h1 h2 => ?_)
      exact L35 N ((1 : Int32), sr, wy) e35 h1 h2 _ _ _ (lv_sub hl [2, 3, 4, 5, 6, 7, 8, 1, 0] rfl) hw
    · have h := oi h hc
      refine lv_aload_n hx hb d_SQ_addWays_4 rfl (lv_at hl 0 rfl) ?_
      refine lv_iload hx hb d_SQ_addWays_5 (lv_at hl 4 rfl) ?_
      refine lv_iload hx hb d_SQ_addWays_7 (lv_at hl 5 rfl) ?_
      refine lv_iload hx hb d_SQ_addWays_9 (lv_at hl 6 rfl) ?_
      refine ob h (fun r11 h11 h => ?_)
      refine fw_callV (As := [.int u5, .int u6, .int u7]) (rest := []) (st1 := [.int r11]) S (ct_SQ_obeys l D ad cI cL N kk kn le ff fo ct fx gv pg cu co sg ru nu tg sc sr wy u5 u6 u7 r11 h11) q_220 q_222 s_3 q_4 k_SQ_obeys hd_SQ_obeys ⟨by rw [hR]; exact (by omega : 0 + 1 ≤ 2 + (dd + 1)), by rw [hR]; exact (by omega : 8 + (7 + 11) + 0 ≤ 40 + (dd + 1) * 29)⟩ rfl rfl hX hw hA 2 (ci := 2) rfl rfl hl.1 rfl rfl (Nat.le_of_ble_eq_true rfl) d_SQ_addWays_11 ⟨Nat.zero_le _, Nat.zero_le _⟩ rfl (fun H locs hw => ?_)
      refine lv_if_eq (tgt := 22) hx hb d_SQ_addWays_14 (by decide) (fun hc => ?_) (fun hc => ?_)
      · have h := oi h hc
        have q := Option.some.inj h
        subst q
        exact fw_vret hQ S hr hlk hX hw d_SQ_addWays_22
      · have h := oe h hc
        refine lv_aload_n hx hb d_SQ_addWays_17 rfl (lv_at hl 1 rfl) ?_
        refine lv_lload_n hx hb d_SQ_addWays_18 rfl (lv_at hl 3 rfl) ?_
        refine ob h (fun r19 h19 h => ?_)
        refine fw_callV (As := [.long u3]) (rest := []) (st1 := []) S (ct_UN_addWay l D ad cI cL N kk kn le ff fo ct fx gv pg cu co sg ru nu tg sc sr wy u3 r19 h19) q_224 q_225 q_226 q_7 k_UN_addWay hd_UN_addWay ⟨by rw [hR]; exact (by omega : 0 + 1 ≤ 2 + (dd + 1)), by rw [hR]; exact (by omega : 8 + (4 + 11) + 0 ≤ 40 + (dd + 1) * 29)⟩ rfl rfl hX hw hA 5 (ci := 5) rfl rfl hl.1 rfl rfl (Nat.le_of_ble_eq_true rfl) d_SQ_addWays_19 ⟨Nat.zero_le _, Nat.zero_le _⟩ rfl (fun H locs hw => ?_)
        have q := Option.some.inj h
        subst q
        exact fw_vret hQ S hr hlk hX hw d_SQ_addWays_22
set_option maxHeartbeats 4000000 in
set_option maxRecDepth 100000 in
theorem ct_SQ_addUnlike (l : Launch) (D : va_G) (ad : Nat → Nat) (cI cL : ClassId) (N : Nat) (kk : Nat) (kn : Int32) (le : Int64) (ff : Int64) (fo : Int32) (ct : Int32) (fx : Int32) (gv : Nat → Int32) (pg : Nat → Int32) (cu : Nat → Int32) (co : Nat → Int32) (sg : Nat → Int32) (ru : Nat → Int32) (nu : Nat → Int32) (tg : Nat → Int32) (sc : Nat → Int64) (sr : Nat → Int32) (wy : Nat → Int64) (u2 : Int32) (u3 : Int32) (u4 : Int32) (out : Int32 × (Nat → Int64) × (Nat → Int32) × (Nat → Int64)) (h : mi_SQ_addUnlike N ct sc sr wy u2 u3 u4 = some out) : fw_C l y_SQ_addUnlike (.code y_SQ_addUnlike b_SQ_addUnlike 5 (none) :: Gw) (fr 9 243) D vwCl (tyA cI cL) [.ref (ad 2), .ref (ad 5), .int u2, .int u3, .int u4] (wC ad cI cL kk kn le ff fo ct fx gv pg cu co sg ru nu tg sc sr wy) none (wC ad cI cL kk kn le ff fo out.1 fx gv pg cu co sg ru nu tg out.2.1 out.2.2.1 out.2.2.2) := by
  refine fw_of (by decide) (Nat.le_of_ble_eq_true rfl) ?_
  intro p e s m args below meth c ls A R Q hR hQ S hr hlk hX hA hl hw
  have hK := hX.1
  have hx := S.1
  have hb := S.2.1
  have hown := S.2.2.2.1
  have hg := S.2.2.2.2
  have hl : lv_has ls 5 [(0, .ref (ad 2)), (1, .ref (ad 5)), (2, .int u2), (3, .int u3), (4, .int u4)] := hl
  unfold mi_SQ_addUnlike at h
  refine lv_aload_n hx hb d_SQ_addUnlike_0 rfl (lv_at hl 1 rfl) ?_
  refine lv_aload_n hx hb d_SQ_addUnlike_1 rfl (lv_at hl 0 rfl) ?_
  refine lv_iload_n hx hb d_SQ_addUnlike_2 rfl (lv_at hl 2 rfl) ?_
  refine ob h (fun r3 h3 h => ?_)
  refine fw_callU (As := [.int u2]) (rest := [.ref (ad 5)]) (st1 := [.long r3, .ref (ad 5)]) S (ct_KD_scopeOf l D ad cI cL N 2 K3_2 kk kn le ff fo ct fx gv pg cu co sg ru nu tg sc sr wy u2 r3 h3) q_199 q_200 q_202 q_203 q_2 k_KD_scopeOf hd_KD_scopeOf rfl ⟨by rw [hR]; decide, by rw [hR]; decide⟩ rfl rfl hX hw hA 2 (ci := 2) rfl rfl hl.1 rfl rfl (Nat.le_of_ble_eq_true rfl) d_SQ_addUnlike_3 ⟨Nat.zero_le _, Nat.zero_le _⟩ rfl (fun H locs hw => ?_)
  refine ob h (fun r6 h6 h => ?_)
  refine fw_callV (As := [.long r3]) (rest := []) (st1 := []) S (ct_UN_begin l D ad cI cL N kk kn le ff fo ct fx gv pg cu co sg ru nu tg sc sr wy r3 r6 h6) q_212 q_213 q_214 q_7 k_UN_begin hd_UN_begin ⟨by rw [hR]; decide, by rw [hR]; decide⟩ rfl rfl hX hw hA 5 (ci := 5) rfl rfl hl.1 rfl rfl (Nat.le_of_ble_eq_true rfl) d_SQ_addUnlike_6 ⟨Nat.zero_le _, Nat.zero_le _⟩ rfl (fun H locs hw => ?_)
  refine lv_aload_n hx hb d_SQ_addUnlike_9 rfl (lv_at hl 0 rfl) ?_
  refine lv_aload_n hx hb d_SQ_addUnlike_10 rfl (lv_at hl 1 rfl) ?_
  refine lv_iload_n hx hb d_SQ_addUnlike_11 rfl (lv_at hl 2 rfl) ?_
  refine lv_lconst (v := 0) hx hb d_SQ_addUnlike_12 (by decide) ?_
  refine lv_iconst (v := 0) hx hb d_SQ_addUnlike_13 (by decide) ?_
  refine lv_iload_n hx hb d_SQ_addUnlike_14 rfl (lv_at hl 3 rfl) ?_
  refine lv_iload hx hb d_SQ_addUnlike_15 (lv_at hl 4 rfl) ?_
  refine ob h (fun r17 h17 h => ?_)
  refine fw_callV (As := [.ref (ad 5), .int u2, .long (0 : Int64), .int (0 : Int32), .int u3, .int u4]) (rest := []) (st1 := []) S (ct_SQ_addWays l D ad cI cL N 6 kk kn le ff fo r6.1 fx gv pg cu co sg ru nu tg r6.2.1 r6.2.2 wy u2 (0 : Int64) (0 : Int32) u3 u4 r17 h17) q_216 q_218 s_2 q_4 k_SQ_addWays hd_SQ_addWays ⟨by rw [hR]; decide, by rw [hR]; decide⟩ rfl rfl hX hw hA 2 (ci := 2) rfl rfl hl.1 rfl rfl (Nat.le_of_ble_eq_true rfl) d_SQ_addUnlike_17 ⟨Nat.zero_le _, Nat.zero_le _⟩ rfl (fun H locs hw => ?_)
  have q := Option.some.inj h
  subst q
  exact fw_vret hQ S hr hlk hX hw d_SQ_addUnlike_20
set_option maxHeartbeats 4000000 in
set_option maxRecDepth 100000 in
theorem ct_SQ_addFixedUnits (l : Launch) (D : va_G) (ad : Nat → Nat) (cI cL : ClassId) (N : Nat) (kk : Nat) (kn : Int32) (le : Int64) (ff : Int64) (fo : Int32) (ct : Int32) (fx : Int32) (gv : Nat → Int32) (pg : Nat → Int32) (cu : Nat → Int32) (co : Nat → Int32) (sg : Nat → Int32) (ru : Nat → Int32) (nu : Nat → Int32) (tg : Nat → Int32) (sc : Nat → Int64) (sr : Nat → Int32) (wy : Nat → Int64)  (out : Int32 × (Nat → Int64) × (Nat → Int32) × (Nat → Int64)) (h : mi_SQ_addFixedUnits N ct sc sr wy = some out) : fw_C l y_SQ_addFixedUnits (.code y_SQ_addFixedUnits b_SQ_addFixedUnits 3 (none) :: Gw) (fr 10 267) D vwCl (tyA cI cL) [.ref (ad 2), .ref (ad 5)] (wC ad cI cL kk kn le ff fo ct fx gv pg cu co sg ru nu tg sc sr wy) none (wC ad cI cL kk kn le ff fo out.1 fx gv pg cu co sg ru nu tg out.2.1 out.2.2.1 out.2.2.2) := by
  refine fw_of (by decide) (Nat.le_of_ble_eq_true rfl) ?_
  intro p e s m args below meth c ls A R Q hR hQ S hr hlk hX hA hl hw
  have hK := hX.1
  have hx := S.1
  have hb := S.2.1
  have hown := S.2.2.2.1
  have hg := S.2.2.2.2
  have hl : lv_has ls 3 [(0, .ref (ad 2)), (1, .ref (ad 5))] := hl
  unfold mi_SQ_addFixedUnits at h
  refine lv_iconst (v := 0) hx hb d_SQ_addFixedUnits_0 (by decide) ?_
  refine lv_istore_n (lv' := [(2, .int (0 : Int32)), (0, .ref (ad 2)), (1, .ref (ad 5))]) hx hb d_SQ_addFixedUnits_1 rfl hl (by decide) rfl (fun ls hl => ?_)
  have X2 : ∀ (y2 : Int32 × Int32 × (Nat → Int64) × (Nat → Int32) × (Nat → Int64)), mr_SQ_addFixedUnits_2 y2 = some out → ∀ (ls : Array Slot) (H : Heap) (locs : List Loc), lv_has ls 3 [] → fw_H D vwCl A s.heap (wC ad cI cL kk kn le ff fo y2.2.1 fx gv pg cu co sg ru nu tg y2.2.2.1 y2.2.2.2.1 y2.2.2.2.2) H locs → W p l e R s m args below meth c H locs 0 0 Q (F0 m 37 ls []) := by
    intro y2 h ls H locs hl hw
    unfold mr_SQ_addFixedUnits_2 at h
    have q := Option.some.inj h
    subst q
    exact fw_vret hQ S hr hlk hX hw d_SQ_addFixedUnits_37
  have L2 : ∀ (n2 : Nat) (x2 : Int32 × Int32 × (Nat → Int64) × (Nat → Int32) × (Nat → Int64)) (e2 : Int32 × Int32 × (Nat → Int64) × (Nat → Int32) × (Nat → Int64)), lp (mb_SQ_addFixedUnits_2 N) n2 x2 = some e2 → (mr_SQ_addFixedUnits_2) e2 = some out → ∀ (ls : Array Slot) (H : Heap) (locs : List Loc), lv_has ls 3 [(0, .ref (ad 2)), (1, .ref (ad 5)), (2, .int x2.1)] → fw_H D vwCl A s.heap (wC ad cI cL kk kn le ff fo x2.2.1 fx gv pg cu co sg ru nu tg x2.2.2.1 x2.2.2.2.1 x2.2.2.2.2) H locs → W p l e R s m args below meth c H locs 0 0 Q (F0 m 2 ls []) := by
    intro n2
    induction n2 with
    | zero => intro x2 e2 h1; exact absurd h1 lp_0
    | succ n2 ih2 =>
      intro x2 e2 h1 hr2 ls H locs hl hw
      rw [lp_s] at h1
      refine ob h1 (fun r2 h hk2 => ?_)
      unfold mb_SQ_addFixedUnits_2 at h
      refine lv_iload_n hx hb d_SQ_addFixedUnits_2 rfl (lv_at hl 2 rfl) ?_
      refine lv_iconst (v := 4) hx hb d_SQ_addFixedUnits_3 (by decide) ?_
      refine lv_icmp_ge (tgt := 37) hx hb d_SQ_addFixedUnits_4 (by decide) (fun hc => ?_) (fun hc => ?_)
      · have h := oi h hc
        have q := Option.some.inj h
        subst q
        have q := Option.some.inj hk2
        subst q
        exact X2 (x2.1, x2.2.1, x2.2.2.1, x2.2.2.2.1, x2.2.2.2.2) hr2 _ _ _ (lv_sub hl [] rfl) hw
      · have h := oe h hc
        refine lv_aload_n hx hb d_SQ_addFixedUnits_7 rfl (lv_at hl 0 rfl) ?_
        refine lv_aload_n hx hb d_SQ_addFixedUnits_8 rfl (lv_at hl 1 rfl) ?_
        refine lv_aload_n hx hb d_SQ_addFixedUnits_9 rfl (lv_at hl 0 rfl) ?_
        refine lv_iload_n hx hb d_SQ_addFixedUnits_10 rfl (lv_at hl 2 rfl) ?_
        refine ob h (fun r11 h11 h => ?_)
        refine fw_callU (As := [.int x2.1]) (rest := [.ref (ad 5), .ref (ad 2)]) (st1 := [.int r11, .ref (ad 5), .ref (ad 2)]) S (ct_KD_rowCells l D ad cI cL N 2 K3_2 kk kn le ff fo x2.2.1 fx gv pg cu co sg ru nu tg x2.2.2.1 x2.2.2.2.1 x2.2.2.2.2 x2.1 r11 h11) q_189 q_190 q_192 q_193 q_2 k_KD_rowCells hd_KD_rowCells rfl ⟨by rw [hR]; decide, by rw [hR]; decide⟩ rfl rfl hX hw hA 2 (ci := 2) rfl rfl hl.1 rfl rfl (Nat.le_of_ble_eq_true rfl) d_SQ_addFixedUnits_11 ⟨Nat.zero_le _, Nat.zero_le _⟩ rfl (fun H locs hw => ?_)
        refine lv_iconst (v := 0) hx hb d_SQ_addFixedUnits_14 (by decide) ?_
        refine lv_iconst (v := 0) hx hb d_SQ_addFixedUnits_15 (by decide) ?_
        refine ob h (fun r16 h16 h => ?_)
        refine fw_callV (As := [.ref (ad 5), .int r11, .int (0 : Int32), .int (0 : Int32)]) (rest := []) (st1 := []) S (ct_SQ_addUnlike l D ad cI cL N kk kn le ff fo x2.2.1 fx gv pg cu co sg ru nu tg x2.2.2.1 x2.2.2.2.1 x2.2.2.2.2 r11 (0 : Int32) (0 : Int32) r16 h16) q_195 q_197 s_1 q_4 k_SQ_addUnlike hd_SQ_addUnlike ⟨by rw [hR]; decide, by rw [hR]; decide⟩ rfl rfl hX hw hA 2 (ci := 2) rfl rfl hl.1 rfl rfl (Nat.le_of_ble_eq_true rfl) d_SQ_addFixedUnits_16 ⟨Nat.zero_le _, Nat.zero_le _⟩ rfl (fun H locs hw => ?_)
        refine lv_aload_n hx hb d_SQ_addFixedUnits_19 rfl (lv_at hl 0 rfl) ?_
        refine lv_aload_n hx hb d_SQ_addFixedUnits_20 rfl (lv_at hl 1 rfl) ?_
        refine lv_aload_n hx hb d_SQ_addFixedUnits_21 rfl (lv_at hl 0 rfl) ?_
        refine lv_iload_n hx hb d_SQ_addFixedUnits_22 rfl (lv_at hl 2 rfl) ?_
        refine ob h (fun r23 h23 h => ?_)
        refine fw_callU (As := [.int x2.1]) (rest := [.ref (ad 5), .ref (ad 2)]) (st1 := [.int r23, .ref (ad 5), .ref (ad 2)]) S (ct_KD_columnCells l D ad cI cL N 2 K3_2 kk kn le ff fo r16.1 fx gv pg cu co sg ru nu tg r16.2.1 r16.2.2.1 r16.2.2.2 x2.1 r23 h23) q_245 q_246 q_248 q_249 q_2 k_KD_columnCells hd_KD_columnCells rfl ⟨by rw [hR]; decide, by rw [hR]; decide⟩ rfl rfl hX hw hA 2 (ci := 2) rfl rfl hl.1 rfl rfl (Nat.le_of_ble_eq_true rfl) d_SQ_addFixedUnits_23 ⟨Nat.zero_le _, Nat.zero_le _⟩ rfl (fun H locs hw => ?_)
        refine lv_iconst (v := 0) hx hb d_SQ_addFixedUnits_26 (by decide) ?_
        refine lv_iconst (v := 0) hx hb d_SQ_addFixedUnits_27 (by decide) ?_
        refine ob h (fun r28 h28 h => ?_)
        refine fw_callV (As := [.ref (ad 5), .int r23, .int (0 : Int32), .int (0 : Int32)]) (rest := []) (st1 := []) S (ct_SQ_addUnlike l D ad cI cL N kk kn le ff fo r16.1 fx gv pg cu co sg ru nu tg r16.2.1 r16.2.2.1 r16.2.2.2 r23 (0 : Int32) (0 : Int32) r28 h28) q_195 q_197 s_1 q_4 k_SQ_addUnlike hd_SQ_addUnlike ⟨by rw [hR]; decide, by rw [hR]; decide⟩ rfl rfl hX hw hA 2 (ci := 2) rfl rfl hl.1 rfl rfl (Nat.le_of_ble_eq_true rfl) d_SQ_addFixedUnits_28 ⟨Nat.zero_le _, Nat.zero_le _⟩ rfl (fun H locs hw => ?_)
        refine lv_iinc (k := 2) (v := x2.1 + 1) (lv' := [(2, .int (x2.1 + 1)), (0, .ref (ad 2)), (1, .ref (ad 5))]) hx hb d_SQ_addFixedUnits_31 hl rfl (by rw [lit1]) (by decide) rfl (fun ls hl => ?_)
        refine lv_goto (tgt := 2) hx hb d_SQ_addFixedUnits_34 (by decide) ?_
        have q := Option.some.inj h
        subst q
        exact ih2 (x2.1 + 1, r28.1, r28.2.1, r28.2.2.1, r28.2.2.2) e2 hk2 hr2 _ _ _ (lv_sub hl [1, 2, 0] rfl) hw
  refine ob h (fun e2 h1 h2 => ?_)
  exact L2 N ((0 : Int32), ct, sc, sr, wy) e2 h1 h2 _ _ _ (lv_sub hl [1, 2, 0] rfl) hw
set_option maxHeartbeats 4000000 in
set_option maxRecDepth 100000 in
theorem ct_SQ_addOtherUnits (l : Launch) (D : va_G) (ad : Nat → Nat) (cI cL : ClassId) (N : Nat) (kk : Nat) (kn : Int32) (le : Int64) (ff : Int64) (fo : Int32) (ct : Int32) (fx : Int32) (gv : Nat → Int32) (pg : Nat → Int32) (cu : Nat → Int32) (co : Nat → Int32) (sg : Nat → Int32) (ru : Nat → Int32) (nu : Nat → Int32) (tg : Nat → Int32) (sc : Nat → Int64) (sr : Nat → Int32) (wy : Nat → Int64)  (out : Int32 × (Nat → Int64) × (Nat → Int32) × (Nat → Int64)) (h : mi_SQ_addOtherUnits N ct sg ru nu sc sr wy = some out) : fw_C l y_SQ_addOtherUnits (.code y_SQ_addOtherUnits b_SQ_addOtherUnits 3 (none) :: Gw) (fr 10 267) D vwCl (tyA cI cL) [.ref (ad 2), .ref (ad 5)] (wC ad cI cL kk kn le ff fo ct fx gv pg cu co sg ru nu tg sc sr wy) none (wC ad cI cL kk kn le ff fo out.1 fx gv pg cu co sg ru nu tg out.2.1 out.2.2.1 out.2.2.2) := by
  refine fw_of (by decide) (Nat.le_of_ble_eq_true rfl) ?_
  intro p e s m args below meth c ls A R Q hR hQ S hr hlk hX hA hl hw
  have hK := hX.1
  have hx := S.1
  have hb := S.2.1
  have hown := S.2.2.2.1
  have hg := S.2.2.2.2
  have hl : lv_has ls 3 [(0, .ref (ad 2)), (1, .ref (ad 5))] := hl
  unfold mi_SQ_addOtherUnits at h
  refine lv_iconst (v := 0) hx hb d_SQ_addOtherUnits_0 (by decide) ?_
  refine lv_istore_n (lv' := [(2, .int (0 : Int32)), (0, .ref (ad 2)), (1, .ref (ad 5))]) hx hb d_SQ_addOtherUnits_1 rfl hl (by decide) rfl (fun ls hl => ?_)
  have X2 : ∀ (y2 : Int32 × Int32 × (Nat → Int64) × (Nat → Int32) × (Nat → Int64)), mr_SQ_addOtherUnits_2 y2 = some out → ∀ (ls : Array Slot) (H : Heap) (locs : List Loc), lv_has ls 3 [] → fw_H D vwCl A s.heap (wC ad cI cL kk kn le ff fo y2.2.1 fx gv pg cu co sg ru nu tg y2.2.2.1 y2.2.2.2.1 y2.2.2.2.2) H locs → W p l e R s m args below meth c H locs 0 0 Q (F0 m 36 ls []) := by
    intro y2 h ls H locs hl hw
    unfold mr_SQ_addOtherUnits_2 at h
    have q := Option.some.inj h
    subst q
    exact fw_vret hQ S hr hlk hX hw d_SQ_addOtherUnits_36
  have L2 : ∀ (n2 : Nat) (x2 : Int32 × Int32 × (Nat → Int64) × (Nat → Int32) × (Nat → Int64)) (e2 : Int32 × Int32 × (Nat → Int64) × (Nat → Int32) × (Nat → Int64)), lp (mb_SQ_addOtherUnits_2 N sg ru nu) n2 x2 = some e2 → (mr_SQ_addOtherUnits_2) e2 = some out → ∀ (ls : Array Slot) (H : Heap) (locs : List Loc), lv_has ls 3 [(0, .ref (ad 2)), (1, .ref (ad 5)), (2, .int x2.1)] → fw_H D vwCl A s.heap (wC ad cI cL kk kn le ff fo x2.2.1 fx gv pg cu co sg ru nu tg x2.2.2.1 x2.2.2.2.1 x2.2.2.2.2) H locs → W p l e R s m args below meth c H locs 0 0 Q (F0 m 2 ls []) := by
    intro n2
    induction n2 with
    | zero => intro x2 e2 h1; exact absurd h1 lp_0
    | succ n2 ih2 =>
      intro x2 e2 h1 hr2 ls H locs hl hw
      rw [lp_s] at h1
      refine ob h1 (fun r2 h hk2 => ?_)
      unfold mb_SQ_addOtherUnits_2 at h
      refine lv_iload_n hx hb d_SQ_addOtherUnits_2 rfl (lv_at hl 2 rfl) ?_
      refine lv_bipush (v := 16) hx hb d_SQ_addOtherUnits_3 (by decide) ?_
      refine lv_icmp_ge (tgt := 36) hx hb d_SQ_addOtherUnits_5 (by decide) (fun hc => ?_) (fun hc => ?_)
      · have h := oi h hc
        have q := Option.some.inj h
        subst q
        have q := Option.some.inj hk2
        subst q
        exact X2 (x2.1, x2.2.1, x2.2.2.1, x2.2.2.2.1, x2.2.2.2.2) hr2 _ _ _ (lv_sub hl [] rfl) hw
      · have h := oe h hc
        refine lv_aload_n hx hb d_SQ_addOtherUnits_8 rfl (lv_at hl 0 rfl) ?_
        refine lv_aload_n hx hb d_SQ_addOtherUnits_9 rfl (lv_at hl 1 rfl) ?_
        refine lv_aload_n hx hb d_SQ_addOtherUnits_10 rfl (lv_at hl 0 rfl) ?_
        refine lv_iload_n hx hb d_SQ_addOtherUnits_11 rfl (lv_at hl 2 rfl) ?_
        refine ob h (fun r12 h12 h => ?_)
        refine fw_callU (As := [.int x2.1]) (rest := [.ref (ad 5), .ref (ad 2)]) (st1 := [.int r12, .ref (ad 5), .ref (ad 2)]) S (ct_KD_membersOf_SQ l D ad cI cL N kk kn le ff fo x2.2.1 fx gv pg cu co sg ru nu tg x2.2.2.1 x2.2.2.2.1 x2.2.2.2.2 x2.1 r12 h12) q_329 q_330 q_332 q_333 q_2 k_KD_membersOf hd_KD_membersOf rfl ⟨by rw [hR]; decide, by rw [hR]; decide⟩ rfl rfl hX hw hA 2 (ci := 2) rfl rfl hl.1 rfl rfl (Nat.le_of_ble_eq_true rfl) d_SQ_addOtherUnits_12 ⟨Nat.zero_le _, Nat.zero_le _⟩ rfl (fun H locs hw => ?_)
        refine lv_aload_n hx hb d_SQ_addOtherUnits_15 rfl (lv_at hl 0 rfl) ?_
        refine va_get (ci := 2) (v := .ref (ad 11)) (C := R_SQ) (T := F_SQ) (N := 8) hx hb hg in_SQ hown hK hw.1 2 rfl rfl 6 (by decide) (hg _ q_91) (fun _ h9 => h9) rfl d_SQ_addOtherUnits_16 ?_
        refine lv_iload_n hx hb d_SQ_addOtherUnits_19 rfl (lv_at hl 2 rfl) ?_
        refine oc h (fun hc1 h => ?_)
        refine va_iald hx hb hK hw.1 11 0 rfl rfl hc1 d_SQ_addOtherUnits_20 ?_
        refine lv_aload_n hx hb d_SQ_addOtherUnits_21 rfl (lv_at hl 0 rfl) ?_
        refine va_get (ci := 2) (v := .ref (ad 12)) (C := R_SQ) (T := F_SQ) (N := 8) hx hb hg in_SQ hown hK hw.1 2 rfl rfl 7 (by decide) (hg _ q_93) (fun _ h9 => h9) rfl d_SQ_addOtherUnits_22 ?_
        refine lv_iload_n hx hb d_SQ_addOtherUnits_25 rfl (lv_at hl 2 rfl) ?_
        refine va_iald hx hb hK hw.1 12 0 rfl rfl hc1 d_SQ_addOtherUnits_26 ?_
        refine ob h (fun r27 h27 h => ?_)
        refine fw_callV (As := [.ref (ad 5), .int r12, .int (ru x2.1.toNatClampNeg), .int (nu x2.1.toNatClampNeg)]) (rest := []) (st1 := []) S (ct_SQ_addUnlike l D ad cI cL N kk kn le ff fo x2.2.1 fx gv pg cu co sg ru nu tg x2.2.2.1 x2.2.2.2.1 x2.2.2.2.2 r12 (ru x2.1.toNatClampNeg) (nu x2.1.toNatClampNeg) r27 h27) q_195 q_197 s_1 q_4 k_SQ_addUnlike hd_SQ_addUnlike ⟨by rw [hR]; decide, by rw [hR]; decide⟩ rfl rfl hX hw hA 2 (ci := 2) rfl rfl hl.1 rfl rfl (Nat.le_of_ble_eq_true rfl) d_SQ_addOtherUnits_27 ⟨Nat.zero_le _, Nat.zero_le _⟩ rfl (fun H locs hw => ?_)
        refine lv_iinc (k := 2) (v := x2.1 + 1) (lv' := [(2, .int (x2.1 + 1)), (0, .ref (ad 2)), (1, .ref (ad 5))]) hx hb d_SQ_addOtherUnits_30 hl rfl (by rw [lit1]) (by decide) rfl (fun ls hl => ?_)
        refine lv_goto (tgt := 2) hx hb d_SQ_addOtherUnits_33 (by decide) ?_
        have q := Option.some.inj h
        subst q
        exact ih2 (x2.1 + 1, r27.1, r27.2.1, r27.2.2.1, r27.2.2.2) e2 hk2 hr2 _ _ _ (lv_sub hl [1, 2, 0] rfl) hw
  refine ob h (fun e2 h1 h2 => ?_)
  exact L2 N ((0 : Int32), ct, sc, sr, wy) e2 h1 h2 _ _ _ (lv_sub hl [1, 2, 0] rfl) hw
