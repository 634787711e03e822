theorem d_ST_touch_0 : decode b_ST_touch 0 = .ok (.iload_n 0, 1) := by decide +kernel
theorem d_ST_touch_1 : decode b_ST_touch 1 = .ok (.iconst 5, 1) := by decide +kernel
theorem d_ST_touch_2 : decode b_ST_touch 2 = .ok (.idiv, 1) := by decide +kernel
theorem d_ST_touch_3 : decode b_ST_touch 3 = .ok (.iload_n 1, 1) := by decide +kernel
theorem d_ST_touch_4 : decode b_ST_touch 4 = .ok (.iconst 5, 1) := by decide +kernel
theorem d_ST_touch_5 : decode b_ST_touch 5 = .ok (.idiv, 1) := by decide +kernel
theorem d_ST_touch_6 : decode b_ST_touch 6 = .ok (.isub, 1) := by decide +kernel
theorem d_ST_touch_7 : decode b_ST_touch 7 = .ok (.invokestatic 39, 3) := by decide +kernel
theorem d_ST_touch_10 : decode b_ST_touch 10 = .ok (.iconst 1, 1) := by decide +kernel
theorem d_ST_touch_11 : decode b_ST_touch 11 = .ok (.if_icmp .gt 21, 3) := by decide +kernel
theorem d_ST_touch_14 : decode b_ST_touch 14 = .ok (.iload_n 0, 1) := by decide +kernel
theorem d_ST_touch_15 : decode b_ST_touch 15 = .ok (.iconst 5, 1) := by decide +kernel
theorem d_ST_touch_16 : decode b_ST_touch 16 = .ok (.irem, 1) := by decide +kernel
theorem d_ST_touch_17 : decode b_ST_touch 17 = .ok (.iload_n 1, 1) := by decide +kernel
theorem d_ST_touch_18 : decode b_ST_touch 18 = .ok (.iconst 5, 1) := by decide +kernel
theorem d_ST_touch_19 : decode b_ST_touch 19 = .ok (.irem, 1) := by decide +kernel
theorem d_ST_touch_20 : decode b_ST_touch 20 = .ok (.isub, 1) := by decide +kernel
theorem d_ST_touch_21 : decode b_ST_touch 21 = .ok (.invokestatic 39, 3) := by decide +kernel
theorem d_ST_touch_24 : decode b_ST_touch 24 = .ok (.iconst 1, 1) := by decide +kernel
theorem d_ST_touch_25 : decode b_ST_touch 25 = .ok (.if_icmp .gt 7, 3) := by decide +kernel
theorem d_ST_touch_28 : decode b_ST_touch 28 = .ok (.iconst 1, 1) := by decide +kernel
theorem d_ST_touch_29 : decode b_ST_touch 29 = .ok (.goto 4, 3) := by decide +kernel
theorem d_ST_touch_32 : decode b_ST_touch 32 = .ok (.iconst 0, 1) := by decide +kernel
theorem d_ST_touch_33 : decode b_ST_touch 33 = .ok (.ireturn, 1) := by decide +kernel
theorem d_ST_makeNew_0 : decode b_ST_makeNew 0 = .ok (.iconst 0, 1) := by decide +kernel
theorem d_ST_makeNew_1 : decode b_ST_makeNew 1 = .ok (.istore_n 1, 1) := by decide +kernel
theorem d_ST_makeNew_2 : decode b_ST_makeNew 2 = .ok (.iload_n 1, 1) := by decide +kernel
theorem d_ST_makeNew_3 : decode b_ST_makeNew 3 = .ok (.aload_n 0, 1) := by decide +kernel
theorem d_ST_makeNew_4 : decode b_ST_makeNew 4 = .ok (.getfield 9, 3) := by decide +kernel
theorem d_ST_makeNew_7 : decode b_ST_makeNew 7 = .ok (.if_icmp .ge 18, 3) := by decide +kernel
theorem d_ST_makeNew_10 : decode b_ST_makeNew 10 = .ok (.aload_n 0, 1) := by decide +kernel
theorem d_ST_makeNew_11 : decode b_ST_makeNew 11 = .ok (.getfield 13, 3) := by decide +kernel
theorem d_ST_makeNew_14 : decode b_ST_makeNew 14 = .ok (.iload_n 1, 1) := by decide +kernel
theorem d_ST_makeNew_15 : decode b_ST_makeNew 15 = .ok (.iload_n 1, 1) := by decide +kernel
theorem d_ST_makeNew_16 : decode b_ST_makeNew 16 = .ok (.iconst 5, 1) := by decide +kernel
theorem d_ST_makeNew_17 : decode b_ST_makeNew 17 = .ok (.idiv, 1) := by decide +kernel
theorem d_ST_makeNew_18 : decode b_ST_makeNew 18 = .ok (.iastore, 1) := by decide +kernel
theorem d_ST_makeNew_19 : decode b_ST_makeNew 19 = .ok (.iinc 1 1, 3) := by decide +kernel
theorem d_ST_makeNew_22 : decode b_ST_makeNew 22 = .ok (.goto (-20), 3) := by decide +kernel
theorem d_ST_makeNew_25 : decode b_ST_makeNew 25 = .ok (.return_, 1) := by decide +kernel
theorem d_ST_wayWithStar_0 : decode b_ST_wayWithStar 0 = .ok (.lconst 0, 1) := by decide +kernel
theorem d_ST_wayWithStar_1 : decode b_ST_wayWithStar 1 = .ok (.lstore_n 3, 1) := by decide +kernel
theorem d_ST_wayWithStar_2 : decode b_ST_wayWithStar 2 = .ok (.iconst 0, 1) := by decide +kernel
theorem d_ST_wayWithStar_3 : decode b_ST_wayWithStar 3 = .ok (.istore 5, 2) := by decide +kernel
theorem d_ST_wayWithStar_5 : decode b_ST_wayWithStar 5 = .ok (.iload 5, 2) := by decide +kernel
theorem d_ST_wayWithStar_7 : decode b_ST_wayWithStar 7 = .ok (.aload_n 0, 1) := by decide +kernel
theorem d_ST_wayWithStar_8 : decode b_ST_wayWithStar 8 = .ok (.getfield 9, 3) := by decide +kernel
theorem d_ST_wayWithStar_11 : decode b_ST_wayWithStar 11 = .ok (.if_icmp .ge 39, 3) := by decide +kernel
theorem d_ST_wayWithStar_14 : decode b_ST_wayWithStar 14 = .ok (.iload_n 1, 1) := by decide +kernel
theorem d_ST_wayWithStar_15 : decode b_ST_wayWithStar 15 = .ok (.iload 5, 2) := by decide +kernel
theorem d_ST_wayWithStar_17 : decode b_ST_wayWithStar 17 = .ok (.ishr, 1) := by decide +kernel
theorem d_ST_wayWithStar_18 : decode b_ST_wayWithStar 18 = .ok (.iconst 1, 1) := by decide +kernel
theorem d_ST_wayWithStar_19 : decode b_ST_wayWithStar 19 = .ok (.iand, 1) := by decide +kernel
theorem d_ST_wayWithStar_20 : decode b_ST_wayWithStar 20 = .ok (.iconst 1, 1) := by decide +kernel
theorem d_ST_wayWithStar_21 : decode b_ST_wayWithStar 21 = .ok (.if_icmp .ne 23, 3) := by decide +kernel
theorem d_ST_wayWithStar_24 : decode b_ST_wayWithStar 24 = .ok (.lload_n 3, 1) := by decide +kernel
theorem d_ST_wayWithStar_25 : decode b_ST_wayWithStar 25 = .ok (.aload_n 0, 1) := by decide +kernel
theorem d_ST_wayWithStar_26 : decode b_ST_wayWithStar 26 = .ok (.iload 5, 2) := by decide +kernel
theorem d_ST_wayWithStar_28 : decode b_ST_wayWithStar 28 = .ok (.iload 5, 2) := by decide +kernel
theorem d_ST_wayWithStar_30 : decode b_ST_wayWithStar 30 = .ok (.iload_n 2, 1) := by decide +kernel
theorem d_ST_wayWithStar_31 : decode b_ST_wayWithStar 31 = .ok (.if_icmp .ne 7, 3) := by decide +kernel
theorem d_ST_wayWithStar_34 : decode b_ST_wayWithStar 34 = .ok (.iconst 1, 1) := by decide +kernel
theorem d_ST_wayWithStar_35 : decode b_ST_wayWithStar 35 = .ok (.goto 4, 3) := by decide +kernel
theorem d_ST_wayWithStar_38 : decode b_ST_wayWithStar 38 = .ok (.iconst 0, 1) := by decide +kernel
theorem d_ST_wayWithStar_39 : decode b_ST_wayWithStar 39 = .ok (.invokevirtual 61, 3) := by decide +kernel
theorem d_ST_wayWithStar_42 : decode b_ST_wayWithStar 42 = .ok (.lor, 1) := by decide +kernel
theorem d_ST_wayWithStar_43 : decode b_ST_wayWithStar 43 = .ok (.lstore_n 3, 1) := by decide +kernel
theorem d_ST_wayWithStar_44 : decode b_ST_wayWithStar 44 = .ok (.iinc 5 1, 3) := by decide +kernel
theorem d_ST_wayWithStar_47 : decode b_ST_wayWithStar 47 = .ok (.goto (-42), 3) := by decide +kernel
theorem d_ST_wayWithStar_50 : decode b_ST_wayWithStar 50 = .ok (.lload_n 3, 1) := by decide +kernel
theorem d_ST_wayWithStar_51 : decode b_ST_wayWithStar 51 = .ok (.lreturn, 1) := by decide +kernel
theorem d_ST_addJustOne_0 : decode b_ST_addJustOne 0 = .ok (.aload_n 1, 1) := by decide +kernel
theorem d_ST_addJustOne_1 : decode b_ST_addJustOne 1 = .ok (.aload_n 0, 1) := by decide +kernel
theorem d_ST_addJustOne_2 : decode b_ST_addJustOne 2 = .ok (.iload_n 2, 1) := by decide +kernel
theorem d_ST_addJustOne_3 : decode b_ST_addJustOne 3 = .ok (.invokevirtual 44, 3) := by decide +kernel
theorem d_ST_addJustOne_6 : decode b_ST_addJustOne 6 = .ok (.invokevirtual 48, 3) := by decide +kernel
theorem d_ST_addJustOne_9 : decode b_ST_addJustOne 9 = .ok (.iconst 0, 1) := by decide +kernel
theorem d_ST_addJustOne_10 : decode b_ST_addJustOne 10 = .ok (.istore_n 3, 1) := by decide +kernel
theorem d_ST_addJustOne_11 : decode b_ST_addJustOne 11 = .ok (.iload_n 3, 1) := by decide +kernel
theorem d_ST_addJustOne_12 : decode b_ST_addJustOne 12 = .ok (.aload_n 0, 1) := by decide +kernel
theorem d_ST_addJustOne_13 : decode b_ST_addJustOne 13 = .ok (.getfield 9, 3) := by decide +kernel
theorem d_ST_addJustOne_16 : decode b_ST_addJustOne 16 = .ok (.if_icmp .ge 28, 3) := by decide +kernel
theorem d_ST_addJustOne_19 : decode b_ST_addJustOne 19 = .ok (.iload_n 2, 1) := by decide +kernel
theorem d_ST_addJustOne_20 : decode b_ST_addJustOne 20 = .ok (.iload_n 3, 1) := by decide +kernel
theorem d_ST_addJustOne_21 : decode b_ST_addJustOne 21 = .ok (.ishr, 1) := by decide +kernel
theorem d_ST_addJustOne_22 : decode b_ST_addJustOne 22 = .ok (.iconst 1, 1) := by decide +kernel
theorem d_ST_addJustOne_23 : decode b_ST_addJustOne 23 = .ok (.iand, 1) := by decide +kernel
theorem d_ST_addJustOne_24 : decode b_ST_addJustOne 24 = .ok (.iconst 1, 1) := by decide +kernel
theorem d_ST_addJustOne_25 : decode b_ST_addJustOne 25 = .ok (.if_icmp .ne 13, 3) := by decide +kernel
theorem d_ST_addJustOne_28 : decode b_ST_addJustOne 28 = .ok (.aload_n 1, 1) := by decide +kernel
theorem d_ST_addJustOne_29 : decode b_ST_addJustOne 29 = .ok (.aload_n 0, 1) := by decide +kernel
theorem d_ST_addJustOne_30 : decode b_ST_addJustOne 30 = .ok (.iload_n 2, 1) := by decide +kernel
theorem d_ST_addJustOne_31 : decode b_ST_addJustOne 31 = .ok (.iload_n 3, 1) := by decide +kernel
theorem d_ST_addJustOne_32 : decode b_ST_addJustOne 32 = .ok (.invokevirtual 54, 3) := by decide +kernel
theorem d_ST_addJustOne_35 : decode b_ST_addJustOne 35 = .ok (.invokevirtual 58, 3) := by decide +kernel
theorem d_ST_addJustOne_38 : decode b_ST_addJustOne 38 = .ok (.iinc 3 1, 3) := by decide +kernel
theorem d_ST_addJustOne_41 : decode b_ST_addJustOne 41 = .ok (.goto (-30), 3) := by decide +kernel
theorem d_ST_addJustOne_44 : decode b_ST_addJustOne 44 = .ok (.return_, 1) := by decide +kernel
theorem d_ST_addNotBoth_0 : decode b_ST_addNotBoth 0 = .ok (.aload_n 1, 1) := by decide +kernel
theorem d_ST_addNotBoth_1 : decode b_ST_addNotBoth 1 = .ok (.aload_n 0, 1) := by decide +kernel
theorem d_ST_addNotBoth_2 : decode b_ST_addNotBoth 2 = .ok (.iload_n 2, 1) := by decide +kernel
theorem d_ST_addNotBoth_3 : decode b_ST_addNotBoth 3 = .ok (.invokevirtual 64, 3) := by decide +kernel
theorem d_ST_addNotBoth_6 : decode b_ST_addNotBoth 6 = .ok (.aload_n 0, 1) := by decide +kernel
theorem d_ST_addNotBoth_7 : decode b_ST_addNotBoth 7 = .ok (.iload_n 3, 1) := by decide +kernel
theorem d_ST_addNotBoth_8 : decode b_ST_addNotBoth 8 = .ok (.invokevirtual 64, 3) := by decide +kernel
theorem d_ST_addNotBoth_11 : decode b_ST_addNotBoth 11 = .ok (.lor, 1) := by decide +kernel
theorem d_ST_addNotBoth_12 : decode b_ST_addNotBoth 12 = .ok (.invokevirtual 48, 3) := by decide +kernel
theorem d_ST_addNotBoth_15 : decode b_ST_addNotBoth 15 = .ok (.aload_n 1, 1) := by decide +kernel
theorem d_ST_addNotBoth_16 : decode b_ST_addNotBoth 16 = .ok (.aload_n 0, 1) := by decide +kernel
theorem d_ST_addNotBoth_17 : decode b_ST_addNotBoth 17 = .ok (.iload_n 2, 1) := by decide +kernel
theorem d_ST_addNotBoth_18 : decode b_ST_addNotBoth 18 = .ok (.iconst 0, 1) := by decide +kernel
theorem d_ST_addNotBoth_19 : decode b_ST_addNotBoth 19 = .ok (.invokevirtual 61, 3) := by decide +kernel
theorem d_ST_addNotBoth_22 : decode b_ST_addNotBoth 22 = .ok (.aload_n 0, 1) := by decide +kernel
theorem d_ST_addNotBoth_23 : decode b_ST_addNotBoth 23 = .ok (.iload_n 3, 1) := by decide +kernel
theorem d_ST_addNotBoth_24 : decode b_ST_addNotBoth 24 = .ok (.iconst 0, 1) := by decide +kernel
theorem d_ST_addNotBoth_25 : decode b_ST_addNotBoth 25 = .ok (.invokevirtual 61, 3) := by decide +kernel
theorem d_ST_addNotBoth_28 : decode b_ST_addNotBoth 28 = .ok (.lor, 1) := by decide +kernel
theorem d_ST_addNotBoth_29 : decode b_ST_addNotBoth 29 = .ok (.invokevirtual 58, 3) := by decide +kernel
theorem d_ST_addNotBoth_32 : decode b_ST_addNotBoth 32 = .ok (.aload_n 1, 1) := by decide +kernel
theorem d_ST_addNotBoth_33 : decode b_ST_addNotBoth 33 = .ok (.aload_n 0, 1) := by decide +kernel
theorem d_ST_addNotBoth_34 : decode b_ST_addNotBoth 34 = .ok (.iload_n 2, 1) := by decide +kernel
theorem d_ST_addNotBoth_35 : decode b_ST_addNotBoth 35 = .ok (.iconst 0, 1) := by decide +kernel
theorem d_ST_addNotBoth_36 : decode b_ST_addNotBoth 36 = .ok (.invokevirtual 61, 3) := by decide +kernel
theorem d_ST_addNotBoth_39 : decode b_ST_addNotBoth 39 = .ok (.aload_n 0, 1) := by decide +kernel
theorem d_ST_addNotBoth_40 : decode b_ST_addNotBoth 40 = .ok (.iload_n 3, 1) := by decide +kernel
theorem d_ST_addNotBoth_41 : decode b_ST_addNotBoth 41 = .ok (.iconst 1, 1) := by decide +kernel
theorem d_ST_addNotBoth_42 : decode b_ST_addNotBoth 42 = .ok (.invokevirtual 61, 3) := by decide +kernel
theorem d_ST_addNotBoth_45 : decode b_ST_addNotBoth 45 = .ok (.lor, 1) := by decide +kernel
theorem d_ST_addNotBoth_46 : decode b_ST_addNotBoth 46 = .ok (.invokevirtual 58, 3) := by decide +kernel
theorem d_ST_addNotBoth_49 : decode b_ST_addNotBoth 49 = .ok (.aload_n 1, 1) := by decide +kernel
theorem d_ST_addNotBoth_50 : decode b_ST_addNotBoth 50 = .ok (.aload_n 0, 1) := by decide +kernel
theorem d_ST_addNotBoth_51 : decode b_ST_addNotBoth 51 = .ok (.iload_n 2, 1) := by decide +kernel
theorem d_ST_addNotBoth_52 : decode b_ST_addNotBoth 52 = .ok (.iconst 1, 1) := by decide +kernel
theorem d_ST_addNotBoth_53 : decode b_ST_addNotBoth 53 = .ok (.invokevirtual 61, 3) := by decide +kernel
theorem d_ST_addNotBoth_56 : decode b_ST_addNotBoth 56 = .ok (.aload_n 0, 1) := by decide +kernel
theorem d_ST_addNotBoth_57 : decode b_ST_addNotBoth 57 = .ok (.iload_n 3, 1) := by decide +kernel
theorem d_ST_addNotBoth_58 : decode b_ST_addNotBoth 58 = .ok (.iconst 0, 1) := by decide +kernel
theorem d_ST_addNotBoth_59 : decode b_ST_addNotBoth 59 = .ok (.invokevirtual 61, 3) := by decide +kernel
theorem d_ST_addNotBoth_62 : decode b_ST_addNotBoth 62 = .ok (.lor, 1) := by decide +kernel
theorem d_ST_addNotBoth_63 : decode b_ST_addNotBoth 63 = .ok (.invokevirtual 58, 3) := by decide +kernel
theorem d_ST_addNotBoth_66 : decode b_ST_addNotBoth 66 = .ok (.return_, 1) := by decide +kernel
theorem d_ST_addFixedUnits_0 : decode b_ST_addFixedUnits 0 = .ok (.iconst 0, 1) := by decide +kernel
theorem d_ST_addFixedUnits_1 : decode b_ST_addFixedUnits 1 = .ok (.istore_n 2, 1) := by decide +kernel
theorem d_ST_addFixedUnits_2 : decode b_ST_addFixedUnits 2 = .ok (.iload_n 2, 1) := by decide +kernel
theorem d_ST_addFixedUnits_3 : decode b_ST_addFixedUnits 3 = .ok (.iconst 5, 1) := by decide +kernel
theorem d_ST_addFixedUnits_4 : decode b_ST_addFixedUnits 4 = .ok (.if_icmp .ge 29, 3) := by decide +kernel
theorem d_ST_addFixedUnits_7 : decode b_ST_addFixedUnits 7 = .ok (.aload_n 0, 1) := by decide +kernel
theorem d_ST_addFixedUnits_8 : decode b_ST_addFixedUnits 8 = .ok (.aload_n 1, 1) := by decide +kernel
theorem d_ST_addFixedUnits_9 : decode b_ST_addFixedUnits 9 = .ok (.aload_n 0, 1) := by decide +kernel
theorem d_ST_addFixedUnits_10 : decode b_ST_addFixedUnits 10 = .ok (.iload_n 2, 1) := by decide +kernel
theorem d_ST_addFixedUnits_11 : decode b_ST_addFixedUnits 11 = .ok (.invokevirtual 17, 3) := by decide +kernel
theorem d_ST_addFixedUnits_14 : decode b_ST_addFixedUnits 14 = .ok (.invokevirtual 21, 3) := by decide +kernel
theorem d_ST_addFixedUnits_17 : decode b_ST_addFixedUnits 17 = .ok (.aload_n 0, 1) := by decide +kernel
theorem d_ST_addFixedUnits_18 : decode b_ST_addFixedUnits 18 = .ok (.aload_n 1, 1) := by decide +kernel
theorem d_ST_addFixedUnits_19 : decode b_ST_addFixedUnits 19 = .ok (.aload_n 0, 1) := by decide +kernel
theorem d_ST_addFixedUnits_20 : decode b_ST_addFixedUnits 20 = .ok (.iload_n 2, 1) := by decide +kernel
theorem d_ST_addFixedUnits_21 : decode b_ST_addFixedUnits 21 = .ok (.invokevirtual 25, 3) := by decide +kernel
theorem d_ST_addFixedUnits_24 : decode b_ST_addFixedUnits 24 = .ok (.invokevirtual 21, 3) := by decide +kernel
theorem d_ST_addFixedUnits_27 : decode b_ST_addFixedUnits 27 = .ok (.iinc 2 1, 3) := by decide +kernel
theorem d_ST_addFixedUnits_30 : decode b_ST_addFixedUnits 30 = .ok (.goto (-28), 3) := by decide +kernel
theorem d_ST_addFixedUnits_33 : decode b_ST_addFixedUnits 33 = .ok (.iconst 0, 1) := by decide +kernel
theorem d_ST_addFixedUnits_34 : decode b_ST_addFixedUnits 34 = .ok (.istore_n 2, 1) := by decide +kernel
theorem d_ST_addFixedUnits_35 : decode b_ST_addFixedUnits 35 = .ok (.iload_n 2, 1) := by decide +kernel
theorem d_ST_addFixedUnits_36 : decode b_ST_addFixedUnits 36 = .ok (.aload_n 0, 1) := by decide +kernel
theorem d_ST_addFixedUnits_37 : decode b_ST_addFixedUnits 37 = .ok (.getfield 9, 3) := by decide +kernel
theorem d_ST_addFixedUnits_40 : decode b_ST_addFixedUnits 40 = .ok (.if_icmp .ge 42, 3) := by decide +kernel
theorem d_ST_addFixedUnits_43 : decode b_ST_addFixedUnits 43 = .ok (.iload_n 2, 1) := by decide +kernel
theorem d_ST_addFixedUnits_44 : decode b_ST_addFixedUnits 44 = .ok (.iconst 1, 1) := by decide +kernel
theorem d_ST_addFixedUnits_45 : decode b_ST_addFixedUnits 45 = .ok (.iadd, 1) := by decide +kernel
theorem d_ST_addFixedUnits_46 : decode b_ST_addFixedUnits 46 = .ok (.istore_n 3, 1) := by decide +kernel
theorem d_ST_addFixedUnits_47 : decode b_ST_addFixedUnits 47 = .ok (.iload_n 3, 1) := by decide +kernel
theorem d_ST_addFixedUnits_48 : decode b_ST_addFixedUnits 48 = .ok (.aload_n 0, 1) := by decide +kernel
theorem d_ST_addFixedUnits_49 : decode b_ST_addFixedUnits 49 = .ok (.getfield 9, 3) := by decide +kernel
theorem d_ST_addFixedUnits_52 : decode b_ST_addFixedUnits 52 = .ok (.if_icmp .ge 24, 3) := by decide +kernel
theorem d_ST_addFixedUnits_55 : decode b_ST_addFixedUnits 55 = .ok (.iload_n 2, 1) := by decide +kernel
theorem d_ST_addFixedUnits_56 : decode b_ST_addFixedUnits 56 = .ok (.iload_n 3, 1) := by decide +kernel
theorem d_ST_addFixedUnits_57 : decode b_ST_addFixedUnits 57 = .ok (.invokestatic 28, 3) := by decide +kernel
theorem d_ST_addFixedUnits_60 : decode b_ST_addFixedUnits 60 = .ok (.ifCond .eq 10, 3) := by decide +kernel
theorem d_ST_addFixedUnits_63 : decode b_ST_addFixedUnits 63 = .ok (.aload_n 0, 1) := by decide +kernel
theorem d_ST_addFixedUnits_64 : decode b_ST_addFixedUnits 64 = .ok (.aload_n 1, 1) := by decide +kernel
theorem d_ST_addFixedUnits_65 : decode b_ST_addFixedUnits 65 = .ok (.iload_n 2, 1) := by decide +kernel
theorem d_ST_addFixedUnits_66 : decode b_ST_addFixedUnits 66 = .ok (.iload_n 3, 1) := by decide +kernel
theorem d_ST_addFixedUnits_67 : decode b_ST_addFixedUnits 67 = .ok (.invokevirtual 32, 3) := by decide +kernel
theorem d_ST_addFixedUnits_70 : decode b_ST_addFixedUnits 70 = .ok (.iinc 3 1, 3) := by decide +kernel
theorem d_ST_addFixedUnits_73 : decode b_ST_addFixedUnits 73 = .ok (.goto (-26), 3) := by decide +kernel
theorem d_ST_addFixedUnits_76 : decode b_ST_addFixedUnits 76 = .ok (.iinc 2 1, 3) := by decide +kernel
theorem d_ST_addFixedUnits_79 : decode b_ST_addFixedUnits 79 = .ok (.goto (-44), 3) := by decide +kernel
theorem d_ST_addFixedUnits_82 : decode b_ST_addFixedUnits 82 = .ok (.return_, 1) := by decide +kernel
theorem d_ST_addOtherUnits_0 : decode b_ST_addOtherUnits 0 = .ok (.iconst 0, 1) := by decide +kernel
theorem d_ST_addOtherUnits_1 : decode b_ST_addOtherUnits 1 = .ok (.istore_n 2, 1) := by decide +kernel
theorem d_ST_addOtherUnits_2 : decode b_ST_addOtherUnits 2 = .ok (.iload_n 2, 1) := by decide +kernel
theorem d_ST_addOtherUnits_3 : decode b_ST_addOtherUnits 3 = .ok (.iconst 5, 1) := by decide +kernel
theorem d_ST_addOtherUnits_4 : decode b_ST_addOtherUnits 4 = .ok (.if_icmp .ge 25, 3) := by decide +kernel
theorem d_ST_addOtherUnits_7 : decode b_ST_addOtherUnits 7 = .ok (.aload_n 0, 1) := by decide +kernel
theorem d_ST_addOtherUnits_8 : decode b_ST_addOtherUnits 8 = .ok (.iload_n 2, 1) := by decide +kernel
theorem d_ST_addOtherUnits_9 : decode b_ST_addOtherUnits 9 = .ok (.invokevirtual 36, 3) := by decide +kernel
theorem d_ST_addOtherUnits_12 : decode b_ST_addOtherUnits 12 = .ok (.istore_n 3, 1) := by decide +kernel
theorem d_ST_addOtherUnits_13 : decode b_ST_addOtherUnits 13 = .ok (.iload_n 3, 1) := by decide +kernel
theorem d_ST_addOtherUnits_14 : decode b_ST_addOtherUnits 14 = .ok (.ifCond .eq 9, 3) := by decide +kernel
theorem d_ST_addOtherUnits_17 : decode b_ST_addOtherUnits 17 = .ok (.aload_n 0, 1) := by decide +kernel
theorem d_ST_addOtherUnits_18 : decode b_ST_addOtherUnits 18 = .ok (.aload_n 1, 1) := by decide +kernel
theorem d_ST_addOtherUnits_19 : decode b_ST_addOtherUnits 19 = .ok (.iload_n 3, 1) := by decide +kernel
theorem d_ST_addOtherUnits_20 : decode b_ST_addOtherUnits 20 = .ok (.invokevirtual 21, 3) := by decide +kernel
theorem d_ST_addOtherUnits_23 : decode b_ST_addOtherUnits 23 = .ok (.iinc 2 1, 3) := by decide +kernel
theorem d_ST_addOtherUnits_26 : decode b_ST_addOtherUnits 26 = .ok (.goto (-24), 3) := by decide +kernel
theorem d_ST_addOtherUnits_29 : decode b_ST_addOtherUnits 29 = .ok (.return_, 1) := by decide +kernel
set_option maxHeartbeats 4000000 in
set_option maxRecDepth 100000 in
theorem ct_ST_touch (l : Launch) (D : va_G) (tys : List (ClassId × FieldType)) (w0 : va_W) (N : Nat)  (u0 : Int32) (u1 : Int32) (out : Int32) (h : mi_ST_touch N u0 u1 = some out) : fw_C l y_ST_touch (.code y_ST_touch b_ST_touch 2 (some .boolean) :: Gw) (fr 1 40) D vwCl tys [.int u0, .int u1] (w0) (some (.int out)) (w0) := by
  refine fw_of (by decide) (Nat.le_of_ble_eq_true rfl) ?_
  intro p e s m args below meth c ls A R Q hR hQ S hr hlk hX hA hl hw
  have hK := hX.1
  have hx := S.1
  have hb := S.2.1
  have hown := S.2.2.2.1
  have hg := S.2.2.2.2
  have hl : lv_has ls 2 [(0, .int u0), (1, .int u1)] := hl
  unfold mi_ST_touch at h
  refine lv_iload_n hx hb d_ST_touch_0 rfl (lv_at hl 0 rfl) ?_
  refine lv_iconst (v := 5) hx hb d_ST_touch_1 (by decide) ?_
  refine lv_idiv hx hb d_ST_touch_2 (by decide) ?_
  refine lv_iload_n hx hb d_ST_touch_3 rfl (lv_at hl 1 rfl) ?_
  refine lv_iconst (v := 5) hx hb d_ST_touch_4 (by decide) ?_
  refine lv_idiv hx hb d_ST_touch_5 (by decide) ?_
  refine lv_isub hx hb d_ST_touch_6 ?_
  refine fw_mabs S hl.1 ma_ST_39 (by rw [hR]; decide) (by rw [hR]; exact Nat.le_of_ble_eq_true rfl) d_ST_touch_7 ⟨Nat.zero_le _, Nat.zero_le _⟩ ?_
  refine lv_iconst (v := 1) hx hb d_ST_touch_10 (by decide) ?_
  refine lv_icmp_gt (tgt := 32) hx hb d_ST_touch_11 (by decide) (fun hc => ?_) (fun hc => ?_)
  · have h := oi h hc
    refine lv_iconst (v := 0) hx hb d_ST_touch_32 (by decide) ?_
    have q := Option.some.inj h
    subst q
    exact fw_zret hQ S hr rfl hlk hX hw d_ST_touch_33
  · have h := oe h hc
    refine lv_iload_n hx hb d_ST_touch_14 rfl (lv_at hl 0 rfl) ?_
    refine lv_iconst (v := 5) hx hb d_ST_touch_15 (by decide) ?_
    refine lv_irem hx hb d_ST_touch_16 (by decide) ?_
    refine lv_iload_n hx hb d_ST_touch_17 rfl (lv_at hl 1 rfl) ?_
    refine lv_iconst (v := 5) hx hb d_ST_touch_18 (by decide) ?_
    refine lv_irem hx hb d_ST_touch_19 (by decide) ?_
    refine lv_isub hx hb d_ST_touch_20 ?_
    refine fw_mabs S hl.1 ma_ST_39 (by rw [hR]; decide) (by rw [hR]; exact Nat.le_of_ble_eq_true rfl) d_ST_touch_21 ⟨Nat.zero_le _, Nat.zero_le _⟩ ?_
    refine lv_iconst (v := 1) hx hb d_ST_touch_24 (by decide) ?_
    refine lv_icmp_gt (tgt := 32) hx hb d_ST_touch_25 (by decide) (fun hc => ?_) (fun hc => ?_)
    · have h := oi h hc
      refine lv_iconst (v := 0) hx hb d_ST_touch_32 (by decide) ?_
      have q := Option.some.inj h
      subst q
      exact fw_zret hQ S hr rfl hlk hX hw d_ST_touch_33
    · have h := oe h hc
      refine lv_iconst (v := 1) hx hb d_ST_touch_28 (by decide) ?_
      refine lv_goto (tgt := 33) hx hb d_ST_touch_29 (by decide) ?_
      have q := Option.some.inj h
      subst q
      exact fw_zret hQ S hr rfl hlk hX hw d_ST_touch_33
set_option maxHeartbeats 4000000 in
set_option maxRecDepth 100000 in
theorem ct_ST_makeNew (l : Launch) (D : va_G) (ad : Nat → Nat) (cI cL : ClassId) (N : Nat) (kk : Nat) (kn : Int32) (le : Int64) (ff : Int64) (fo : Int32) (ct : Int32) (fx : Int32) (gv : Nat → Int32) (pg : Nat → Int32) (cu : Nat → Int32) (co : Nat → Int32) (sg : Nat → Int32) (ru : Nat → Int32) (nu : Nat → Int32) (tg : Nat → Int32) (sc : Nat → Int64) (sr : Nat → Int32) (wy : Nat → Int64)  (out : (Nat → Int32)) (h : mi_ST_makeNew N tg = some out) : fw_C l y_ST_makeNew (.code y_ST_makeNew b_ST_makeNew 2 (none) :: Gw) (fr 0 0) D vwCl (tyA cI cL) [.ref (ad 3)] (wC ad cI cL kk kn le ff fo ct fx gv pg cu co sg ru nu tg sc sr wy) none (wC ad cI cL kk kn le ff fo ct fx gv pg cu co sg ru nu out sc sr wy) := by
  refine fw_of (by decide) (Nat.le_of_ble_eq_true rfl) ?_
  intro p e s m args below meth c ls A R Q hR hQ S hr hlk hX hA hl hw
  have hK := hX.1
  have hx := S.1
  have hb := S.2.1
  have hown := S.2.2.2.1
  have hg := S.2.2.2.2
  have hl : lv_has ls 2 [(0, .ref (ad 3))] := hl
  unfold mi_ST_makeNew at h
  refine lv_iconst (v := 0) hx hb d_ST_makeNew_0 (by decide) ?_
  refine lv_istore_n (lv' := [(1, .int (0 : Int32)), (0, .ref (ad 3))]) hx hb d_ST_makeNew_1 rfl hl (by decide) rfl (fun ls hl => ?_)
  have X2 : ∀ (y2 : Int32 × (Nat → Int32)), mr_ST_makeNew_2 y2 = some out → ∀ (ls : Array Slot) (H : Heap) (locs : List Loc), lv_has ls 2 [] → fw_H D vwCl A s.heap (wC ad cI cL kk kn le ff fo ct fx gv pg cu co sg ru nu y2.2 sc sr wy) H locs → W p l e R s m args below meth c H locs 0 0 Q (F0 m 25 ls []) := by
    intro y2 h ls H locs hl hw
    unfold mr_ST_makeNew_2 at h
    have q := Option.some.inj h
    subst q
    exact fw_vret hQ S hr hlk hX hw d_ST_makeNew_25
  have L2 : ∀ (n2 : Nat) (x2 : Int32 × (Nat → Int32)) (e2 : Int32 × (Nat → Int32)), lp (mb_ST_makeNew_2) n2 x2 = some e2 → (mr_ST_makeNew_2) e2 = some out → ∀ (ls : Array Slot) (H : Heap) (locs : List Loc), lv_has ls 2 [(0, .ref (ad 3)), (1, .int x2.1)] → fw_H D vwCl A s.heap (wC ad cI cL kk kn le ff fo ct fx gv pg cu co sg ru nu x2.2 sc sr wy) H locs → W p l e R s m args below meth c H locs 0 0 Q (F0 m 2 ls []) := by
    intro n2
    induction n2 with
    | zero => intro x2 e2 h1; exact absurd h1 lp_0
    | succ n2 ih2 =>
      intro x2 e2 h1 hr2 ls H locs hl hw
      rw [lp_s] at h1
      refine ob h1 (fun r2 h hk2 => ?_)
      unfold mb_ST_makeNew_2 at h
      refine lv_iload_n hx hb d_ST_makeNew_2 rfl (lv_at hl 1 rfl) ?_
      refine lv_aload_n hx hb d_ST_makeNew_3 rfl (lv_at hl 0 rfl) ?_
      refine va_get (ci := 3) (v := .int (25 : Int32)) (C := R_ST) (T := F_ST) (N := 6) hx hb hg in_ST hown hK hw.1 3 rfl rfl 1 (by decide) (hg _ q_45) (u_same (hg _ q_46)) rfl d_ST_makeNew_4 ?_
      refine lv_icmp_ge (tgt := 25) hx hb d_ST_makeNew_7 (by decide) (fun hc => ?_) (fun hc => ?_)
      · have h := oi h hc
        have q := Option.some.inj h
        subst q
        have q := Option.some.inj hk2
        subst q
        exact X2 (x2.1, x2.2) hr2 _ _ _ (lv_sub hl [] rfl) hw
      · have h := oe h hc
        refine lv_aload_n hx hb d_ST_makeNew_10 rfl (lv_at hl 0 rfl) ?_
        refine va_get (ci := 3) (v := .ref (ad 13)) (C := R_ST) (T := F_ST) (N := 6) hx hb hg in_ST hown hK hw.1 3 rfl rfl 5 (by decide) (hg _ q_62) (u_same (hg _ q_63)) rfl d_ST_makeNew_11 ?_
        refine lv_iload_n hx hb d_ST_makeNew_14 rfl (lv_at hl 1 rfl) ?_
        refine lv_iload_n hx hb d_ST_makeNew_15 rfl (lv_at hl 1 rfl) ?_
        refine lv_iconst (v := 5) hx hb d_ST_makeNew_16 (by decide) ?_
        refine lv_idiv hx hb d_ST_makeNew_17 (by decide) ?_
        refine oc h (fun hc1 h => ?_)
        refine va_iast hx hb hK hw.1 hw.2.1 hw.2.2 13 0 rfl rfl hc1 d_ST_makeNew_18 (fun H locs hP hD hS => ?_)
        have hw : fw_H D vwCl A s.heap (wC ad cI cL kk kn le ff fo ct fx gv pg cu co sg ru nu (upd x2.2 x2.1.toNatClampNeg (x2.1 / (5 : Int32))) sc sr wy) H locs := ⟨hP, hD, hS⟩
        refine lv_iinc (k := 1) (v := x2.1 + 1) (lv' := [(1, .int (x2.1 + 1)), (0, .ref (ad 3))]) hx hb d_ST_makeNew_19 hl rfl (by rw [lit1]) (by decide) rfl (fun ls hl => ?_)
        refine lv_goto (tgt := 2) hx hb d_ST_makeNew_22 (by decide) ?_
        have q := Option.some.inj h
        subst q
        exact ih2 (x2.1 + 1, upd x2.2 x2.1.toNatClampNeg (x2.1 / (5 : Int32))) e2 hk2 hr2 _ _ _ (lv_sub hl [1, 0] rfl) hw
  refine ob h (fun e2 h1 h2 => ?_)
  exact L2 N ((0 : Int32), tg) e2 h1 h2 _ _ _ (lv_sub hl [1, 0] rfl) hw
set_option maxHeartbeats 4000000 in
set_option maxRecDepth 100000 in
theorem ct_ST_wayWithStar (l : Launch) (D : va_G) (ad : Nat → Nat) (cI cL : ClassId) (N : Nat) (kk : Nat) (kn : Int32) (le : Int64) (ff : Int64) (fo : Int32) (ct : Int32) (fx : Int32) (gv : Nat → Int32) (pg : Nat → Int32) (cu : Nat → Int32) (co : Nat → Int32) (sg : Nat → Int32) (ru : Nat → Int32) (nu : Nat → Int32) (tg : Nat → Int32) (sc : Nat → Int64) (sr : Nat → Int32) (wy : Nat → Int64) (u1 : Int32) (u2 : Int32) (out : Int64) (h : mi_ST_wayWithStar N u1 u2 = some out) : fw_C l y_ST_wayWithStar (.code y_ST_wayWithStar b_ST_wayWithStar 6 (some .long) :: Gw) (fr 1 22) D vwCl (tyA cI cL) [.ref (ad 3), .int u1, .int u2] (wC ad cI cL kk kn le ff fo ct fx gv pg cu co sg ru nu tg sc sr wy) (some (.long out)) (wC ad cI cL kk kn le ff fo ct fx gv pg cu co sg ru nu tg sc sr wy) := by
  refine fw_of (by decide) (Nat.le_of_ble_eq_true rfl) ?_
  intro p e s m args below meth c ls A R Q hR hQ S hr hlk hX hA hl hw
  have hK := hX.1
  have hx := S.1
  have hb := S.2.1
  have hown := S.2.2.2.1
  have hg := S.2.2.2.2
  have hl : lv_has ls 6 [(0, .ref (ad 3)), (1, .int u1), (2, .int u2)] := hl
  unfold mi_ST_wayWithStar at h
  refine lv_lconst (v := 0) hx hb d_ST_wayWithStar_0 (by decide) ?_
  refine lv_lstore_n (lv' := [(3, .long (0 : Int64)), (0, .ref (ad 3)), (1, .int u1), (2, .int u2)]) hx hb d_ST_wayWithStar_1 rfl hl (by decide) rfl (fun ls hl => ?_)
  refine lv_iconst (v := 0) hx hb d_ST_wayWithStar_2 (by decide) ?_
  refine lv_istore (lv' := [(5, .int (0 : Int32)), (3, .long (0 : Int64)), (0, .ref (ad 3)), (1, .int u1), (2, .int u2)]) hx hb d_ST_wayWithStar_3 hl (by decide) rfl (fun ls hl => ?_)
  have X5 : ∀ (y5 : Int64 × Int32), mr_ST_wayWithStar_5 y5 = some out → ∀ (ls : Array Slot) (H : Heap) (locs : List Loc), lv_has ls 6 [(3, .long y5.1)] → fw_H D vwCl A s.heap (wC ad cI cL kk kn le ff fo ct fx gv pg cu co sg ru nu tg sc sr wy) H locs → W p l e R s m args below meth c H locs 0 0 Q (F0 m 50 ls []) := by
    intro y5 h ls H locs hl hw
    unfold mr_ST_wayWithStar_5 at h
    refine lv_lload_n hx hb d_ST_wayWithStar_50 rfl (lv_at hl 0 rfl) ?_
    have q := Option.some.inj h
    subst q
    exact fw_lret hQ S hr hlk hX hw d_ST_wayWithStar_51
  have L5 : ∀ (n5 : Nat) (x5 : Int64 × Int32) (e5 : Int64 × Int32), lp (mb_ST_wayWithStar_5 N u1 u2) n5 x5 = some e5 → (mr_ST_wayWithStar_5) e5 = some out → ∀ (ls : Array Slot) (H : Heap) (locs : List Loc), lv_has ls 6 [(0, .ref (ad 3)), (1, .int u1), (2, .int u2), (3, .long x5.1), (5, .int x5.2)] → fw_H D vwCl A s.heap (wC ad cI cL kk kn le ff fo ct fx gv pg cu co sg ru nu tg sc sr wy) H locs → W p l e R s m args below meth c H locs 0 0 Q (F0 m 5 ls []) := by
    intro n5
    induction n5 with
    | zero => intro x5 e5 h1; exact absurd h1 lp_0
    | succ n5 ih5 =>
      intro x5 e5 h1 hr5 ls H locs hl hw
      rw [lp_s] at h1
      refine ob h1 (fun r5 h hk5 => ?_)
      unfold mb_ST_wayWithStar_5 at h
      refine lv_iload hx hb d_ST_wayWithStar_5 (lv_at hl 4 rfl) ?_
      refine lv_aload_n hx hb d_ST_wayWithStar_7 rfl (lv_at hl 0 rfl) ?_
      refine va_get (ci := 3) (v := .int (25 : Int32)) (C := R_ST) (T := F_ST) (N := 6) hx hb hg in_ST hown hK hw.1 3 rfl rfl 1 (by decide) (hg _ q_45) (u_same (hg _ q_46)) rfl d_ST_wayWithStar_8 ?_
      refine lv_icmp_ge (tgt := 50) hx hb d_ST_wayWithStar_11 (by decide) (fun hc => ?_) (fun hc => ?_)
      · have h := oi h hc
        have q := Option.some.inj h
        subst q
        have q := Option.some.inj hk5
        subst q
        exact X5 (x5.1, x5.2) hr5 _ _ _ (lv_sub hl [3] rfl) hw
      · have h := oe h hc
        refine lv_iload_n hx hb d_ST_wayWithStar_14 rfl (lv_at hl 1 rfl) ?_
        refine lv_iload hx hb d_ST_wayWithStar_15 (lv_at hl 4 rfl) ?_
        refine lv_ishr hx hb d_ST_wayWithStar_17 ?_
        refine lv_iconst (v := 1) hx hb d_ST_wayWithStar_18 (by decide) ?_
        refine lv_iand hx hb d_ST_wayWithStar_19 ?_
        refine lv_iconst (v := 1) hx hb d_ST_wayWithStar_20 (by decide) ?_
        refine lv_icmp_ne (tgt := 44) hx hb d_ST_wayWithStar_21 (by decide) (fun hc => ?_) (fun hc => ?_)
        · have h := oe h hc
          refine lv_iinc (k := 4) (v := x5.2 + 1) (lv' := [(5, .int (x5.2 + 1)), (0, .ref (ad 3)), (1, .int u1), (2, .int u2), (3, .long x5.1)]) hx hb d_ST_wayWithStar_44 hl rfl (by rw [lit1]) (by decide) rfl (fun ls hl => ?_)
          refine lv_goto (tgt := 5) hx hb d_ST_wayWithStar_47 (by decide) ?_
          have q := Option.some.inj h
          subst q
          exact ih5 (x5.1, x5.2 + 1) e5 hk5 hr5 _ _ _ (lv_sub hl [1, 2, 3, 4, 0] rfl) hw
        · have h := oi h hc
          refine lv_lload_n hx hb d_ST_wayWithStar_24 rfl (lv_at hl 3 rfl) ?_
          refine lv_aload_n hx hb d_ST_wayWithStar_25 rfl (lv_at hl 0 rfl) ?_
          refine lv_iload hx hb d_ST_wayWithStar_26 (lv_at hl 4 rfl) ?_
          refine lv_iload hx hb d_ST_wayWithStar_28 (lv_at hl 4 rfl) ?_
          refine lv_iload_n hx hb d_ST_wayWithStar_30 rfl (lv_at hl 2 rfl) ?_
          have J39 : ∀ (j39s3 : Int32), mj_ST_wayWithStar_39 N x5 j39s3 = some r5 → ∀ (ls : Array Slot) (H : Heap) (locs : List Loc), lv_has ls 6 [(0, .ref (ad 3)), (1, .int u1), (2, .int u2), (5, .int x5.2)] → fw_H D vwCl A s.heap (wC ad cI cL kk kn le ff fo ct fx gv pg cu co sg ru nu tg sc sr wy) H locs → W p l e R s m args below meth c H locs 0 0 Q (F0 m 39 ls [.int j39s3, .int x5.2, .ref (ad 3), .long x5.1]) := by
            intro j39s3 h ls H locs hl hw
            unfold mj_ST_wayWithStar_39 at h
            refine ob h (fun r39 h39 h => ?_)
            refine fw_callU (As := [.int x5.2, .int j39s3]) (rest := [.long x5.1]) (st1 := [.long r39, .long x5.1]) S (ct_KD_bit l D ad cI cL N 3 K3_3 kk kn le ff fo ct fx gv pg cu co sg ru nu tg sc sr wy x5.2 j39s3 r39 h39) q_269 q_270 q_271 q_243 q_2 k_KD_bit hd_KD_bit rfl ⟨by rw [hR]; decide, by rw [hR]; decide⟩ rfl rfl hX hw hA 3 (ci := 3) rfl rfl hl.1 rfl rfl (Nat.le_of_ble_eq_true rfl) d_ST_wayWithStar_39 ⟨Nat.zero_le _, Nat.zero_le _⟩ rfl (fun H locs hw => ?_)
            refine lv_lor hx hb d_ST_wayWithStar_42 ?_
            refine lv_lstore_n (lv' := [(3, .long (x5.1 ||| r39)), (0, .ref (ad 3)), (1, .int u1), (2, .int u2), (5, .int x5.2)]) hx hb d_ST_wayWithStar_43 rfl hl (by decide) rfl (fun ls hl => ?_)
            refine lv_iinc (k := 4) (v := x5.2 + 1) (lv' := [(5, .int (x5.2 + 1)), (3, .long (x5.1 ||| r39)), (0, .ref (ad 3)), (1, .int u1), (2, .int u2)]) hx hb d_ST_wayWithStar_44 hl rfl (by rw [lit1]) (by decide) rfl (fun ls hl => ?_)
            refine lv_goto (tgt := 5) hx hb d_ST_wayWithStar_47 (by decide) ?_
            have q := Option.some.inj h
            subst q
            exact ih5 (x5.1 ||| r39, x5.2 + 1) e5 hk5 hr5 _ _ _ (lv_sub hl [2, 3, 4, 1, 0] rfl) hw
          refine lv_icmp_ne (tgt := 38) hx hb d_ST_wayWithStar_31 (by decide) (fun hc => ?_) (fun hc => ?_)
          · have h := oe h hc
            refine lv_iconst (v := 0) hx hb d_ST_wayWithStar_38 (by decide) ?_
            exact J39 (0 : Int32) h _ _ _ (lv_sub hl [0, 1, 2, 4] rfl) hw
          · have h := oi h hc
            refine lv_iconst (v := 1) hx hb d_ST_wayWithStar_34 (by decide) ?_
            refine lv_goto (tgt := 39) hx hb d_ST_wayWithStar_35 (by decide) ?_
            exact J39 (1 : Int32) h _ _ _ (lv_sub hl [0, 1, 2, 4] rfl) hw
  refine ob h (fun e5 h1 h2 => ?_)
  exact L5 N ((0 : Int64), (0 : Int32)) e5 h1 h2 _ _ _ (lv_sub hl [2, 3, 4, 1, 0] rfl) hw
set_option maxHeartbeats 4000000 in
set_option maxRecDepth 100000 in
theorem ct_ST_addJustOne (l : Launch) (D : va_G) (ad : Nat → Nat) (cI cL : ClassId) (N : Nat) (kk : Nat) (kn : Int32) (le : Int64) (ff : Int64) (fo : Int32) (ct : Int32) (fx : Int32) (gv : Nat → Int32) (pg : Nat → Int32) (cu : Nat → Int32) (co : Nat → Int32) (sg : Nat → Int32) (ru : Nat → Int32) (nu : Nat → Int32) (tg : Nat → Int32) (sc : Nat → Int64) (sr : Nat → Int32) (wy : Nat → Int64) (u2 : Int32) (out : Int32 × (Nat → Int64) × (Nat → Int32) × (Nat → Int64)) (h : mi_ST_addJustOne N ct sc sr wy u2 = some out) : fw_C l y_ST_addJustOne (.code y_ST_addJustOne b_ST_addJustOne 4 (none) :: Gw) (fr 2 47) D vwCl (tyA cI cL) [.ref (ad 3), .ref (ad 5), .int u2] (wC ad cI cL kk kn le ff fo ct fx gv pg cu co sg ru nu tg sc sr wy) none (wC ad cI cL kk kn le ff fo out.1 fx gv pg cu co sg ru nu tg out.2.1 out.2.2.1 out.2.2.2) := by
  refine fw_of (by decide) (Nat.le_of_ble_eq_true rfl) ?_
  intro p e s m args below meth c ls A R Q hR hQ S hr hlk hX hA hl hw
  have hK := hX.1
  have hx := S.1
  have hb := S.2.1
  have hown := S.2.2.2.1
  have hg := S.2.2.2.2
  have hl : lv_has ls 4 [(0, .ref (ad 3)), (1, .ref (ad 5)), (2, .int u2)] := hl
  unfold mi_ST_addJustOne at h
  refine lv_aload_n hx hb d_ST_addJustOne_0 rfl (lv_at hl 1 rfl) ?_
  refine lv_aload_n hx hb d_ST_addJustOne_1 rfl (lv_at hl 0 rfl) ?_
  refine lv_iload_n hx hb d_ST_addJustOne_2 rfl (lv_at hl 2 rfl) ?_
  refine ob h (fun r3 h3 h => ?_)
  refine fw_callU (As := [.int u2]) (rest := [.ref (ad 5)]) (st1 := [.long r3, .ref (ad 5)]) S (ct_KD_scopeOf l D ad cI cL N 3 K3_3 kk kn le ff fo ct fx gv pg cu co sg ru nu tg sc sr wy u2 r3 h3) q_261 q_262 q_263 q_203 q_2 k_KD_scopeOf hd_KD_scopeOf rfl ⟨by rw [hR]; decide, by rw [hR]; decide⟩ rfl rfl hX hw hA 3 (ci := 3) rfl rfl hl.1 rfl rfl (Nat.le_of_ble_eq_true rfl) d_ST_addJustOne_3 ⟨Nat.zero_le _, Nat.zero_le _⟩ rfl (fun H locs hw => ?_)
  refine ob h (fun r6 h6 h => ?_)
  refine fw_callV (As := [.long r3]) (rest := []) (st1 := []) S (ct_UN_begin l D ad cI cL N kk kn le ff fo ct fx gv pg cu co sg ru nu tg sc sr wy r3 r6 h6) q_264 q_213 q_214 q_7 k_UN_begin hd_UN_begin ⟨by rw [hR]; decide, by rw [hR]; decide⟩ rfl rfl hX hw hA 5 (ci := 5) rfl rfl hl.1 rfl rfl (Nat.le_of_ble_eq_true rfl) d_ST_addJustOne_6 ⟨Nat.zero_le _, Nat.zero_le _⟩ rfl (fun H locs hw => ?_)
  refine lv_iconst (v := 0) hx hb d_ST_addJustOne_9 (by decide) ?_
  refine lv_istore_n (lv' := [(3, .int (0 : Int32)), (0, .ref (ad 3)), (1, .ref (ad 5)), (2, .int u2)]) hx hb d_ST_addJustOne_10 rfl hl (by decide) rfl (fun ls hl => ?_)
  have X11 : ∀ (y11 : Int32 × (Nat → Int32) × (Nat → Int64)), mr_ST_addJustOne_11 r6 y11 = some out → ∀ (ls : Array Slot) (H : Heap) (locs : List Loc), lv_has ls 4 [] → fw_H D vwCl A s.heap (wC ad cI cL kk kn le ff fo r6.1 fx gv pg cu co sg ru nu tg r6.2.1 y11.2.1 y11.2.2) H locs → W p l e R s m args below meth c H locs 0 0 Q (F0 m 44 ls []) := by
    intro y11 h ls H locs hl hw
    unfold mr_ST_addJustOne_11 at h
    have q := Option.some.inj h
    subst q
    exact fw_vret hQ S hr hlk hX hw d_ST_addJustOne_44
  have L11 : ∀ (n11 : Nat) (x11 : Int32 × (Nat → Int32) × (Nat → Int64)) (e11 : Int32 × (Nat → Int32) × (Nat → Int64)), lp (mb_ST_addJustOne_11 N u2 r6) n11 x11 = some e11 → (mr_ST_addJustOne_11 r6) e11 = some out → ∀ (ls : Array Slot) (H : Heap) (locs : List Loc), lv_has ls 4 [(0, .ref (ad 3)), (1, .ref (ad 5)), (2, .int u2), (3, .int x11.1)] → fw_H D vwCl A s.heap (wC ad cI cL kk kn le ff fo r6.1 fx gv pg cu co sg ru nu tg r6.2.1 x11.2.1 x11.2.2) H locs → W p l e R s m args below meth c H locs 0 0 Q (F0 m 11 ls []) := by
    intro n11
    induction n11 with
    | zero => intro x11 e11 h1; exact absurd h1 lp_0
    | succ n11 ih11 =>
      intro x11 e11 h1 hr11 ls H locs hl hw
      rw [lp_s] at h1
      refine ob h1 (fun r11 h hk11 => ?_)
      unfold mb_ST_addJustOne_11 at h
      refine lv_iload_n hx hb d_ST_addJustOne_11 rfl (lv_at hl 3 rfl) ?_
      refine lv_aload_n hx hb d_ST_addJustOne_12 rfl (lv_at hl 0 rfl) ?_
      refine va_get (ci := 3) (v := .int (25 : Int32)) (C := R_ST) (T := F_ST) (N := 6) hx hb hg in_ST hown hK hw.1 3 rfl rfl 1 (by decide) (hg _ q_45) (u_same (hg _ q_46)) rfl d_ST_addJustOne_13 ?_
      refine lv_icmp_ge (tgt := 44) hx hb d_ST_addJustOne_16 (by decide) (fun hc => ?_) (fun hc => ?_)
      · have h := oi h hc
        have q := Option.some.inj h
        subst q
        have q := Option.some.inj hk11
        subst q
        exact X11 (x11.1, x11.2.1, x11.2.2) hr11 _ _ _ (lv_sub hl [] rfl) hw
      · have h := oe h hc
        refine lv_iload_n hx hb d_ST_addJustOne_19 rfl (lv_at hl 2 rfl) ?_
        refine lv_iload_n hx hb d_ST_addJustOne_20 rfl (lv_at hl 3 rfl) ?_
        refine lv_ishr hx hb d_ST_addJustOne_21 ?_
        refine lv_iconst (v := 1) hx hb d_ST_addJustOne_22 (by decide) ?_
        refine lv_iand hx hb d_ST_addJustOne_23 ?_
        refine lv_iconst (v := 1) hx hb d_ST_addJustOne_24 (by decide) ?_
        refine lv_icmp_ne (tgt := 38) hx hb d_ST_addJustOne_25 (by decide) (fun hc => ?_) (fun hc => ?_)
        · have h := oe h hc
          refine lv_iinc (k := 3) (v := x11.1 + 1) (lv' := [(3, .int (x11.1 + 1)), (0, .ref (ad 3)), (1, .ref (ad 5)), (2, .int u2)]) hx hb d_ST_addJustOne_38 hl rfl (by rw [lit1]) (by decide) rfl (fun ls hl => ?_)
          refine lv_goto (tgt := 11) hx hb d_ST_addJustOne_41 (by decide) ?_
          have q := Option.some.inj h
          subst q
          exact ih11 (x11.1 + 1, x11.2.1, x11.2.2) e11 hk11 hr11 _ _ _ (lv_sub hl [1, 2, 3, 0] rfl) hw
        · have h := oi h hc
          refine lv_aload_n hx hb d_ST_addJustOne_28 rfl (lv_at hl 1 rfl) ?_
          refine lv_aload_n hx hb d_ST_addJustOne_29 rfl (lv_at hl 0 rfl) ?_
          refine lv_iload_n hx hb d_ST_addJustOne_30 rfl (lv_at hl 2 rfl) ?_
          refine lv_iload_n hx hb d_ST_addJustOne_31 rfl (lv_at hl 3 rfl) ?_
          refine ob h (fun r32 h32 h => ?_)
          refine fw_callV (As := [.int u2, .int x11.1]) (rest := [.ref (ad 5)]) (st1 := [.long r32, .ref (ad 5)]) S (ct_ST_wayWithStar l D ad cI cL N kk kn le ff fo r6.1 fx gv pg cu co sg ru nu tg r6.2.1 x11.2.1 x11.2.2 u2 x11.1 r32 h32) q_265 q_267 s_5 q_5 k_ST_wayWithStar hd_ST_wayWithStar ⟨by rw [hR]; decide, by rw [hR]; decide⟩ rfl rfl hX hw hA 3 (ci := 3) rfl rfl hl.1 rfl rfl (Nat.le_of_ble_eq_true rfl) d_ST_addJustOne_32 ⟨Nat.zero_le _, Nat.zero_le _⟩ rfl (fun H locs hw => ?_)
          refine ob h (fun r35 h35 h => ?_)
          refine fw_callV (As := [.long r32]) (rest := []) (st1 := []) S (ct_UN_addWay l D ad cI cL N kk kn le ff fo r6.1 fx gv pg cu co sg ru nu tg r6.2.1 x11.2.1 x11.2.2 r32 r35 h35) q_272 q_225 q_226 q_7 k_UN_addWay hd_UN_addWay ⟨by rw [hR]; decide, by rw [hR]; decide⟩ rfl rfl hX hw hA 5 (ci := 5) rfl rfl hl.1 rfl rfl (Nat.le_of_ble_eq_true rfl) d_ST_addJustOne_35 ⟨Nat.zero_le _, Nat.zero_le _⟩ rfl (fun H locs hw => ?_)
          refine lv_iinc (k := 3) (v := x11.1 + 1) (lv' := [(3, .int (x11.1 + 1)), (0, .ref (ad 3)), (1, .ref (ad 5)), (2, .int u2)]) hx hb d_ST_addJustOne_38 hl rfl (by rw [lit1]) (by decide) rfl (fun ls hl => ?_)
          refine lv_goto (tgt := 11) hx hb d_ST_addJustOne_41 (by decide) ?_
          have q := Option.some.inj h
          subst q
          exact ih11 (x11.1 + 1, r35.1, r35.2) e11 hk11 hr11 _ _ _ (lv_sub hl [1, 2, 3, 0] rfl) hw
  refine ob h (fun e11 h1 h2 => ?_)
  exact L11 N ((0 : Int32), r6.2.2, wy) e11 h1 h2 _ _ _ (lv_sub hl [1, 2, 3, 0] rfl) hw
set_option maxHeartbeats 4000000 in
set_option maxRecDepth 100000 in
theorem ct_ST_addNotBoth (l : Launch) (D : va_G) (ad : Nat → Nat) (cI cL : ClassId) (N : Nat) (kk : Nat) (kn : Int32) (le : Int64) (ff : Int64) (fo : Int32) (ct : Int32) (fx : Int32) (gv : Nat → Int32) (pg : Nat → Int32) (cu : Nat → Int32) (co : Nat → Int32) (sg : Nat → Int32) (ru : Nat → Int32) (nu : Nat → Int32) (tg : Nat → Int32) (sc : Nat → Int64) (sr : Nat → Int32) (wy : Nat → Int64) (u2 : Int32) (u3 : Int32) (out : Int32 × (Nat → Int64) × (Nat → Int32) × (Nat → Int64)) (h : mi_ST_addNotBoth N ct sc sr wy u2 u3 = some out) : fw_C l y_ST_addNotBoth (.code y_ST_addNotBoth b_ST_addNotBoth 4 (none) :: Gw) (fr 1 23) D vwCl (tyA cI cL) [.ref (ad 3), .ref (ad 5), .int u2, .int u3] (wC ad cI cL kk kn le ff fo ct fx gv pg cu co sg ru nu tg sc sr wy) none (wC ad cI cL kk kn le ff fo out.1 fx gv pg cu co sg ru nu tg out.2.1 out.2.2.1 out.2.2.2) := by
  refine fw_of (by decide) (Nat.le_of_ble_eq_true rfl) ?_
  intro p e s m args below meth c ls A R Q hR hQ S hr hlk hX hA hl hw
  have hK := hX.1
  have hx := S.1
  have hb := S.2.1
  have hown := S.2.2.2.1
  have hg := S.2.2.2.2
  have hl : lv_has ls 4 [(0, .ref (ad 3)), (1, .ref (ad 5)), (2, .int u2), (3, .int u3)] := hl
  unfold mi_ST_addNotBoth at h
  refine lv_aload_n hx hb d_ST_addNotBoth_0 rfl (lv_at hl 1 rfl) ?_
  refine lv_aload_n hx hb d_ST_addNotBoth_1 rfl (lv_at hl 0 rfl) ?_
  refine lv_iload_n hx hb d_ST_addNotBoth_2 rfl (lv_at hl 2 rfl) ?_
  refine ob h (fun r3 h3 h => ?_)
  refine fw_callU (As := [.int u2]) (rest := [.ref (ad 5)]) (st1 := [.long r3, .ref (ad 5)]) S (ct_KD_allOf l D ad cI cL N 3 K3_3 kk kn le ff fo ct fx gv pg cu co sg ru nu tg sc sr wy u2 r3 h3) q_286 q_287 q_289 q_206 q_2 k_KD_allOf hd_KD_allOf rfl ⟨by rw [hR]; decide, by rw [hR]; decide⟩ rfl rfl hX hw hA 3 (ci := 3) rfl rfl hl.1 rfl rfl (Nat.le_of_ble_eq_true rfl) d_ST_addNotBoth_3 ⟨Nat.zero_le _, Nat.zero_le _⟩ rfl (fun H locs hw => ?_)
  refine lv_aload_n hx hb d_ST_addNotBoth_6 rfl (lv_at hl 0 rfl) ?_
  refine lv_iload_n hx hb d_ST_addNotBoth_7 rfl (lv_at hl 3 rfl) ?_
  refine ob h (fun r8 h8 h => ?_)
  refine fw_callU (As := [.int u3]) (rest := [.long r3, .ref (ad 5)]) (st1 := [.long r8, .long r3, .ref (ad 5)]) S (ct_KD_allOf l D ad cI cL N 3 K3_3 kk kn le ff fo ct fx gv pg cu co sg ru nu tg sc sr wy u3 r8 h8) q_286 q_287 q_289 q_206 q_2 k_KD_allOf hd_KD_allOf rfl ⟨by rw [hR]; decide, by rw [hR]; decide⟩ rfl rfl hX hw hA 3 (ci := 3) rfl rfl hl.1 rfl rfl (Nat.le_of_ble_eq_true rfl) d_ST_addNotBoth_8 ⟨Nat.zero_le _, Nat.zero_le _⟩ rfl (fun H locs hw => ?_)
  refine lv_lor hx hb d_ST_addNotBoth_11 ?_
  refine ob h (fun r12 h12 h => ?_)
  refine fw_callV (As := [.long (r3 ||| r8)]) (rest := []) (st1 := []) S (ct_UN_begin l D ad cI cL N kk kn le ff fo ct fx gv pg cu co sg ru nu tg sc sr wy (r3 ||| r8) r12 h12) q_264 q_213 q_214 q_7 k_UN_begin hd_UN_begin ⟨by rw [hR]; decide, by rw [hR]; decide⟩ rfl rfl hX hw hA 5 (ci := 5) rfl rfl hl.1 rfl rfl (Nat.le_of_ble_eq_true rfl) d_ST_addNotBoth_12 ⟨Nat.zero_le _, Nat.zero_le _⟩ rfl (fun H locs hw => ?_)
  refine lv_aload_n hx hb d_ST_addNotBoth_15 rfl (lv_at hl 1 rfl) ?_
  refine lv_aload_n hx hb d_ST_addNotBoth_16 rfl (lv_at hl 0 rfl) ?_
  refine lv_iload_n hx hb d_ST_addNotBoth_17 rfl (lv_at hl 2 rfl) ?_
  refine lv_iconst (v := 0) hx hb d_ST_addNotBoth_18 (by decide) ?_
  refine ob h (fun r19 h19 h => ?_)
  refine fw_callU (As := [.int u2, .int (0 : Int32)]) (rest := [.ref (ad 5)]) (st1 := [.long r19, .ref (ad 5)]) S (ct_KD_bit l D ad cI cL N 3 K3_3 kk kn le ff fo r12.1 fx gv pg cu co sg ru nu tg r12.2.1 r12.2.2 wy u2 (0 : Int32) r19 h19) q_269 q_270 q_271 q_243 q_2 k_KD_bit hd_KD_bit rfl ⟨by rw [hR]; decide, by rw [hR]; decide⟩ rfl rfl hX hw hA 3 (ci := 3) rfl rfl hl.1 rfl rfl (Nat.le_of_ble_eq_true rfl) d_ST_addNotBoth_19 ⟨Nat.zero_le _, Nat.zero_le _⟩ rfl (fun H locs hw => ?_)
  refine lv_aload_n hx hb d_ST_addNotBoth_22 rfl (lv_at hl 0 rfl) ?_
  refine lv_iload_n hx hb d_ST_addNotBoth_23 rfl (lv_at hl 3 rfl) ?_
  refine lv_iconst (v := 0) hx hb d_ST_addNotBoth_24 (by decide) ?_
  refine ob h (fun r25 h25 h => ?_)
  refine fw_callU (As := [.int u3, .int (0 : Int32)]) (rest := [.long r19, .ref (ad 5)]) (st1 := [.long r25, .long r19, .ref (ad 5)]) S (ct_KD_bit l D ad cI cL N 3 K3_3 kk kn le ff fo r12.1 fx gv pg cu co sg ru nu tg r12.2.1 r12.2.2 wy u3 (0 : Int32) r25 h25) q_269 q_270 q_271 q_243 q_2 k_KD_bit hd_KD_bit rfl ⟨by rw [hR]; decide, by rw [hR]; decide⟩ rfl rfl hX hw hA 3 (ci := 3) rfl rfl hl.1 rfl rfl (Nat.le_of_ble_eq_true rfl) d_ST_addNotBoth_25 ⟨Nat.zero_le _, Nat.zero_le _⟩ rfl (fun H locs hw => ?_)
  refine lv_lor hx hb d_ST_addNotBoth_28 ?_
  refine ob h (fun r29 h29 h => ?_)
  refine fw_callV (As := [.long (r19 ||| r25)]) (rest := []) (st1 := []) S (ct_UN_addWay l D ad cI cL N kk kn le ff fo r12.1 fx gv pg cu co sg ru nu tg r12.2.1 r12.2.2 wy (r19 ||| r25) r29 h29) q_272 q_225 q_226 q_7 k_UN_addWay hd_UN_addWay ⟨by rw [hR]; decide, by rw [hR]; decide⟩ rfl rfl hX hw hA 5 (ci := 5) rfl rfl hl.1 rfl rfl (Nat.le_of_ble_eq_true rfl) d_ST_addNotBoth_29 ⟨Nat.zero_le _, Nat.zero_le _⟩ rfl (fun H locs hw => ?_)
  refine lv_aload_n hx hb d_ST_addNotBoth_32 rfl (lv_at hl 1 rfl) ?_
  refine lv_aload_n hx hb d_ST_addNotBoth_33 rfl (lv_at hl 0 rfl) ?_
  refine lv_iload_n hx hb d_ST_addNotBoth_34 rfl (lv_at hl 2 rfl) ?_
  refine lv_iconst (v := 0) hx hb d_ST_addNotBoth_35 (by decide) ?_
  refine ob h (fun r36 h36 h => ?_)
  refine fw_callU (As := [.int u2, .int (0 : Int32)]) (rest := [.ref (ad 5)]) (st1 := [.long r36, .ref (ad 5)]) S (ct_KD_bit l D ad cI cL N 3 K3_3 kk kn le ff fo r12.1 fx gv pg cu co sg ru nu tg r12.2.1 r29.1 r29.2 u2 (0 : Int32) r36 h36) q_269 q_270 q_271 q_243 q_2 k_KD_bit hd_KD_bit rfl ⟨by rw [hR]; decide, by rw [hR]; decide⟩ rfl rfl hX hw hA 3 (ci := 3) rfl rfl hl.1 rfl rfl (Nat.le_of_ble_eq_true rfl) d_ST_addNotBoth_36 ⟨Nat.zero_le _, Nat.zero_le _⟩ rfl (fun H locs hw => ?_)
  refine lv_aload_n hx hb d_ST_addNotBoth_39 rfl (lv_at hl 0 rfl) ?_
  refine lv_iload_n hx hb d_ST_addNotBoth_40 rfl (lv_at hl 3 rfl) ?_
  refine lv_iconst (v := 1) hx hb d_ST_addNotBoth_41 (by decide) ?_
  refine ob h (fun r42 h42 h => ?_)
  refine fw_callU (As := [.int u3, .int (1 : Int32)]) (rest := [.long r36, .ref (ad 5)]) (st1 := [.long r42, .long r36, .ref (ad 5)]) S (ct_KD_bit l D ad cI cL N 3 K3_3 kk kn le ff fo r12.1 fx gv pg cu co sg ru nu tg r12.2.1 r29.1 r29.2 u3 (1 : Int32) r42 h42) q_269 q_270 q_271 q_243 q_2 k_KD_bit hd_KD_bit rfl ⟨by rw [hR]; decide, by rw [hR]; decide⟩ rfl rfl hX hw hA 3 (ci := 3) rfl rfl hl.1 rfl rfl (Nat.le_of_ble_eq_true rfl) d_ST_addNotBoth_42 ⟨Nat.zero_le _, Nat.zero_le _⟩ rfl (fun H locs hw => ?_)
  refine lv_lor hx hb d_ST_addNotBoth_45 ?_
  refine ob h (fun r46 h46 h => ?_)
  refine fw_callV (As := [.long (r36 ||| r42)]) (rest := []) (st1 := []) S (ct_UN_addWay l D ad cI cL N kk kn le ff fo r12.1 fx gv pg cu co sg ru nu tg r12.2.1 r29.1 r29.2 (r36 ||| r42) r46 h46) q_272 q_225 q_226 q_7 k_UN_addWay hd_UN_addWay ⟨by rw [hR]; decide, by rw [hR]; decide⟩ rfl rfl hX hw hA 5 (ci := 5) rfl rfl hl.1 rfl rfl (Nat.le_of_ble_eq_true rfl) d_ST_addNotBoth_46 ⟨Nat.zero_le _, Nat.zero_le _⟩ rfl (fun H locs hw => ?_)
  refine lv_aload_n hx hb d_ST_addNotBoth_49 rfl (lv_at hl 1 rfl) ?_
  refine lv_aload_n hx hb d_ST_addNotBoth_50 rfl (lv_at hl 0 rfl) ?_
  refine lv_iload_n hx hb d_ST_addNotBoth_51 rfl (lv_at hl 2 rfl) ?_
  refine lv_iconst (v := 1) hx hb d_ST_addNotBoth_52 (by decide) ?_
  refine ob h (fun r53 h53 h => ?_)
  refine fw_callU (As := [.int u2, .int (1 : Int32)]) (rest := [.ref (ad 5)]) (st1 := [.long r53, .ref (ad 5)]) S (ct_KD_bit l D ad cI cL N 3 K3_3 kk kn le ff fo r12.1 fx gv pg cu co sg ru nu tg r12.2.1 r46.1 r46.2 u2 (1 : Int32) r53 h53) q_269 q_270 q_271 q_243 q_2 k_KD_bit hd_KD_bit rfl ⟨by rw [hR]; decide, by rw [hR]; decide⟩ rfl rfl hX hw hA 3 (ci := 3) rfl rfl hl.1 rfl rfl (Nat.le_of_ble_eq_true rfl) d_ST_addNotBoth_53 ⟨Nat.zero_le _, Nat.zero_le _⟩ rfl (fun H locs hw => ?_)
  refine lv_aload_n hx hb d_ST_addNotBoth_56 rfl (lv_at hl 0 rfl) ?_
  refine lv_iload_n hx hb d_ST_addNotBoth_57 rfl (lv_at hl 3 rfl) ?_
  refine lv_iconst (v := 0) hx hb d_ST_addNotBoth_58 (by decide) ?_
  refine ob h (fun r59 h59 h => ?_)
  refine fw_callU (As := [.int u3, .int (0 : Int32)]) (rest := [.long r53, .ref (ad 5)]) (st1 := [.long r59, .long r53, .ref (ad 5)]) S (ct_KD_bit l D ad cI cL N 3 K3_3 kk kn le ff fo r12.1 fx gv pg cu co sg ru nu tg r12.2.1 r46.1 r46.2 u3 (0 : Int32) r59 h59) q_269 q_270 q_271 q_243 q_2 k_KD_bit hd_KD_bit rfl ⟨by rw [hR]; decide, by rw [hR]; decide⟩ rfl rfl hX hw hA 3 (ci := 3) rfl rfl hl.1 rfl rfl (Nat.le_of_ble_eq_true rfl) d_ST_addNotBoth_59 ⟨Nat.zero_le _, Nat.zero_le _⟩ rfl (fun H locs hw => ?_)
  refine lv_lor hx hb d_ST_addNotBoth_62 ?_
  refine ob h (fun r63 h63 h => ?_)
  refine fw_callV (As := [.long (r53 ||| r59)]) (rest := []) (st1 := []) S (ct_UN_addWay l D ad cI cL N kk kn le ff fo r12.1 fx gv pg cu co sg ru nu tg r12.2.1 r46.1 r46.2 (r53 ||| r59) r63 h63) q_272 q_225 q_226 q_7 k_UN_addWay hd_UN_addWay ⟨by rw [hR]; decide, by rw [hR]; decide⟩ rfl rfl hX hw hA 5 (ci := 5) rfl rfl hl.1 rfl rfl (Nat.le_of_ble_eq_true rfl) d_ST_addNotBoth_63 ⟨Nat.zero_le _, Nat.zero_le _⟩ rfl (fun H locs hw => ?_)
  have q := Option.some.inj h
  subst q
  exact fw_vret hQ S hr hlk hX hw d_ST_addNotBoth_66
set_option maxHeartbeats 4000000 in
set_option maxRecDepth 100000 in
theorem ct_ST_addFixedUnits (l : Launch) (D : va_G) (ad : Nat → Nat) (cI cL : ClassId) (N : Nat) (kk : Nat) (kn : Int32) (le : Int64) (ff : Int64) (fo : Int32) (ct : Int32) (fx : Int32) (gv : Nat → Int32) (pg : Nat → Int32) (cu : Nat → Int32) (co : Nat → Int32) (sg : Nat → Int32) (ru : Nat → Int32) (nu : Nat → Int32) (tg : Nat → Int32) (sc : Nat → Int64) (sr : Nat → Int32) (wy : Nat → Int64)  (out : Int32 × (Nat → Int64) × (Nat → Int32) × (Nat → Int64)) (h : mi_ST_addFixedUnits N ct sc sr wy = some out) : fw_C l y_ST_addFixedUnits (.code y_ST_addFixedUnits b_ST_addFixedUnits 4 (none) :: Gw) (fr 3 70) D vwCl (tyA cI cL) [.ref (ad 3), .ref (ad 5)] (wC ad cI cL kk kn le ff fo ct fx gv pg cu co sg ru nu tg sc sr wy) none (wC ad cI cL kk kn le ff fo out.1 fx gv pg cu co sg ru nu tg out.2.1 out.2.2.1 out.2.2.2) := by
  refine fw_of (by decide) (Nat.le_of_ble_eq_true rfl) ?_
  intro p e s m args below meth c ls A R Q hR hQ S hr hlk hX hA hl hw
  have hK := hX.1
  have hx := S.1
  have hb := S.2.1
  have hown := S.2.2.2.1
  have hg := S.2.2.2.2
  have hl : lv_has ls 4 [(0, .ref (ad 3)), (1, .ref (ad 5))] := hl
  unfold mi_ST_addFixedUnits at h
  refine lv_iconst (v := 0) hx hb d_ST_addFixedUnits_0 (by decide) ?_
  refine lv_istore_n (lv' := [(2, .int (0 : Int32)), (0, .ref (ad 3)), (1, .ref (ad 5))]) hx hb d_ST_addFixedUnits_1 rfl hl (by decide) rfl (fun ls hl => ?_)
  have X2 : ∀ (y2 : Int32 × Int32 × (Nat → Int64) × (Nat → Int32) × (Nat → Int64)), mr_ST_addFixedUnits_2 N y2 = some out → ∀ (ls : Array Slot) (H : Heap) (locs : List Loc), lv_has ls 4 [(0, .ref (ad 3)), (1, .ref (ad 5))] → fw_H D vwCl A s.heap (wC ad cI cL kk kn le ff fo y2.2.1 fx gv pg cu co sg ru nu tg y2.2.2.1 y2.2.2.2.1 y2.2.2.2.2) H locs → W p l e R s m args below meth c H locs 0 0 Q (F0 m 33 ls []) := by
    intro y2 h ls H locs hl hw
    unfold mr_ST_addFixedUnits_2 at h
    refine lv_iconst (v := 0) hx hb d_ST_addFixedUnits_33 (by decide) ?_
    refine lv_istore_n (lv' := [(2, .int (0 : Int32)), (0, .ref (ad 3)), (1, .ref (ad 5))]) hx hb d_ST_addFixedUnits_34 rfl hl (by decide) rfl (fun ls hl => ?_)
    have X35 : ∀ (y35 : Int32 × Int32 × (Nat → Int64) × (Nat → Int32) × (Nat → Int64)), mr_ST_addFixedUnits_35 y35 = some out → ∀ (ls : Array Slot) (H : Heap) (locs : List Loc), lv_has ls 4 [] → fw_H D vwCl A s.heap (wC ad cI cL kk kn le ff fo y35.2.1 fx gv pg cu co sg ru nu tg y35.2.2.1 y35.2.2.2.1 y35.2.2.2.2) H locs → W p l e R s m args below meth c H locs 0 0 Q (F0 m 82 ls []) := by
      intro y35 h ls H locs hl hw
      unfold mr_ST_addFixedUnits_35 at h
      have q := Option.some.inj h
      subst q
      exact fw_vret hQ S hr hlk hX hw d_ST_addFixedUnits_82
    have L35 : ∀ (n35 : Nat) (x35 : Int32 × Int32 × (Nat → Int64) × (Nat → Int32) × (Nat → Int64)) (e35 : Int32 × Int32 × (Nat → Int64) × (Nat → Int32) × (Nat → Int64)), lp (mb_ST_addFixedUnits_35 N) n35 x35 = some e35 → (mr_ST_addFixedUnits_35) e35 = some out → ∀ (ls : Array Slot) (H : Heap) (locs : List Loc), lv_has ls 4 [(0, .ref (ad 3)), (1, .ref (ad 5)), (2, .int x35.1)] → fw_H D vwCl A s.heap (wC ad cI cL kk kn le ff fo x35.2.1 fx gv pg cu co sg ru nu tg x35.2.2.1 x35.2.2.2.1 x35.2.2.2.2) H locs → W p l e R s m args below meth c H locs 0 0 Q (F0 m 35 ls []) := by
      intro n35
      induction n35 with
      | zero => intro x35 e35 h1; exact absurd h1 lp_0
      | succ n35 ih35 =>
        intro x35 e35 h1 hr35 ls H locs hl hw
        rw [lp_s] at h1
        refine ob h1 (fun r35 h hk35 => ?_)
        unfold mb_ST_addFixedUnits_35 at h
        refine lv_iload_n hx hb d_ST_addFixedUnits_35 rfl (lv_at hl 2 rfl) ?_
        refine lv_aload_n hx hb d_ST_addFixedUnits_36 rfl (lv_at hl 0 rfl) ?_
        refine va_get (ci := 3) (v := .int (25 : Int32)) (C := R_ST) (T := F_ST) (N := 6) hx hb hg in_ST hown hK hw.1 3 rfl rfl 1 (by decide) (hg _ q_45) (u_same (hg _ q_46)) rfl d_ST_addFixedUnits_37 ?_
        refine lv_icmp_ge (tgt := 82) hx hb d_ST_addFixedUnits_40 (by decide) (fun hc => ?_) (fun hc => ?_)
        · have h := oi h hc
          have q := Option.some.inj h
          subst q
          have q := Option.some.inj hk35
          subst q
          exact X35 (x35.1, x35.2.1, x35.2.2.1, x35.2.2.2.1, x35.2.2.2.2) hr35 _ _ _ (lv_sub hl [] rfl) hw
        · have h := oe h hc
          refine lv_iload_n hx hb d_ST_addFixedUnits_43 rfl (lv_at hl 2 rfl) ?_
          refine lv_iconst (v := 1) hx hb d_ST_addFixedUnits_44 (by decide) ?_
          refine lv_iadd hx hb d_ST_addFixedUnits_45 ?_
          refine lv_istore_n (lv' := [(3, .int (x35.1 + (1 : Int32))), (0, .ref (ad 3)), (1, .ref (ad 5)), (2, .int x35.1)]) hx hb d_ST_addFixedUnits_46 rfl hl (by decide) rfl (fun ls hl => ?_)
          have X47 : ∀ (y47 : Int32 × Int32 × (Nat → Int64) × (Nat → Int32) × (Nat → Int64)), mr_ST_addFixedUnits_47 x35 y47 = some r35 → ∀ (ls : Array Slot) (H : Heap) (locs : List Loc), lv_has ls 4 [(0, .ref (ad 3)), (1, .ref (ad 5)), (2, .int x35.1)] → fw_H D vwCl A s.heap (wC ad cI cL kk kn le ff fo y47.2.1 fx gv pg cu co sg ru nu tg y47.2.2.1 y47.2.2.2.1 y47.2.2.2.2) H locs → W p l e R s m args below meth c H locs 0 0 Q (F0 m 76 ls []) := by
            intro y47 h ls H locs hl hw
            unfold mr_ST_addFixedUnits_47 at h
            refine lv_iinc (k := 2) (v := x35.1 + 1) (lv' := [(2, .int (x35.1 + 1)), (0, .ref (ad 3)), (1, .ref (ad 5))]) hx hb d_ST_addFixedUnits_76 hl rfl (by rw [lit1]) (by decide) rfl (fun ls hl => ?_)
            refine lv_goto (tgt := 35) hx hb d_ST_addFixedUnits_79 (by decide) ?_
            have q := Option.some.inj h
            subst q
            exact ih35 (x35.1 + 1, y47.2.1, y47.2.2.1, y47.2.2.2.1, y47.2.2.2.2) e35 hk35 hr35 _ _ _ (lv_sub hl [1, 2, 0] rfl) hw
          have L47 : ∀ (n47 : Nat) (x47 : Int32 × Int32 × (Nat → Int64) × (Nat → Int32) × (Nat → Int64)) (e47 : Int32 × Int32 × (Nat → Int64) × (Nat → Int32) × (Nat → Int64)), lp (mb_ST_addFixedUnits_47 N x35) n47 x47 = some e47 → (mr_ST_addFixedUnits_47 x35) e47 = some r35 → ∀ (ls : Array Slot) (H : Heap) (locs : List Loc), lv_has ls 4 [(0, .ref (ad 3)), (1, .ref (ad 5)), (2, .int x35.1), (3, .int x47.1)] → fw_H D vwCl A s.heap (wC ad cI cL kk kn le ff fo x47.2.1 fx gv pg cu co sg ru nu tg x47.2.2.1 x47.2.2.2.1 x47.2.2.2.2) H locs → W p l e R s m args below meth c H locs 0 0 Q (F0 m 47 ls []) := by
            intro n47
            induction n47 with
            | zero => intro x47 e47 h1; exact absurd h1 lp_0
            | succ n47 ih47 =>
              intro x47 e47 h1 hr47 ls H locs hl hw
              rw [lp_s] at h1
              refine ob h1 (fun r47 h hk47 => ?_)
              unfold mb_ST_addFixedUnits_47 at h
              refine lv_iload_n hx hb d_ST_addFixedUnits_47 rfl (lv_at hl 3 rfl) ?_
              refine lv_aload_n hx hb d_ST_addFixedUnits_48 rfl (lv_at hl 0 rfl) ?_
              refine va_get (ci := 3) (v := .int (25 : Int32)) (C := R_ST) (T := F_ST) (N := 6) hx hb hg in_ST hown hK hw.1 3 rfl rfl 1 (by decide) (hg _ q_45) (u_same (hg _ q_46)) rfl d_ST_addFixedUnits_49 ?_
              refine lv_icmp_ge (tgt := 76) hx hb d_ST_addFixedUnits_52 (by decide) (fun hc => ?_) (fun hc => ?_)
              · have h := oi h hc
                have q := Option.some.inj h
                subst q
                have q := Option.some.inj hk47
                subst q
                exact X47 (x47.1, x47.2.1, x47.2.2.1, x47.2.2.2.1, x47.2.2.2.2) hr47 _ _ _ (lv_sub hl [0, 1, 2] rfl) hw
              · have h := oe h hc
                refine lv_iload_n hx hb d_ST_addFixedUnits_55 rfl (lv_at hl 2 rfl) ?_
                refine lv_iload_n hx hb d_ST_addFixedUnits_56 rfl (lv_at hl 3 rfl) ?_
                refine ob h (fun r57 h57 h => ?_)
                refine fw_callS (As := [.int x35.1, .int x47.1]) (rest := []) (st1 := [.int r57]) S (ct_ST_touch l D (tyA cI cL) (wC ad cI cL kk kn le ff fo x47.2.1 fx gv pg cu co sg ru nu tg x47.2.2.1 x47.2.2.2.1 x47.2.2.2.2) N x35.1 x47.1 r57 h57) q_276 q_277 q_5 k_ST_touch hd_ST_touch ⟨by rw [hR]; decide, by rw [hR]; decide⟩ rfl rfl hX hw hA hl.1 rfl rfl (Nat.le_of_ble_eq_true rfl) d_ST_addFixedUnits_57 ⟨Nat.zero_le _, Nat.zero_le _⟩ rfl (fun H locs hw => ?_)
                refine lv_if_eq (tgt := 70) hx hb d_ST_addFixedUnits_60 (by decide) (fun hc => ?_) (fun hc => ?_)
                · have h := oi h hc
                  refine lv_iinc (k := 3) (v := x47.1 + 1) (lv' := [(3, .int (x47.1 + 1)), (0, .ref (ad 3)), (1, .ref (ad 5)), (2, .int x35.1)]) hx hb d_ST_addFixedUnits_70 hl rfl (by rw [lit1]) (by decide) rfl (fun ls hl => ?_)
                  refine lv_goto (tgt := 47) hx hb d_ST_addFixedUnits_73 (by decide) ?_
                  have q := Option.some.inj h
                  subst q
                  exact ih47 (x47.1 + 1, x47.2.1, x47.2.2.1, x47.2.2.2.1, x47.2.2.2.2) e47 hk47 hr47 _ _ _ (lv_sub hl [1, 2, 3, 0] rfl) hw
                · have h := oe h hc
                  refine lv_aload_n hx hb d_ST_addFixedUnits_63 rfl (lv_at hl 0 rfl) ?_
                  refine lv_aload_n hx hb d_ST_addFixedUnits_64 rfl (lv_at hl 1 rfl) ?_
                  refine lv_iload_n hx hb d_ST_addFixedUnits_65 rfl (lv_at hl 2 rfl) ?_
                  refine lv_iload_n hx hb d_ST_addFixedUnits_66 rfl (lv_at hl 3 rfl) ?_
                  refine ob h (fun r67 h67 h => ?_)
                  refine fw_callV (As := [.ref (ad 5), .int x35.1, .int x47.1]) (rest := []) (st1 := []) S (ct_ST_addNotBoth l D ad cI cL N kk kn le ff fo x47.2.1 fx gv pg cu co sg ru nu tg x47.2.2.1 x47.2.2.2.1 x47.2.2.2.2 x35.1 x47.1 r67 h67) q_282 q_284 s_6 q_5 k_ST_addNotBoth hd_ST_addNotBoth ⟨by rw [hR]; decide, by rw [hR]; decide⟩ rfl rfl hX hw hA 3 (ci := 3) rfl rfl hl.1 rfl rfl (Nat.le_of_ble_eq_true rfl) d_ST_addFixedUnits_67 ⟨Nat.zero_le _, Nat.zero_le _⟩ rfl (fun H locs hw => ?_)
                  refine lv_iinc (k := 3) (v := x47.1 + 1) (lv' := [(3, .int (x47.1 + 1)), (0, .ref (ad 3)), (1, .ref (ad 5)), (2, .int x35.1)]) hx hb d_ST_addFixedUnits_70 hl rfl (by rw [lit1]) (by decide) rfl (fun ls hl => ?_)
                  refine lv_goto (tgt := 47) hx hb d_ST_addFixedUnits_73 (by decide) ?_
                  have q := Option.some.inj h
                  subst q
                  exact ih47 (x47.1 + 1, r67.1, r67.2.1, r67.2.2.1, r67.2.2.2) e47 hk47 hr47 _ _ _ (lv_sub hl [1, 2, 3, 0] rfl) hw
          refine ob h (fun e47 h1 h2 => ?_)
          exact L47 N (x35.1 + (1 : Int32), x35.2.1, x35.2.2.1, x35.2.2.2.1, x35.2.2.2.2) e47 h1 h2 _ _ _ (lv_sub hl [1, 2, 3, 0] rfl) hw
    refine ob h (fun e35 h1 h2 => ?_)
    exact L35 N ((0 : Int32), y2.2.1, y2.2.2.1, y2.2.2.2.1, y2.2.2.2.2) e35 h1 h2 _ _ _ (lv_sub hl [1, 2, 0] rfl) hw
  have L2 : ∀ (n2 : Nat) (x2 : Int32 × Int32 × (Nat → Int64) × (Nat → Int32) × (Nat → Int64)) (e2 : Int32 × Int32 × (Nat → Int64) × (Nat → Int32) × (Nat → Int64)), lp (mb_ST_addFixedUnits_2 N) n2 x2 = some e2 → (mr_ST_addFixedUnits_2 N) e2 = some out → ∀ (ls : Array Slot) (H : Heap) (locs : List Loc), lv_has ls 4 [(0, .ref (ad 3)), (1, .ref (ad 5)), (2, .int x2.1)] → fw_H D vwCl A s.heap (wC ad cI cL kk kn le ff fo x2.2.1 fx gv pg cu co sg ru nu tg x2.2.2.1 x2.2.2.2.1 x2.2.2.2.2) H locs → W p l e R s m args below meth c H locs 0 0 Q (F0 m 2 ls []) := by
    intro n2
    induction n2 with
    | zero => intro x2 e2 h1; exact absurd h1 lp_0
    | succ n2 ih2 =>
      intro x2 e2 h1 hr2 ls H locs hl hw
      rw [lp_s] at h1
      refine ob h1 (fun r2 h hk2 => ?_)
      unfold mb_ST_addFixedUnits_2 at h
      refine lv_iload_n hx hb d_ST_addFixedUnits_2 rfl (lv_at hl 2 rfl) ?_
      refine lv_iconst (v := 5) hx hb d_ST_addFixedUnits_3 (by decide) ?_
      refine lv_icmp_ge (tgt := 33) hx hb d_ST_addFixedUnits_4 (by decide) (fun hc => ?_) (fun hc => ?_)
      · have h := oi h hc
        have q := Option.some.inj h
        subst q
        have q := Option.some.inj hk2
        subst q
        exact X2 (x2.1, x2.2.1, x2.2.2.1, x2.2.2.2.1, x2.2.2.2.2) hr2 _ _ _ (lv_sub hl [0, 1] rfl) hw
      · have h := oe h hc
        refine lv_aload_n hx hb d_ST_addFixedUnits_7 rfl (lv_at hl 0 rfl) ?_
        refine lv_aload_n hx hb d_ST_addFixedUnits_8 rfl (lv_at hl 1 rfl) ?_
        refine lv_aload_n hx hb d_ST_addFixedUnits_9 rfl (lv_at hl 0 rfl) ?_
        refine lv_iload_n hx hb d_ST_addFixedUnits_10 rfl (lv_at hl 2 rfl) ?_
        refine ob h (fun r11 h11 h => ?_)
        refine fw_callU (As := [.int x2.1]) (rest := [.ref (ad 5), .ref (ad 3)]) (st1 := [.int r11, .ref (ad 5), .ref (ad 3)]) S (ct_KD_rowCells l D ad cI cL N 3 K3_3 kk kn le ff fo x2.2.1 fx gv pg cu co sg ru nu tg x2.2.2.1 x2.2.2.2.1 x2.2.2.2.2 x2.1 r11 h11) q_254 q_255 q_256 q_193 q_2 k_KD_rowCells hd_KD_rowCells rfl ⟨by rw [hR]; decide, by rw [hR]; decide⟩ rfl rfl hX hw hA 3 (ci := 3) rfl rfl hl.1 rfl rfl (Nat.le_of_ble_eq_true rfl) d_ST_addFixedUnits_11 ⟨Nat.zero_le _, Nat.zero_le _⟩ rfl (fun H locs hw => ?_)
        refine ob h (fun r14 h14 h => ?_)
        refine fw_callV (As := [.ref (ad 5), .int r11]) (rest := []) (st1 := []) S (ct_ST_addJustOne l D ad cI cL N kk kn le ff fo x2.2.1 fx gv pg cu co sg ru nu tg x2.2.2.1 x2.2.2.2.1 x2.2.2.2.2 r11 r14 h14) q_257 q_259 s_4 q_5 k_ST_addJustOne hd_ST_addJustOne ⟨by rw [hR]; decide, by rw [hR]; decide⟩ rfl rfl hX hw hA 3 (ci := 3) rfl rfl hl.1 rfl rfl (Nat.le_of_ble_eq_true rfl) d_ST_addFixedUnits_14 ⟨Nat.zero_le _, Nat.zero_le _⟩ rfl (fun H locs hw => ?_)
        refine lv_aload_n hx hb d_ST_addFixedUnits_17 rfl (lv_at hl 0 rfl) ?_
        refine lv_aload_n hx hb d_ST_addFixedUnits_18 rfl (lv_at hl 1 rfl) ?_
        refine lv_aload_n hx hb d_ST_addFixedUnits_19 rfl (lv_at hl 0 rfl) ?_
        refine lv_iload_n hx hb d_ST_addFixedUnits_20 rfl (lv_at hl 2 rfl) ?_
        refine ob h (fun r21 h21 h => ?_)
        refine fw_callU (As := [.int x2.1]) (rest := [.ref (ad 5), .ref (ad 3)]) (st1 := [.int r21, .ref (ad 5), .ref (ad 3)]) S (ct_KD_columnCells l D ad cI cL N 3 K3_3 kk kn le ff fo r14.1 fx gv pg cu co sg ru nu tg r14.2.1 r14.2.2.1 r14.2.2.2 x2.1 r21 h21) q_273 q_274 q_275 q_249 q_2 k_KD_columnCells hd_KD_columnCells rfl ⟨by rw [hR]; decide, by rw [hR]; decide⟩ rfl rfl hX hw hA 3 (ci := 3) rfl rfl hl.1 rfl rfl (Nat.le_of_ble_eq_true rfl) d_ST_addFixedUnits_21 ⟨Nat.zero_le _, Nat.zero_le _⟩ rfl (fun H locs hw => ?_)
        refine ob h (fun r24 h24 h => ?_)
        refine fw_callV (As := [.ref (ad 5), .int r21]) (rest := []) (st1 := []) S (ct_ST_addJustOne l D ad cI cL N kk kn le ff fo r14.1 fx gv pg cu co sg ru nu tg r14.2.1 r14.2.2.1 r14.2.2.2 r21 r24 h24) q_257 q_259 s_4 q_5 k_ST_addJustOne hd_ST_addJustOne ⟨by rw [hR]; decide, by rw [hR]; decide⟩ rfl rfl hX hw hA 3 (ci := 3) rfl rfl hl.1 rfl rfl (Nat.le_of_ble_eq_true rfl) d_ST_addFixedUnits_24 ⟨Nat.zero_le _, Nat.zero_le _⟩ rfl (fun H locs hw => ?_)
        refine lv_iinc (k := 2) (v := x2.1 + 1) (lv' := [(2, .int (x2.1 + 1)), (0, .ref (ad 3)), (1, .ref (ad 5))]) hx hb d_ST_addFixedUnits_27 hl rfl (by rw [lit1]) (by decide) rfl (fun ls hl => ?_)
        refine lv_goto (tgt := 2) hx hb d_ST_addFixedUnits_30 (by decide) ?_
        have q := Option.some.inj h
        subst q
        exact ih2 (x2.1 + 1, r24.1, r24.2.1, r24.2.2.1, r24.2.2.2) e2 hk2 hr2 _ _ _ (lv_sub hl [1, 2, 0] rfl) hw
  refine ob h (fun e2 h1 h2 => ?_)
  exact L2 N ((0 : Int32), ct, sc, sr, wy) e2 h1 h2 _ _ _ (lv_sub hl [1, 2, 0] rfl) hw
set_option maxHeartbeats 4000000 in
set_option maxRecDepth 100000 in
theorem ct_ST_addOtherUnits (l : Launch) (D : va_G) (ad : Nat → Nat) (cI cL : ClassId) (N : Nat) (kk : Nat) (kn : Int32) (le : Int64) (ff : Int64) (fo : Int32) (ct : Int32) (fx : Int32) (gv : Nat → Int32) (pg : Nat → Int32) (cu : Nat → Int32) (co : Nat → Int32) (sg : Nat → Int32) (ru : Nat → Int32) (nu : Nat → Int32) (tg : Nat → Int32) (sc : Nat → Int64) (sr : Nat → Int32) (wy : Nat → Int64)  (out : Int32 × (Nat → Int64) × (Nat → Int32) × (Nat → Int64)) (h : mi_ST_addOtherUnits N ct tg sc sr wy = some out) : fw_C l y_ST_addOtherUnits (.code y_ST_addOtherUnits b_ST_addOtherUnits 4 (none) :: Gw) (fr 3 70) D vwCl (tyA cI cL) [.ref (ad 3), .ref (ad 5)] (wC ad cI cL kk kn le ff fo ct fx gv pg cu co sg ru nu tg sc sr wy) none (wC ad cI cL kk kn le ff fo out.1 fx gv pg cu co sg ru nu tg out.2.1 out.2.2.1 out.2.2.2) := by
  refine fw_of (by decide) (Nat.le_of_ble_eq_true rfl) ?_
  intro p e s m args below meth c ls A R Q hR hQ S hr hlk hX hA hl hw
  have hK := hX.1
  have hx := S.1
  have hb := S.2.1
  have hown := S.2.2.2.1
  have hg := S.2.2.2.2
  have hl : lv_has ls 4 [(0, .ref (ad 3)), (1, .ref (ad 5))] := hl
  unfold mi_ST_addOtherUnits at h
  refine lv_iconst (v := 0) hx hb d_ST_addOtherUnits_0 (by decide) ?_
  refine lv_istore_n (lv' := [(2, .int (0 : Int32)), (0, .ref (ad 3)), (1, .ref (ad 5))]) hx hb d_ST_addOtherUnits_1 rfl hl (by decide) rfl (fun ls hl => ?_)
  have X2 : ∀ (y2 : Int32 × Int32 × (Nat → Int64) × (Nat → Int32) × (Nat → Int64)), mr_ST_addOtherUnits_2 y2 = some out → ∀ (ls : Array Slot) (H : Heap) (locs : List Loc), lv_has ls 4 [] → fw_H D vwCl A s.heap (wC ad cI cL kk kn le ff fo y2.2.1 fx gv pg cu co sg ru nu tg y2.2.2.1 y2.2.2.2.1 y2.2.2.2.2) H locs → W p l e R s m args below meth c H locs 0 0 Q (F0 m 29 ls []) := by
    intro y2 h ls H locs hl hw
    unfold mr_ST_addOtherUnits_2 at h
    have q := Option.some.inj h
    subst q
    exact fw_vret hQ S hr hlk hX hw d_ST_addOtherUnits_29
  have L2 : ∀ (n2 : Nat) (x2 : Int32 × Int32 × (Nat → Int64) × (Nat → Int32) × (Nat → Int64)) (e2 : Int32 × Int32 × (Nat → Int64) × (Nat → Int32) × (Nat → Int64)), lp (mb_ST_addOtherUnits_2 N tg) n2 x2 = some e2 → (mr_ST_addOtherUnits_2) e2 = some out → ∀ (ls : Array Slot) (H : Heap) (locs : List Loc), lv_has ls 4 [(0, .ref (ad 3)), (1, .ref (ad 5)), (2, .int x2.1)] → fw_H D vwCl A s.heap (wC ad cI cL kk kn le ff fo x2.2.1 fx gv pg cu co sg ru nu tg x2.2.2.1 x2.2.2.2.1 x2.2.2.2.2) H locs → W p l e R s m args below meth c H locs 0 0 Q (F0 m 2 ls []) := by
    intro n2
    induction n2 with
    | zero => intro x2 e2 h1; exact absurd h1 lp_0
    | succ n2 ih2 =>
      intro x2 e2 h1 hr2 ls H locs hl hw
      rw [lp_s] at h1
      refine ob h1 (fun r2 h hk2 => ?_)
      unfold mb_ST_addOtherUnits_2 at h
      refine lv_iload_n hx hb d_ST_addOtherUnits_2 rfl (lv_at hl 2 rfl) ?_
      refine lv_iconst (v := 5) hx hb d_ST_addOtherUnits_3 (by decide) ?_
      refine lv_icmp_ge (tgt := 29) hx hb d_ST_addOtherUnits_4 (by decide) (fun hc => ?_) (fun hc => ?_)
      · have h := oi h hc
        have q := Option.some.inj h
        subst q
        have q := Option.some.inj hk2
        subst q
        exact X2 (x2.1, x2.2.1, x2.2.2.1, x2.2.2.2.1, x2.2.2.2.2) hr2 _ _ _ (lv_sub hl [] rfl) hw
      · have h := oe h hc
        refine lv_aload_n hx hb d_ST_addOtherUnits_7 rfl (lv_at hl 0 rfl) ?_
        refine lv_iload_n hx hb d_ST_addOtherUnits_8 rfl (lv_at hl 2 rfl) ?_
        refine ob h (fun r9 h9 h => ?_)
        refine fw_callU (As := [.int x2.1]) (rest := []) (st1 := [.int r9]) S (ct_KD_membersOf_ST l D ad cI cL N kk kn le ff fo x2.2.1 fx gv pg cu co sg ru nu tg x2.2.2.1 x2.2.2.2.1 x2.2.2.2.2 x2.1 r9 h9) q_338 q_339 q_340 q_333 q_2 k_KD_membersOf hd_KD_membersOf rfl ⟨by rw [hR]; decide, by rw [hR]; decide⟩ rfl rfl hX hw hA 3 (ci := 3) rfl rfl hl.1 rfl rfl (Nat.le_of_ble_eq_true rfl) d_ST_addOtherUnits_9 ⟨Nat.zero_le _, Nat.zero_le _⟩ rfl (fun H locs hw => ?_)
        refine lv_istore_n (lv' := [(3, .int r9), (0, .ref (ad 3)), (1, .ref (ad 5)), (2, .int x2.1)]) hx hb d_ST_addOtherUnits_12 rfl hl (by decide) rfl (fun ls hl => ?_)
        refine lv_iload_n hx hb d_ST_addOtherUnits_13 rfl (lv_at hl 0 rfl) ?_
        refine lv_if_eq (tgt := 23) hx hb d_ST_addOtherUnits_14 (by decide) (fun hc => ?_) (fun hc => ?_)
        · have h := oi h hc
          refine lv_iinc (k := 3) (v := x2.1 + 1) (lv' := [(2, .int (x2.1 + 1)), (3, .int r9), (0, .ref (ad 3)), (1, .ref (ad 5))]) hx hb d_ST_addOtherUnits_23 hl rfl (by rw [lit1]) (by decide) rfl (fun ls hl => ?_)
          refine lv_goto (tgt := 2) hx hb d_ST_addOtherUnits_26 (by decide) ?_
          have q := Option.some.inj h
          subst q
          exact ih2 (x2.1 + 1, x2.2.1, x2.2.2.1, x2.2.2.2.1, x2.2.2.2.2) e2 hk2 hr2 _ _ _ (lv_sub hl [2, 3, 0] rfl) hw
        · have h := oe h hc
          refine lv_aload_n hx hb d_ST_addOtherUnits_17 rfl (lv_at hl 1 rfl) ?_
          refine lv_aload_n hx hb d_ST_addOtherUnits_18 rfl (lv_at hl 2 rfl) ?_
          refine lv_iload_n hx hb d_ST_addOtherUnits_19 rfl (lv_at hl 0 rfl) ?_
          refine ob h (fun r20 h20 h => ?_)
          refine fw_callV (As := [.ref (ad 5), .int r9]) (rest := []) (st1 := []) S (ct_ST_addJustOne l D ad cI cL N kk kn le ff fo x2.2.1 fx gv pg cu co sg ru nu tg x2.2.2.1 x2.2.2.2.1 x2.2.2.2.2 r9 r20 h20) q_257 q_259 s_4 q_5 k_ST_addJustOne hd_ST_addJustOne ⟨by rw [hR]; decide, by rw [hR]; decide⟩ rfl rfl hX hw hA 3 (ci := 3) rfl rfl hl.1 rfl rfl (Nat.le_of_ble_eq_true rfl) d_ST_addOtherUnits_20 ⟨Nat.zero_le _, Nat.zero_le _⟩ rfl (fun H locs hw => ?_)
          refine lv_iinc (k := 3) (v := x2.1 + 1) (lv' := [(2, .int (x2.1 + 1)), (3, .int r9), (0, .ref (ad 3)), (1, .ref (ad 5))]) hx hb d_ST_addOtherUnits_23 hl rfl (by rw [lit1]) (by decide) rfl (fun ls hl => ?_)
          refine lv_goto (tgt := 2) hx hb d_ST_addOtherUnits_26 (by decide) ?_
          have q := Option.some.inj h
          subst q
          exact ih2 (x2.1 + 1, r20.1, r20.2.1, r20.2.2.1, r20.2.2.2) e2 hk2 hr2 _ _ _ (lv_sub hl [2, 3, 0] rfl) hw
  refine ob h (fun e2 h1 h2 => ?_)
  exact L2 N ((0 : Int32), ct, sc, sr, wy) e2 h1 h2 _ _ _ (lv_sub hl [1, 2, 0] rfl) hw
