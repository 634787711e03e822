theorem d_MO_countAll_0 : decode b_MO_countAll 0 = .ok (.iconst 0, 1) := by decide +kernel
theorem d_MO_countAll_1 : decode b_MO_countAll 1 = .ok (.istore_n 1, 1) := by decide +kernel
theorem d_MO_countAll_2 : decode b_MO_countAll 2 = .ok (.iconst 0, 1) := by decide +kernel
theorem d_MO_countAll_3 : decode b_MO_countAll 3 = .ok (.istore_n 2, 1) := by decide +kernel
theorem d_MO_countAll_4 : decode b_MO_countAll 4 = .ok (.iload_n 2, 1) := by decide +kernel
theorem d_MO_countAll_5 : decode b_MO_countAll 5 = .ok (.aload_n 0, 1) := by decide +kernel
theorem d_MO_countAll_6 : decode b_MO_countAll 6 = .ok (.getfield 7, 3) := by decide +kernel
theorem d_MO_countAll_9 : decode b_MO_countAll 9 = .ok (.if_icmp .ge 32, 3) := by decide +kernel
theorem d_MO_countAll_12 : decode b_MO_countAll 12 = .ok (.iload_n 1, 1) := by decide +kernel
theorem d_MO_countAll_13 : decode b_MO_countAll 13 = .ok (.aload_n 0, 1) := by decide +kernel
theorem d_MO_countAll_14 : decode b_MO_countAll 14 = .ok (.getfield 32, 3) := by decide +kernel
theorem d_MO_countAll_17 : decode b_MO_countAll 17 = .ok (.iload_n 2, 1) := by decide +kernel
theorem d_MO_countAll_18 : decode b_MO_countAll 18 = .ok (.iaload, 1) := by decide +kernel
theorem d_MO_countAll_19 : decode b_MO_countAll 19 = .ok (.iconst 1, 1) := by decide +kernel
theorem d_MO_countAll_20 : decode b_MO_countAll 20 = .ok (.ishr, 1) := by decide +kernel
theorem d_MO_countAll_21 : decode b_MO_countAll 21 = .ok (.invokestatic 109, 3) := by decide +kernel
theorem d_MO_countAll_24 : decode b_MO_countAll 24 = .ok (.aload_n 0, 1) := by decide +kernel
theorem d_MO_countAll_25 : decode b_MO_countAll 25 = .ok (.getfield 32, 3) := by decide +kernel
theorem d_MO_countAll_28 : decode b_MO_countAll 28 = .ok (.iload_n 2, 1) := by decide +kernel
theorem d_MO_countAll_29 : decode b_MO_countAll 29 = .ok (.iaload, 1) := by decide +kernel
theorem d_MO_countAll_30 : decode b_MO_countAll 30 = .ok (.iconst 1, 1) := by decide +kernel
theorem d_MO_countAll_31 : decode b_MO_countAll 31 = .ok (.iand, 1) := by decide +kernel
theorem d_MO_countAll_32 : decode b_MO_countAll 32 = .ok (.iadd, 1) := by decide +kernel
theorem d_MO_countAll_33 : decode b_MO_countAll 33 = .ok (.iadd, 1) := by decide +kernel
theorem d_MO_countAll_34 : decode b_MO_countAll 34 = .ok (.istore_n 1, 1) := by decide +kernel
theorem d_MO_countAll_35 : decode b_MO_countAll 35 = .ok (.iinc 2 1, 3) := by decide +kernel
theorem d_MO_countAll_38 : decode b_MO_countAll 38 = .ok (.goto (-34), 3) := by decide +kernel
theorem d_MO_countAll_41 : decode b_MO_countAll 41 = .ok (.iload_n 1, 1) := by decide +kernel
theorem d_MO_countAll_42 : decode b_MO_countAll 42 = .ok (.ireturn, 1) := by decide +kernel
theorem d_MO_fresh_0 : decode b_MO_fresh 0 = .ok (.aload_n 0, 1) := by decide +kernel
theorem d_MO_fresh_1 : decode b_MO_fresh 1 = .ok (.iconst 0, 1) := by decide +kernel
theorem d_MO_fresh_2 : decode b_MO_fresh 2 = .ok (.putfield 83, 3) := by decide +kernel
theorem d_MO_fresh_5 : decode b_MO_fresh 5 = .ok (.aload_n 0, 1) := by decide +kernel
theorem d_MO_fresh_6 : decode b_MO_fresh 6 = .ok (.invokevirtual 89, 3) := by decide +kernel
theorem d_MO_fresh_9 : decode b_MO_fresh 9 = .ok (.aload_n 0, 1) := by decide +kernel
theorem d_MO_fresh_10 : decode b_MO_fresh 10 = .ok (.invokevirtual 195, 3) := by decide +kernel
theorem d_MO_fresh_13 : decode b_MO_fresh 13 = .ok (.ireturn, 1) := by decide +kernel
theorem d_MO_reason_0 : decode b_MO_reason 0 = .ok (.aload_n 0, 1) := by decide +kernel
theorem d_MO_reason_1 : decode b_MO_reason 1 = .ok (.iload_n 1, 1) := by decide +kernel
theorem d_MO_reason_2 : decode b_MO_reason 2 = .ok (.iconst 1, 1) := by decide +kernel
theorem d_MO_reason_3 : decode b_MO_reason 3 = .ok (.if_icmp .lt 8, 3) := by decide +kernel
theorem d_MO_reason_6 : decode b_MO_reason 6 = .ok (.iload_n 1, 1) := by decide +kernel
theorem d_MO_reason_7 : decode b_MO_reason 7 = .ok (.iconst 2, 1) := by decide +kernel
theorem d_MO_reason_8 : decode b_MO_reason 8 = .ok (.if_icmp .le 7, 3) := by decide +kernel
theorem d_MO_reason_11 : decode b_MO_reason 11 = .ok (.iconst 1, 1) := by decide +kernel
theorem d_MO_reason_12 : decode b_MO_reason 12 = .ok (.goto 4, 3) := by decide +kernel
theorem d_MO_reason_15 : decode b_MO_reason 15 = .ok (.iconst 0, 1) := by decide +kernel
theorem d_MO_reason_16 : decode b_MO_reason 16 = .ok (.putfield 83, 3) := by decide +kernel
theorem d_MO_reason_19 : decode b_MO_reason 19 = .ok (.aload_n 0, 1) := by decide +kernel
theorem d_MO_reason_20 : decode b_MO_reason 20 = .ok (.getfield 83, 3) := by decide +kernel
theorem d_MO_reason_23 : decode b_MO_reason 23 = .ok (.ifCond .eq 5, 3) := by decide +kernel
theorem d_MO_reason_26 : decode b_MO_reason 26 = .ok (.iconst 0, 1) := by decide +kernel
theorem d_MO_reason_27 : decode b_MO_reason 27 = .ok (.ireturn, 1) := by decide +kernel
theorem d_MO_reason_28 : decode b_MO_reason 28 = .ok (.iconst 0, 1) := by decide +kernel
theorem d_MO_reason_29 : decode b_MO_reason 29 = .ok (.istore_n 2, 1) := by decide +kernel
theorem d_MO_reason_30 : decode b_MO_reason 30 = .ok (.iload_n 2, 1) := by decide +kernel
theorem d_MO_reason_31 : decode b_MO_reason 31 = .ok (.aload_n 0, 1) := by decide +kernel
theorem d_MO_reason_32 : decode b_MO_reason 32 = .ok (.getfield 7, 3) := by decide +kernel
theorem d_MO_reason_35 : decode b_MO_reason 35 = .ok (.if_icmp .ge 21, 3) := by decide +kernel
theorem d_MO_reason_38 : decode b_MO_reason 38 = .ok (.aload_n 0, 1) := by decide +kernel
theorem d_MO_reason_39 : decode b_MO_reason 39 = .ok (.getfield 35, 3) := by decide +kernel
theorem d_MO_reason_42 : decode b_MO_reason 42 = .ok (.iload_n 2, 1) := by decide +kernel
theorem d_MO_reason_43 : decode b_MO_reason 43 = .ok (.aload_n 0, 1) := by decide +kernel
theorem d_MO_reason_44 : decode b_MO_reason 44 = .ok (.getfield 32, 3) := by decide +kernel
theorem d_MO_reason_47 : decode b_MO_reason 47 = .ok (.iload_n 2, 1) := by decide +kernel
theorem d_MO_reason_48 : decode b_MO_reason 48 = .ok (.iaload, 1) := by decide +kernel
theorem d_MO_reason_49 : decode b_MO_reason 49 = .ok (.iastore, 1) := by decide +kernel
theorem d_MO_reason_50 : decode b_MO_reason 50 = .ok (.iinc 2 1, 3) := by decide +kernel
theorem d_MO_reason_53 : decode b_MO_reason 53 = .ok (.goto (-23), 3) := by decide +kernel
theorem d_MO_reason_56 : decode b_MO_reason 56 = .ok (.iload_n 1, 1) := by decide +kernel
theorem d_MO_reason_57 : decode b_MO_reason 57 = .ok (.iconst 1, 1) := by decide +kernel
theorem d_MO_reason_58 : decode b_MO_reason 58 = .ok (.if_icmp .ne 10, 3) := by decide +kernel
theorem d_MO_reason_61 : decode b_MO_reason 61 = .ok (.aload_n 0, 1) := by decide +kernel
theorem d_MO_reason_62 : decode b_MO_reason 62 = .ok (.invokevirtual 186, 3) := by decide +kernel
theorem d_MO_reason_65 : decode b_MO_reason 65 = .ok (.goto 7, 3) := by decide +kernel
theorem d_MO_reason_68 : decode b_MO_reason 68 = .ok (.aload_n 0, 1) := by decide +kernel
theorem d_MO_reason_69 : decode b_MO_reason 69 = .ok (.invokevirtual 198, 3) := by decide +kernel
theorem d_MO_reason_72 : decode b_MO_reason 72 = .ok (.iconst 0, 1) := by decide +kernel
theorem d_MO_reason_73 : decode b_MO_reason 73 = .ok (.istore_n 2, 1) := by decide +kernel
theorem d_MO_reason_74 : decode b_MO_reason 74 = .ok (.iload_n 2, 1) := by decide +kernel
theorem d_MO_reason_75 : decode b_MO_reason 75 = .ok (.aload_n 0, 1) := by decide +kernel
theorem d_MO_reason_76 : decode b_MO_reason 76 = .ok (.getfield 7, 3) := by decide +kernel
theorem d_MO_reason_79 : decode b_MO_reason 79 = .ok (.if_icmp .ge 21, 3) := by decide +kernel
theorem d_MO_reason_82 : decode b_MO_reason 82 = .ok (.aload_n 0, 1) := by decide +kernel
theorem d_MO_reason_83 : decode b_MO_reason 83 = .ok (.getfield 32, 3) := by decide +kernel
theorem d_MO_reason_86 : decode b_MO_reason 86 = .ok (.iload_n 2, 1) := by decide +kernel
theorem d_MO_reason_87 : decode b_MO_reason 87 = .ok (.aload_n 0, 1) := by decide +kernel
theorem d_MO_reason_88 : decode b_MO_reason 88 = .ok (.getfield 35, 3) := by decide +kernel
theorem d_MO_reason_91 : decode b_MO_reason 91 = .ok (.iload_n 2, 1) := by decide +kernel
theorem d_MO_reason_92 : decode b_MO_reason 92 = .ok (.iaload, 1) := by decide +kernel
theorem d_MO_reason_93 : decode b_MO_reason 93 = .ok (.iastore, 1) := by decide +kernel
theorem d_MO_reason_94 : decode b_MO_reason 94 = .ok (.iinc 2 1, 3) := by decide +kernel
theorem d_MO_reason_97 : decode b_MO_reason 97 = .ok (.goto (-23), 3) := by decide +kernel
theorem d_MO_reason_100 : decode b_MO_reason 100 = .ok (.aload_n 0, 1) := by decide +kernel
theorem d_MO_reason_101 : decode b_MO_reason 101 = .ok (.invokevirtual 195, 3) := by decide +kernel
theorem d_MO_reason_104 : decode b_MO_reason 104 = .ok (.ireturn, 1) := by decide +kernel
theorem d_MO_candidates_0 : decode b_MO_candidates 0 = .ok (.aload_n 0, 1) := by decide +kernel
theorem d_MO_candidates_1 : decode b_MO_candidates 1 = .ok (.aload_n 0, 1) := by decide +kernel
theorem d_MO_candidates_2 : decode b_MO_candidates 2 = .ok (.iload_n 1, 1) := by decide +kernel
theorem d_MO_candidates_3 : decode b_MO_candidates 3 = .ok (.invokevirtual 100, 3) := by decide +kernel
theorem d_MO_candidates_6 : decode b_MO_candidates 6 = .ok (.ifCond .eq 7, 3) := by decide +kernel
theorem d_MO_candidates_9 : decode b_MO_candidates 9 = .ok (.iconst 1, 1) := by decide +kernel
theorem d_MO_candidates_10 : decode b_MO_candidates 10 = .ok (.goto 4, 3) := by decide +kernel
theorem d_MO_candidates_13 : decode b_MO_candidates 13 = .ok (.iconst 0, 1) := by decide +kernel
theorem d_MO_candidates_14 : decode b_MO_candidates 14 = .ok (.putfield 83, 3) := by decide +kernel
theorem d_MO_candidates_17 : decode b_MO_candidates 17 = .ok (.aload_n 0, 1) := by decide +kernel
theorem d_MO_candidates_18 : decode b_MO_candidates 18 = .ok (.getfield 83, 3) := by decide +kernel
theorem d_MO_candidates_21 : decode b_MO_candidates 21 = .ok (.ifCond .ne 12, 3) := by decide +kernel
theorem d_MO_candidates_24 : decode b_MO_candidates 24 = .ok (.aload_n 0, 1) := by decide +kernel
theorem d_MO_candidates_25 : decode b_MO_candidates 25 = .ok (.getfield 32, 3) := by decide +kernel
theorem d_MO_candidates_28 : decode b_MO_candidates 28 = .ok (.iload_n 1, 1) := by decide +kernel
theorem d_MO_candidates_29 : decode b_MO_candidates 29 = .ok (.iaload, 1) := by decide +kernel
theorem d_MO_candidates_30 : decode b_MO_candidates 30 = .ok (.goto 4, 3) := by decide +kernel
theorem d_MO_candidates_33 : decode b_MO_candidates 33 = .ok (.iconst 0, 1) := by decide +kernel
theorem d_MO_candidates_34 : decode b_MO_candidates 34 = .ok (.ireturn, 1) := by decide +kernel
theorem d_MO_firstLost_0 : decode b_MO_firstLost 0 = .ok (.iconst 0, 1) := by decide +kernel
theorem d_MO_firstLost_1 : decode b_MO_firstLost 1 = .ok (.istore_n 1, 1) := by decide +kernel
theorem d_MO_firstLost_2 : decode b_MO_firstLost 2 = .ok (.iload_n 1, 1) := by decide +kernel
theorem d_MO_firstLost_3 : decode b_MO_firstLost 3 = .ok (.aload_n 0, 1) := by decide +kernel
theorem d_MO_firstLost_4 : decode b_MO_firstLost 4 = .ok (.getfield 7, 3) := by decide +kernel
theorem d_MO_firstLost_7 : decode b_MO_firstLost 7 = .ok (.if_icmp .ge 43, 3) := by decide +kernel
theorem d_MO_firstLost_10 : decode b_MO_firstLost 10 = .ok (.iconst 0, 1) := by decide +kernel
theorem d_MO_firstLost_11 : decode b_MO_firstLost 11 = .ok (.istore_n 2, 1) := by decide +kernel
theorem d_MO_firstLost_12 : decode b_MO_firstLost 12 = .ok (.iload_n 2, 1) := by decide +kernel
theorem d_MO_firstLost_13 : decode b_MO_firstLost 13 = .ok (.iconst 5, 1) := by decide +kernel
theorem d_MO_firstLost_14 : decode b_MO_firstLost 14 = .ok (.if_icmp .ge 30, 3) := by decide +kernel
theorem d_MO_firstLost_17 : decode b_MO_firstLost 17 = .ok (.aload_n 0, 1) := by decide +kernel
theorem d_MO_firstLost_18 : decode b_MO_firstLost 18 = .ok (.getfield 38, 3) := by decide +kernel
theorem d_MO_firstLost_21 : decode b_MO_firstLost 21 = .ok (.iload_n 1, 1) := by decide +kernel
theorem d_MO_firstLost_22 : decode b_MO_firstLost 22 = .ok (.iaload, 1) := by decide +kernel
theorem d_MO_firstLost_23 : decode b_MO_firstLost 23 = .ok (.iload_n 2, 1) := by decide +kernel
theorem d_MO_firstLost_24 : decode b_MO_firstLost 24 = .ok (.ishr, 1) := by decide +kernel
theorem d_MO_firstLost_25 : decode b_MO_firstLost 25 = .ok (.iconst 1, 1) := by decide +kernel
theorem d_MO_firstLost_26 : decode b_MO_firstLost 26 = .ok (.iand, 1) := by decide +kernel
theorem d_MO_firstLost_27 : decode b_MO_firstLost 27 = .ok (.iconst 1, 1) := by decide +kernel
theorem d_MO_firstLost_28 : decode b_MO_firstLost 28 = .ok (.if_icmp .ne 10, 3) := by decide +kernel
theorem d_MO_firstLost_31 : decode b_MO_firstLost 31 = .ok (.bipush 10, 2) := by decide +kernel
theorem d_MO_firstLost_33 : decode b_MO_firstLost 33 = .ok (.iload_n 1, 1) := by decide +kernel
theorem d_MO_firstLost_34 : decode b_MO_firstLost 34 = .ok (.imul, 1) := by decide +kernel
theorem d_MO_firstLost_35 : decode b_MO_firstLost 35 = .ok (.iload_n 2, 1) := by decide +kernel
theorem d_MO_firstLost_36 : decode b_MO_firstLost 36 = .ok (.iadd, 1) := by decide +kernel
theorem d_MO_firstLost_37 : decode b_MO_firstLost 37 = .ok (.ireturn, 1) := by decide +kernel
theorem d_MO_firstLost_38 : decode b_MO_firstLost 38 = .ok (.iinc 2 1, 3) := by decide +kernel
theorem d_MO_firstLost_41 : decode b_MO_firstLost 41 = .ok (.goto (-29), 3) := by decide +kernel
theorem d_MO_firstLost_44 : decode b_MO_firstLost 44 = .ok (.iinc 1 1, 3) := by decide +kernel
theorem d_MO_firstLost_47 : decode b_MO_firstLost 47 = .ok (.goto (-45), 3) := by decide +kernel
theorem d_MO_firstLost_50 : decode b_MO_firstLost 50 = .ok (.iconst (-1), 1) := by decide +kernel
theorem d_MO_firstLost_51 : decode b_MO_firstLost 51 = .ok (.ireturn, 1) := by decide +kernel
theorem d_MO_firstFailing_0 : decode b_MO_firstFailing 0 = .ok (.iconst 0, 1) := by decide +kernel
theorem d_MO_firstFailing_1 : decode b_MO_firstFailing 1 = .ok (.istore_n 1, 1) := by decide +kernel
theorem d_MO_firstFailing_2 : decode b_MO_firstFailing 2 = .ok (.iload_n 1, 1) := by decide +kernel
theorem d_MO_firstFailing_3 : decode b_MO_firstFailing 3 = .ok (.aload_n 0, 1) := by decide +kernel
theorem d_MO_firstFailing_4 : decode b_MO_firstFailing 4 = .ok (.getfield 7, 3) := by decide +kernel
theorem d_MO_firstFailing_7 : decode b_MO_firstFailing 7 = .ok (.if_icmp .ge 52, 3) := by decide +kernel
theorem d_MO_firstFailing_10 : decode b_MO_firstFailing 10 = .ok (.iconst 0, 1) := by decide +kernel
theorem d_MO_firstFailing_11 : decode b_MO_firstFailing 11 = .ok (.istore_n 2, 1) := by decide +kernel
theorem d_MO_firstFailing_12 : decode b_MO_firstFailing 12 = .ok (.iload_n 2, 1) := by decide +kernel
theorem d_MO_firstFailing_13 : decode b_MO_firstFailing 13 = .ok (.iconst 5, 1) := by decide +kernel
theorem d_MO_firstFailing_14 : decode b_MO_firstFailing 14 = .ok (.if_icmp .ge 39, 3) := by decide +kernel
theorem d_MO_firstFailing_17 : decode b_MO_firstFailing 17 = .ok (.aload_n 0, 1) := by decide +kernel
theorem d_MO_firstFailing_18 : decode b_MO_firstFailing 18 = .ok (.getfield 35, 3) := by decide +kernel
theorem d_MO_firstFailing_21 : decode b_MO_firstFailing 21 = .ok (.iload_n 1, 1) := by decide +kernel
theorem d_MO_firstFailing_22 : decode b_MO_firstFailing 22 = .ok (.iaload, 1) := by decide +kernel
theorem d_MO_firstFailing_23 : decode b_MO_firstFailing 23 = .ok (.iload_n 2, 1) := by decide +kernel
theorem d_MO_firstFailing_24 : decode b_MO_firstFailing 24 = .ok (.ishr, 1) := by decide +kernel
theorem d_MO_firstFailing_25 : decode b_MO_firstFailing 25 = .ok (.iconst 1, 1) := by decide +kernel
theorem d_MO_firstFailing_26 : decode b_MO_firstFailing 26 = .ok (.iand, 1) := by decide +kernel
theorem d_MO_firstFailing_27 : decode b_MO_firstFailing 27 = .ok (.iconst 1, 1) := by decide +kernel
theorem d_MO_firstFailing_28 : decode b_MO_firstFailing 28 = .ok (.if_icmp .ne 19, 3) := by decide +kernel
theorem d_MO_firstFailing_31 : decode b_MO_firstFailing 31 = .ok (.aload_n 0, 1) := by decide +kernel
theorem d_MO_firstFailing_32 : decode b_MO_firstFailing 32 = .ok (.iload_n 1, 1) := by decide +kernel
theorem d_MO_firstFailing_33 : decode b_MO_firstFailing 33 = .ok (.iload_n 2, 1) := by decide +kernel
theorem d_MO_firstFailing_34 : decode b_MO_firstFailing 34 = .ok (.invokevirtual 192, 3) := by decide +kernel
theorem d_MO_firstFailing_37 : decode b_MO_firstFailing 37 = .ok (.ifCond .eq 10, 3) := by decide +kernel
theorem d_MO_firstFailing_40 : decode b_MO_firstFailing 40 = .ok (.bipush 10, 2) := by decide +kernel
theorem d_MO_firstFailing_42 : decode b_MO_firstFailing 42 = .ok (.iload_n 1, 1) := by decide +kernel
theorem d_MO_firstFailing_43 : decode b_MO_firstFailing 43 = .ok (.imul, 1) := by decide +kernel
theorem d_MO_firstFailing_44 : decode b_MO_firstFailing 44 = .ok (.iload_n 2, 1) := by decide +kernel
theorem d_MO_firstFailing_45 : decode b_MO_firstFailing 45 = .ok (.iadd, 1) := by decide +kernel
theorem d_MO_firstFailing_46 : decode b_MO_firstFailing 46 = .ok (.ireturn, 1) := by decide +kernel
theorem d_MO_firstFailing_47 : decode b_MO_firstFailing 47 = .ok (.iinc 2 1, 3) := by decide +kernel
theorem d_MO_firstFailing_50 : decode b_MO_firstFailing 50 = .ok (.goto (-38), 3) := by decide +kernel
theorem d_MO_firstFailing_53 : decode b_MO_firstFailing 53 = .ok (.iinc 1 1, 3) := by decide +kernel
theorem d_MO_firstFailing_56 : decode b_MO_firstFailing 56 = .ok (.goto (-54), 3) := by decide +kernel
theorem d_MO_firstFailing_59 : decode b_MO_firstFailing 59 = .ok (.iconst (-1), 1) := by decide +kernel
theorem d_MO_firstFailing_60 : decode b_MO_firstFailing 60 = .ok (.ireturn, 1) := by decide +kernel
theorem d_MO_step_0 : decode b_MO_step 0 = .ok (.aload_n 0, 1) := by decide +kernel
theorem d_MO_step_1 : decode b_MO_step 1 = .ok (.iconst 0, 1) := by decide +kernel
theorem d_MO_step_2 : decode b_MO_step 2 = .ok (.putfield 83, 3) := by decide +kernel
theorem d_MO_step_5 : decode b_MO_step 5 = .ok (.iconst 0, 1) := by decide +kernel
theorem d_MO_step_6 : decode b_MO_step 6 = .ok (.istore_n 1, 1) := by decide +kernel
theorem d_MO_step_7 : decode b_MO_step 7 = .ok (.iload_n 1, 1) := by decide +kernel
theorem d_MO_step_8 : decode b_MO_step 8 = .ok (.aload_n 0, 1) := by decide +kernel
theorem d_MO_step_9 : decode b_MO_step 9 = .ok (.getfield 7, 3) := by decide +kernel
theorem d_MO_step_12 : decode b_MO_step 12 = .ok (.if_icmp .ge 21, 3) := by decide +kernel
theorem d_MO_step_15 : decode b_MO_step 15 = .ok (.aload_n 0, 1) := by decide +kernel
theorem d_MO_step_16 : decode b_MO_step 16 = .ok (.getfield 35, 3) := by decide +kernel
theorem d_MO_step_19 : decode b_MO_step 19 = .ok (.iload_n 1, 1) := by decide +kernel
theorem d_MO_step_20 : decode b_MO_step 20 = .ok (.aload_n 0, 1) := by decide +kernel
theorem d_MO_step_21 : decode b_MO_step 21 = .ok (.getfield 32, 3) := by decide +kernel
theorem d_MO_step_24 : decode b_MO_step 24 = .ok (.iload_n 1, 1) := by decide +kernel
theorem d_MO_step_25 : decode b_MO_step 25 = .ok (.iaload, 1) := by decide +kernel
theorem d_MO_step_26 : decode b_MO_step 26 = .ok (.iastore, 1) := by decide +kernel
theorem d_MO_step_27 : decode b_MO_step 27 = .ok (.iinc 1 1, 3) := by decide +kernel
theorem d_MO_step_30 : decode b_MO_step 30 = .ok (.goto (-23), 3) := by decide +kernel
theorem d_MO_step_33 : decode b_MO_step 33 = .ok (.aload_n 0, 1) := by decide +kernel
theorem d_MO_step_34 : decode b_MO_step 34 = .ok (.invokevirtual 183, 3) := by decide +kernel
theorem d_MO_step_37 : decode b_MO_step 37 = .ok (.ifCond .eq 7, 3) := by decide +kernel
theorem d_MO_step_40 : decode b_MO_step 40 = .ok (.iconst 1, 1) := by decide +kernel
theorem d_MO_step_41 : decode b_MO_step 41 = .ok (.goto 4, 3) := by decide +kernel
theorem d_MO_step_44 : decode b_MO_step 44 = .ok (.iconst 2, 1) := by decide +kernel
theorem d_MO_step_45 : decode b_MO_step 45 = .ok (.istore_n 1, 1) := by decide +kernel
theorem d_MO_step_46 : decode b_MO_step 46 = .ok (.iload_n 1, 1) := by decide +kernel
theorem d_MO_step_47 : decode b_MO_step 47 = .ok (.iconst 1, 1) := by decide +kernel
theorem d_MO_step_48 : decode b_MO_step 48 = .ok (.if_icmp .ne 10, 3) := by decide +kernel
theorem d_MO_step_51 : decode b_MO_step 51 = .ok (.aload_n 0, 1) := by decide +kernel
theorem d_MO_step_52 : decode b_MO_step 52 = .ok (.invokevirtual 201, 3) := by decide +kernel
theorem d_MO_step_55 : decode b_MO_step 55 = .ok (.goto 7, 3) := by decide +kernel
theorem d_MO_step_58 : decode b_MO_step 58 = .ok (.aload_n 0, 1) := by decide +kernel
theorem d_MO_step_59 : decode b_MO_step 59 = .ok (.invokevirtual 204, 3) := by decide +kernel
theorem d_MO_step_62 : decode b_MO_step 62 = .ok (.istore_n 2, 1) := by decide +kernel
theorem d_MO_step_63 : decode b_MO_step 63 = .ok (.iload_n 2, 1) := by decide +kernel
theorem d_MO_step_64 : decode b_MO_step 64 = .ok (.ifCond .ge 5, 3) := by decide +kernel
theorem d_MO_step_67 : decode b_MO_step 67 = .ok (.iconst 0, 1) := by decide +kernel
theorem d_MO_step_68 : decode b_MO_step 68 = .ok (.ireturn, 1) := by decide +kernel
theorem d_MO_step_69 : decode b_MO_step 69 = .ok (.aload_n 0, 1) := by decide +kernel
theorem d_MO_step_70 : decode b_MO_step 70 = .ok (.getfield 32, 3) := by decide +kernel
theorem d_MO_step_73 : decode b_MO_step 73 = .ok (.iload_n 2, 1) := by decide +kernel
theorem d_MO_step_74 : decode b_MO_step 74 = .ok (.bipush 10, 2) := by decide +kernel
theorem d_MO_step_76 : decode b_MO_step 76 = .ok (.idiv, 1) := by decide +kernel
theorem d_MO_step_77 : decode b_MO_step 77 = .ok (.dup2, 1) := by decide +kernel
theorem d_MO_step_78 : decode b_MO_step 78 = .ok (.iaload, 1) := by decide +kernel
theorem d_MO_step_79 : decode b_MO_step 79 = .ok (.iconst 1, 1) := by decide +kernel
theorem d_MO_step_80 : decode b_MO_step 80 = .ok (.iload_n 2, 1) := by decide +kernel
theorem d_MO_step_81 : decode b_MO_step 81 = .ok (.bipush 10, 2) := by decide +kernel
theorem d_MO_step_83 : decode b_MO_step 83 = .ok (.irem, 1) := by decide +kernel
theorem d_MO_step_84 : decode b_MO_step 84 = .ok (.ishl, 1) := by decide +kernel
theorem d_MO_step_85 : decode b_MO_step 85 = .ok (.iconst (-1), 1) := by decide +kernel
theorem d_MO_step_86 : decode b_MO_step 86 = .ok (.ixor, 1) := by decide +kernel
theorem d_MO_step_87 : decode b_MO_step 87 = .ok (.iand, 1) := by decide +kernel
theorem d_MO_step_88 : decode b_MO_step 88 = .ok (.iastore, 1) := by decide +kernel
theorem d_MO_step_89 : decode b_MO_step 89 = .ok (.sipush 1000, 3) := by decide +kernel
theorem d_MO_step_92 : decode b_MO_step 92 = .ok (.iload_n 1, 1) := by decide +kernel
theorem d_MO_step_93 : decode b_MO_step 93 = .ok (.imul, 1) := by decide +kernel
theorem d_MO_step_94 : decode b_MO_step 94 = .ok (.iload_n 2, 1) := by decide +kernel
theorem d_MO_step_95 : decode b_MO_step 95 = .ok (.iadd, 1) := by decide +kernel
theorem d_MO_step_96 : decode b_MO_step 96 = .ok (.ireturn, 1) := by decide +kernel
theorem d_MO_isDone_0 : decode b_MO_isDone 0 = .ok (.iconst 1, 1) := by decide +kernel
theorem d_MO_isDone_1 : decode b_MO_isDone 1 = .ok (.istore_n 1, 1) := by decide +kernel
theorem d_MO_isDone_2 : decode b_MO_isDone 2 = .ok (.iconst 0, 1) := by decide +kernel
theorem d_MO_isDone_3 : decode b_MO_isDone 3 = .ok (.istore_n 2, 1) := by decide +kernel
theorem d_MO_isDone_4 : decode b_MO_isDone 4 = .ok (.iload_n 2, 1) := by decide +kernel
theorem d_MO_isDone_5 : decode b_MO_isDone 5 = .ok (.aload_n 0, 1) := by decide +kernel
theorem d_MO_isDone_6 : decode b_MO_isDone 6 = .ok (.getfield 7, 3) := by decide +kernel
theorem d_MO_isDone_9 : decode b_MO_isDone 9 = .ok (.if_icmp .ge 46, 3) := by decide +kernel
theorem d_MO_isDone_12 : decode b_MO_isDone 12 = .ok (.iload_n 1, 1) := by decide +kernel
theorem d_MO_isDone_13 : decode b_MO_isDone 13 = .ok (.ifCond .eq 34, 3) := by decide +kernel
theorem d_MO_isDone_16 : decode b_MO_isDone 16 = .ok (.aload_n 0, 1) := by decide +kernel
theorem d_MO_isDone_17 : decode b_MO_isDone 17 = .ok (.getfield 35, 3) := by decide +kernel
theorem d_MO_isDone_20 : decode b_MO_isDone 20 = .ok (.iload_n 2, 1) := by decide +kernel
theorem d_MO_isDone_21 : decode b_MO_isDone 21 = .ok (.iaload, 1) := by decide +kernel
theorem d_MO_isDone_22 : decode b_MO_isDone 22 = .ok (.ifCond .eq 25, 3) := by decide +kernel
theorem d_MO_isDone_25 : decode b_MO_isDone 25 = .ok (.aload_n 0, 1) := by decide +kernel
theorem d_MO_isDone_26 : decode b_MO_isDone 26 = .ok (.getfield 35, 3) := by decide +kernel
theorem d_MO_isDone_29 : decode b_MO_isDone 29 = .ok (.iload_n 2, 1) := by decide +kernel
theorem d_MO_isDone_30 : decode b_MO_isDone 30 = .ok (.iaload, 1) := by decide +kernel
theorem d_MO_isDone_31 : decode b_MO_isDone 31 = .ok (.aload_n 0, 1) := by decide +kernel
theorem d_MO_isDone_32 : decode b_MO_isDone 32 = .ok (.getfield 35, 3) := by decide +kernel
theorem d_MO_isDone_35 : decode b_MO_isDone 35 = .ok (.iload_n 2, 1) := by decide +kernel
theorem d_MO_isDone_36 : decode b_MO_isDone 36 = .ok (.iaload, 1) := by decide +kernel
theorem d_MO_isDone_37 : decode b_MO_isDone 37 = .ok (.iconst 1, 1) := by decide +kernel
theorem d_MO_isDone_38 : decode b_MO_isDone 38 = .ok (.isub, 1) := by decide +kernel
theorem d_MO_isDone_39 : decode b_MO_isDone 39 = .ok (.iand, 1) := by decide +kernel
theorem d_MO_isDone_40 : decode b_MO_isDone 40 = .ok (.ifCond .ne 7, 3) := by decide +kernel
theorem d_MO_isDone_43 : decode b_MO_isDone 43 = .ok (.iconst 1, 1) := by decide +kernel
theorem d_MO_isDone_44 : decode b_MO_isDone 44 = .ok (.goto 4, 3) := by decide +kernel
theorem d_MO_isDone_47 : decode b_MO_isDone 47 = .ok (.iconst 0, 1) := by decide +kernel
theorem d_MO_isDone_48 : decode b_MO_isDone 48 = .ok (.istore_n 1, 1) := by decide +kernel
theorem d_MO_isDone_49 : decode b_MO_isDone 49 = .ok (.iinc 2 1, 3) := by decide +kernel
theorem d_MO_isDone_52 : decode b_MO_isDone 52 = .ok (.goto (-48), 3) := by decide +kernel
theorem d_MO_isDone_55 : decode b_MO_isDone 55 = .ok (.iload_n 1, 1) := by decide +kernel
theorem d_MO_isDone_56 : decode b_MO_isDone 56 = .ok (.ireturn, 1) := by decide +kernel
theorem d_MO_gradeNow_0 : decode b_MO_gradeNow 0 = .ok (.aload_n 0, 1) := by decide +kernel
theorem d_MO_gradeNow_1 : decode b_MO_gradeNow 1 = .ok (.invokevirtual 138, 3) := by decide +kernel
theorem d_MO_gradeNow_4 : decode b_MO_gradeNow 4 = .ok (.aload_n 0, 1) := by decide +kernel
theorem d_MO_gradeNow_5 : decode b_MO_gradeNow 5 = .ok (.getfield 129, 3) := by decide +kernel
theorem d_MO_gradeNow_8 : decode b_MO_gradeNow 8 = .ok (.iconst 1, 1) := by decide +kernel
theorem d_MO_gradeNow_9 : decode b_MO_gradeNow 9 = .ok (.if_icmp .eq 16, 3) := by decide +kernel
theorem d_MO_gradeNow_12 : decode b_MO_gradeNow 12 = .ok (.aload_n 0, 1) := by decide +kernel
theorem d_MO_gradeNow_13 : decode b_MO_gradeNow 13 = .ok (.getfield 129, 3) := by decide +kernel
theorem d_MO_gradeNow_16 : decode b_MO_gradeNow 16 = .ok (.ifCond .ne 7, 3) := by decide +kernel
theorem d_MO_gradeNow_19 : decode b_MO_gradeNow 19 = .ok (.iconst 0, 1) := by decide +kernel
theorem d_MO_gradeNow_20 : decode b_MO_gradeNow 20 = .ok (.goto 4, 3) := by decide +kernel
theorem d_MO_gradeNow_23 : decode b_MO_gradeNow 23 = .ok (.iconst 4, 1) := by decide +kernel
theorem d_MO_gradeNow_24 : decode b_MO_gradeNow 24 = .ok (.ireturn, 1) := by decide +kernel
theorem d_MO_gradeNow_25 : decode b_MO_gradeNow 25 = .ok (.iconst 0, 1) := by decide +kernel
theorem d_MO_gradeNow_26 : decode b_MO_gradeNow 26 = .ok (.istore_n 1, 1) := by decide +kernel
theorem d_MO_gradeNow_27 : decode b_MO_gradeNow 27 = .ok (.iload_n 1, 1) := by decide +kernel
theorem d_MO_gradeNow_28 : decode b_MO_gradeNow 28 = .ok (.aload_n 0, 1) := by decide +kernel
theorem d_MO_gradeNow_29 : decode b_MO_gradeNow 29 = .ok (.getfield 7, 3) := by decide +kernel
theorem d_MO_gradeNow_32 : decode b_MO_gradeNow 32 = .ok (.if_icmp .ge 40, 3) := by decide +kernel
theorem d_MO_gradeNow_35 : decode b_MO_gradeNow 35 = .ok (.aload_n 0, 1) := by decide +kernel
theorem d_MO_gradeNow_36 : decode b_MO_gradeNow 36 = .ok (.getfield 35, 3) := by decide +kernel
theorem d_MO_gradeNow_39 : decode b_MO_gradeNow 39 = .ok (.iload_n 1, 1) := by decide +kernel
theorem d_MO_gradeNow_40 : decode b_MO_gradeNow 40 = .ok (.aload_n 0, 1) := by decide +kernel
theorem d_MO_gradeNow_41 : decode b_MO_gradeNow 41 = .ok (.getfield 29, 3) := by decide +kernel
theorem d_MO_gradeNow_44 : decode b_MO_gradeNow 44 = .ok (.iload_n 1, 1) := by decide +kernel
theorem d_MO_gradeNow_45 : decode b_MO_gradeNow 45 = .ok (.iaload, 1) := by decide +kernel
theorem d_MO_gradeNow_46 : decode b_MO_gradeNow 46 = .ok (.iconst (-1), 1) := by decide +kernel
theorem d_MO_gradeNow_47 : decode b_MO_gradeNow 47 = .ok (.if_icmp .ne 10, 3) := by decide +kernel
theorem d_MO_gradeNow_50 : decode b_MO_gradeNow 50 = .ok (.aload_n 0, 1) := by decide +kernel
theorem d_MO_gradeNow_51 : decode b_MO_gradeNow 51 = .ok (.invokevirtual 92, 3) := by decide +kernel
theorem d_MO_gradeNow_54 : decode b_MO_gradeNow 54 = .ok (.goto 11, 3) := by decide +kernel
theorem d_MO_gradeNow_57 : decode b_MO_gradeNow 57 = .ok (.iconst 1, 1) := by decide +kernel
theorem d_MO_gradeNow_58 : decode b_MO_gradeNow 58 = .ok (.aload_n 0, 1) := by decide +kernel
theorem d_MO_gradeNow_59 : decode b_MO_gradeNow 59 = .ok (.getfield 29, 3) := by decide +kernel
theorem d_MO_gradeNow_62 : decode b_MO_gradeNow 62 = .ok (.iload_n 1, 1) := by decide +kernel
theorem d_MO_gradeNow_63 : decode b_MO_gradeNow 63 = .ok (.iaload, 1) := by decide +kernel
theorem d_MO_gradeNow_64 : decode b_MO_gradeNow 64 = .ok (.ishl, 1) := by decide +kernel
theorem d_MO_gradeNow_65 : decode b_MO_gradeNow 65 = .ok (.iastore, 1) := by decide +kernel
theorem d_MO_gradeNow_66 : decode b_MO_gradeNow 66 = .ok (.iinc 1 1, 3) := by decide +kernel
theorem d_MO_gradeNow_69 : decode b_MO_gradeNow 69 = .ok (.goto (-42), 3) := by decide +kernel
theorem d_MO_gradeNow_72 : decode b_MO_gradeNow 72 = .ok (.aload_n 0, 1) := by decide +kernel
theorem d_MO_gradeNow_73 : decode b_MO_gradeNow 73 = .ok (.invokevirtual 186, 3) := by decide +kernel
theorem d_MO_gradeNow_76 : decode b_MO_gradeNow 76 = .ok (.aload_n 0, 1) := by decide +kernel
theorem d_MO_gradeNow_77 : decode b_MO_gradeNow 77 = .ok (.invokevirtual 207, 3) := by decide +kernel
theorem d_MO_gradeNow_80 : decode b_MO_gradeNow 80 = .ok (.ifCond .eq 5, 3) := by decide +kernel
theorem d_MO_gradeNow_83 : decode b_MO_gradeNow 83 = .ok (.iconst 1, 1) := by decide +kernel
theorem d_MO_gradeNow_84 : decode b_MO_gradeNow 84 = .ok (.ireturn, 1) := by decide +kernel
theorem d_MO_gradeNow_85 : decode b_MO_gradeNow 85 = .ok (.aload_n 0, 1) := by decide +kernel
theorem d_MO_gradeNow_86 : decode b_MO_gradeNow 86 = .ok (.invokevirtual 198, 3) := by decide +kernel
theorem d_MO_gradeNow_89 : decode b_MO_gradeNow 89 = .ok (.aload_n 0, 1) := by decide +kernel
theorem d_MO_gradeNow_90 : decode b_MO_gradeNow 90 = .ok (.invokevirtual 207, 3) := by decide +kernel
theorem d_MO_gradeNow_93 : decode b_MO_gradeNow 93 = .ok (.ifCond .eq 7, 3) := by decide +kernel
theorem d_MO_gradeNow_96 : decode b_MO_gradeNow 96 = .ok (.iconst 2, 1) := by decide +kernel
theorem d_MO_gradeNow_97 : decode b_MO_gradeNow 97 = .ok (.goto 4, 3) := by decide +kernel
theorem d_MO_gradeNow_100 : decode b_MO_gradeNow 100 = .ok (.iconst 3, 1) := by decide +kernel
theorem d_MO_gradeNow_101 : decode b_MO_gradeNow 101 = .ok (.ireturn, 1) := by decide +kernel
theorem d_MO_grade_0 : decode b_MO_grade 0 = .ok (.aload_n 0, 1) := by decide +kernel
theorem d_MO_grade_1 : decode b_MO_grade 1 = .ok (.iconst 0, 1) := by decide +kernel
theorem d_MO_grade_2 : decode b_MO_grade 2 = .ok (.putfield 83, 3) := by decide +kernel
theorem d_MO_grade_5 : decode b_MO_grade 5 = .ok (.aload_n 0, 1) := by decide +kernel
theorem d_MO_grade_6 : decode b_MO_grade 6 = .ok (.invokevirtual 210, 3) := by decide +kernel
theorem d_MO_grade_9 : decode b_MO_grade 9 = .ok (.ireturn, 1) := by decide +kernel
theorem d_MO_full_0 : decode b_MO_full 0 = .ok (.aload_n 0, 1) := by decide +kernel
theorem d_MO_full_1 : decode b_MO_full 1 = .ok (.invokevirtual 138, 3) := by decide +kernel
theorem d_MO_full_4 : decode b_MO_full 4 = .ok (.aload_n 0, 1) := by decide +kernel
theorem d_MO_full_5 : decode b_MO_full 5 = .ok (.aload_n 0, 1) := by decide +kernel
theorem d_MO_full_6 : decode b_MO_full 6 = .ok (.getfield 129, 3) := by decide +kernel
theorem d_MO_full_9 : decode b_MO_full 9 = .ok (.ifCond .ne 7, 3) := by decide +kernel
theorem d_MO_full_12 : decode b_MO_full 12 = .ok (.iconst 1, 1) := by decide +kernel
theorem d_MO_full_13 : decode b_MO_full 13 = .ok (.goto 4, 3) := by decide +kernel
theorem d_MO_full_16 : decode b_MO_full 16 = .ok (.iconst 0, 1) := by decide +kernel
theorem d_MO_full_17 : decode b_MO_full 17 = .ok (.putfield 83, 3) := by decide +kernel
theorem d_MO_full_20 : decode b_MO_full 20 = .ok (.aload_n 0, 1) := by decide +kernel
theorem d_MO_full_21 : decode b_MO_full 21 = .ok (.getfield 83, 3) := by decide +kernel
theorem d_MO_full_24 : decode b_MO_full 24 = .ok (.ifCond .eq 5, 3) := by decide +kernel
theorem d_MO_full_27 : decode b_MO_full 27 = .ok (.iconst 0, 1) := by decide +kernel
theorem d_MO_full_28 : decode b_MO_full 28 = .ok (.ireturn, 1) := by decide +kernel
theorem d_MO_full_29 : decode b_MO_full 29 = .ok (.iconst 0, 1) := by decide +kernel
theorem d_MO_full_30 : decode b_MO_full 30 = .ok (.istore_n 1, 1) := by decide +kernel
theorem d_MO_full_31 : decode b_MO_full 31 = .ok (.iconst 0, 1) := by decide +kernel
theorem d_MO_full_32 : decode b_MO_full 32 = .ok (.istore_n 2, 1) := by decide +kernel
theorem d_MO_full_33 : decode b_MO_full 33 = .ok (.iload_n 2, 1) := by decide +kernel
theorem d_MO_full_34 : decode b_MO_full 34 = .ok (.aload_n 0, 1) := by decide +kernel
theorem d_MO_full_35 : decode b_MO_full 35 = .ok (.getfield 7, 3) := by decide +kernel
theorem d_MO_full_38 : decode b_MO_full 38 = .ok (.if_icmp .ge 39, 3) := by decide +kernel
theorem d_MO_full_41 : decode b_MO_full 41 = .ok (.iload_n 1, 1) := by decide +kernel
theorem d_MO_full_42 : decode b_MO_full 42 = .ok (.aload_n 0, 1) := by decide +kernel
theorem d_MO_full_43 : decode b_MO_full 43 = .ok (.getfield 29, 3) := by decide +kernel
theorem d_MO_full_46 : decode b_MO_full 46 = .ok (.iload_n 2, 1) := by decide +kernel
theorem d_MO_full_47 : decode b_MO_full 47 = .ok (.iaload, 1) := by decide +kernel
theorem d_MO_full_48 : decode b_MO_full 48 = .ok (.iconst (-1), 1) := by decide +kernel
theorem d_MO_full_49 : decode b_MO_full 49 = .ok (.if_icmp .ne 7, 3) := by decide +kernel
theorem d_MO_full_52 : decode b_MO_full 52 = .ok (.iconst 1, 1) := by decide +kernel
theorem d_MO_full_53 : decode b_MO_full 53 = .ok (.goto 4, 3) := by decide +kernel
theorem d_MO_full_56 : decode b_MO_full 56 = .ok (.iconst 0, 1) := by decide +kernel
theorem d_MO_full_57 : decode b_MO_full 57 = .ok (.iadd, 1) := by decide +kernel
theorem d_MO_full_58 : decode b_MO_full 58 = .ok (.istore_n 1, 1) := by decide +kernel
theorem d_MO_full_59 : decode b_MO_full 59 = .ok (.aload_n 0, 1) := by decide +kernel
theorem d_MO_full_60 : decode b_MO_full 60 = .ok (.getfield 29, 3) := by decide +kernel
theorem d_MO_full_63 : decode b_MO_full 63 = .ok (.iload_n 2, 1) := by decide +kernel
theorem d_MO_full_64 : decode b_MO_full 64 = .ok (.aload_n 0, 1) := by decide +kernel
theorem d_MO_full_65 : decode b_MO_full 65 = .ok (.getfield 50, 3) := by decide +kernel
theorem d_MO_full_68 : decode b_MO_full 68 = .ok (.iload_n 2, 1) := by decide +kernel
theorem d_MO_full_69 : decode b_MO_full 69 = .ok (.iaload, 1) := by decide +kernel
theorem d_MO_full_70 : decode b_MO_full 70 = .ok (.iastore, 1) := by decide +kernel
theorem d_MO_full_71 : decode b_MO_full 71 = .ok (.iinc 2 1, 3) := by decide +kernel
theorem d_MO_full_74 : decode b_MO_full 74 = .ok (.goto (-41), 3) := by decide +kernel
theorem d_MO_full_77 : decode b_MO_full 77 = .ok (.aload_n 0, 1) := by decide +kernel
theorem d_MO_full_78 : decode b_MO_full 78 = .ok (.invokevirtual 89, 3) := by decide +kernel
theorem d_MO_full_81 : decode b_MO_full 81 = .ok (.iload_n 1, 1) := by decide +kernel
theorem d_MO_full_82 : decode b_MO_full 82 = .ok (.ireturn, 1) := by decide +kernel
theorem d_MO_thin_0 : decode b_MO_thin 0 = .ok (.aload_n 0, 1) := by decide +kernel
theorem d_MO_thin_1 : decode b_MO_thin 1 = .ok (.iload_n 1, 1) := by decide +kernel
theorem d_MO_thin_2 : decode b_MO_thin 2 = .ok (.iconst 1, 1) := by decide +kernel
theorem d_MO_thin_3 : decode b_MO_thin 3 = .ok (.if_icmp .lt 8, 3) := by decide +kernel
theorem d_MO_thin_6 : decode b_MO_thin 6 = .ok (.iload_n 1, 1) := by decide +kernel
theorem d_MO_thin_7 : decode b_MO_thin 7 = .ok (.iconst 3, 1) := by decide +kernel
theorem d_MO_thin_8 : decode b_MO_thin 8 = .ok (.if_icmp .le 7, 3) := by decide +kernel
theorem d_MO_thin_11 : decode b_MO_thin 11 = .ok (.iconst 1, 1) := by decide +kernel
theorem d_MO_thin_12 : decode b_MO_thin 12 = .ok (.goto 4, 3) := by decide +kernel
theorem d_MO_thin_15 : decode b_MO_thin 15 = .ok (.iconst 0, 1) := by decide +kernel
theorem d_MO_thin_16 : decode b_MO_thin 16 = .ok (.putfield 83, 3) := by decide +kernel
theorem d_MO_thin_19 : decode b_MO_thin 19 = .ok (.aload_n 0, 1) := by decide +kernel
theorem d_MO_thin_20 : decode b_MO_thin 20 = .ok (.getfield 83, 3) := by decide +kernel
theorem d_MO_thin_23 : decode b_MO_thin 23 = .ok (.ifCond .eq 5, 3) := by decide +kernel
theorem d_MO_thin_26 : decode b_MO_thin 26 = .ok (.iconst 0, 1) := by decide +kernel
theorem d_MO_thin_27 : decode b_MO_thin 27 = .ok (.ireturn, 1) := by decide +kernel
theorem d_MO_thin_28 : decode b_MO_thin 28 = .ok (.aload_n 0, 1) := by decide +kernel
theorem d_MO_thin_29 : decode b_MO_thin 29 = .ok (.invokevirtual 210, 3) := by decide +kernel
theorem d_MO_thin_32 : decode b_MO_thin 32 = .ok (.istore_n 2, 1) := by decide +kernel
theorem d_MO_thin_33 : decode b_MO_thin 33 = .ok (.aload_n 0, 1) := by decide +kernel
theorem d_MO_thin_34 : decode b_MO_thin 34 = .ok (.iload_n 2, 1) := by decide +kernel
theorem d_MO_thin_35 : decode b_MO_thin 35 = .ok (.ifCond .eq 8, 3) := by decide +kernel
theorem d_MO_thin_38 : decode b_MO_thin 38 = .ok (.iload_n 2, 1) := by decide +kernel
theorem d_MO_thin_39 : decode b_MO_thin 39 = .ok (.iload_n 1, 1) := by decide +kernel
theorem d_MO_thin_40 : decode b_MO_thin 40 = .ok (.if_icmp .le 7, 3) := by decide +kernel
theorem d_MO_thin_43 : decode b_MO_thin 43 = .ok (.iconst 2, 1) := by decide +kernel
theorem d_MO_thin_44 : decode b_MO_thin 44 = .ok (.goto 4, 3) := by decide +kernel
theorem d_MO_thin_47 : decode b_MO_thin 47 = .ok (.iconst 0, 1) := by decide +kernel
theorem d_MO_thin_48 : decode b_MO_thin 48 = .ok (.putfield 83, 3) := by decide +kernel
theorem d_MO_thin_51 : decode b_MO_thin 51 = .ok (.aload_n 0, 1) := by decide +kernel
theorem d_MO_thin_52 : decode b_MO_thin 52 = .ok (.getfield 83, 3) := by decide +kernel
theorem d_MO_thin_55 : decode b_MO_thin 55 = .ok (.ifCond .eq 5, 3) := by decide +kernel
theorem d_MO_thin_58 : decode b_MO_thin 58 = .ok (.iconst 0, 1) := by decide +kernel
theorem d_MO_thin_59 : decode b_MO_thin 59 = .ok (.ireturn, 1) := by decide +kernel
theorem d_MO_thin_60 : decode b_MO_thin 60 = .ok (.iconst 0, 1) := by decide +kernel
theorem d_MO_thin_61 : decode b_MO_thin 61 = .ok (.istore_n 3, 1) := by decide +kernel
theorem d_MO_thin_62 : decode b_MO_thin 62 = .ok (.iconst 0, 1) := by decide +kernel
theorem d_MO_thin_63 : decode b_MO_thin 63 = .ok (.istore 4, 2) := by decide +kernel
theorem d_MO_thin_65 : decode b_MO_thin 65 = .ok (.iload 4, 2) := by decide +kernel
theorem d_MO_thin_67 : decode b_MO_thin 67 = .ok (.aload_n 0, 1) := by decide +kernel
theorem d_MO_thin_68 : decode b_MO_thin 68 = .ok (.getfield 7, 3) := by decide +kernel
theorem d_MO_thin_71 : decode b_MO_thin 71 = .ok (.if_icmp .ge 90, 3) := by decide +kernel
theorem d_MO_thin_74 : decode b_MO_thin 74 = .ok (.aload_n 0, 1) := by decide +kernel
theorem d_MO_thin_75 : decode b_MO_thin 75 = .ok (.getfield 29, 3) := by decide +kernel
theorem d_MO_thin_78 : decode b_MO_thin 78 = .ok (.iload 4, 2) := by decide +kernel
theorem d_MO_thin_80 : decode b_MO_thin 80 = .ok (.iaload, 1) := by decide +kernel
theorem d_MO_thin_81 : decode b_MO_thin 81 = .ok (.istore 5, 2) := by decide +kernel
theorem d_MO_thin_83 : decode b_MO_thin 83 = .ok (.iload 5, 2) := by decide +kernel
theorem d_MO_thin_85 : decode b_MO_thin 85 = .ok (.iconst (-1), 1) := by decide +kernel
theorem d_MO_thin_86 : decode b_MO_thin 86 = .ok (.if_icmp .ne 6, 3) := by decide +kernel
theorem d_MO_thin_89 : decode b_MO_thin 89 = .ok (.goto 66, 3) := by decide +kernel
theorem d_MO_thin_92 : decode b_MO_thin 92 = .ok (.aload_n 0, 1) := by decide +kernel
theorem d_MO_thin_93 : decode b_MO_thin 93 = .ok (.getfield 29, 3) := by decide +kernel
theorem d_MO_thin_96 : decode b_MO_thin 96 = .ok (.iload 4, 2) := by decide +kernel
theorem d_MO_thin_98 : decode b_MO_thin 98 = .ok (.iconst (-1), 1) := by decide +kernel
theorem d_MO_thin_99 : decode b_MO_thin 99 = .ok (.iastore, 1) := by decide +kernel
theorem d_MO_thin_100 : decode b_MO_thin 100 = .ok (.aload_n 0, 1) := by decide +kernel
theorem d_MO_thin_101 : decode b_MO_thin 101 = .ok (.invokevirtual 210, 3) := by decide +kernel
theorem d_MO_thin_104 : decode b_MO_thin 104 = .ok (.istore 6, 2) := by decide +kernel
theorem d_MO_thin_106 : decode b_MO_thin 106 = .ok (.iload 6, 2) := by decide +kernel
theorem d_MO_thin_108 : decode b_MO_thin 108 = .ok (.ifCond .eq 9, 3) := by decide +kernel
theorem d_MO_thin_111 : decode b_MO_thin 111 = .ok (.iload 6, 2) := by decide +kernel
theorem d_MO_thin_113 : decode b_MO_thin 113 = .ok (.iload_n 1, 1) := by decide +kernel
theorem d_MO_thin_114 : decode b_MO_thin 114 = .ok (.if_icmp .le 7, 3) := by decide +kernel
theorem d_MO_thin_117 : decode b_MO_thin 117 = .ok (.iconst 1, 1) := by decide +kernel
theorem d_MO_thin_118 : decode b_MO_thin 118 = .ok (.goto 4, 3) := by decide +kernel
theorem d_MO_thin_121 : decode b_MO_thin 121 = .ok (.iconst 0, 1) := by decide +kernel
theorem d_MO_thin_122 : decode b_MO_thin 122 = .ok (.istore 7, 2) := by decide +kernel
theorem d_MO_thin_124 : decode b_MO_thin 124 = .ok (.aload_n 0, 1) := by decide +kernel
theorem d_MO_thin_125 : decode b_MO_thin 125 = .ok (.getfield 29, 3) := by decide +kernel
theorem d_MO_thin_128 : decode b_MO_thin 128 = .ok (.iload 4, 2) := by decide +kernel
theorem d_MO_thin_130 : decode b_MO_thin 130 = .ok (.iload 7, 2) := by decide +kernel
theorem d_MO_thin_132 : decode b_MO_thin 132 = .ok (.ifCond .eq 8, 3) := by decide +kernel
theorem d_MO_thin_135 : decode b_MO_thin 135 = .ok (.iload 5, 2) := by decide +kernel
theorem d_MO_thin_137 : decode b_MO_thin 137 = .ok (.goto 4, 3) := by decide +kernel
theorem d_MO_thin_140 : decode b_MO_thin 140 = .ok (.iconst (-1), 1) := by decide +kernel
theorem d_MO_thin_141 : decode b_MO_thin 141 = .ok (.iastore, 1) := by decide +kernel
theorem d_MO_thin_142 : decode b_MO_thin 142 = .ok (.iload_n 3, 1) := by decide +kernel
theorem d_MO_thin_143 : decode b_MO_thin 143 = .ok (.iload 7, 2) := by decide +kernel
theorem d_MO_thin_145 : decode b_MO_thin 145 = .ok (.ifCond .eq 7, 3) := by decide +kernel
theorem d_MO_thin_148 : decode b_MO_thin 148 = .ok (.iconst 0, 1) := by decide +kernel
theorem d_MO_thin_149 : decode b_MO_thin 149 = .ok (.goto 4, 3) := by decide +kernel
theorem d_MO_thin_152 : decode b_MO_thin 152 = .ok (.iconst 1, 1) := by decide +kernel
theorem d_MO_thin_153 : decode b_MO_thin 153 = .ok (.iadd, 1) := by decide +kernel
theorem d_MO_thin_154 : decode b_MO_thin 154 = .ok (.istore_n 3, 1) := by decide +kernel
theorem d_MO_thin_155 : decode b_MO_thin 155 = .ok (.iinc 4 1, 3) := by decide +kernel
theorem d_MO_thin_158 : decode b_MO_thin 158 = .ok (.goto (-93), 3) := by decide +kernel
theorem d_MO_thin_161 : decode b_MO_thin 161 = .ok (.aload_n 0, 1) := by decide +kernel
theorem d_MO_thin_162 : decode b_MO_thin 162 = .ok (.invokevirtual 89, 3) := by decide +kernel
theorem d_MO_thin_165 : decode b_MO_thin 165 = .ok (.iload_n 3, 1) := by decide +kernel
theorem d_MO_thin_166 : decode b_MO_thin 166 = .ok (.ireturn, 1) := by decide +kernel
set_option maxHeartbeats 4000000 in
set_option maxRecDepth 100000 in
theorem ct_MO_countAll (l : Launch) (D : va_G) (ad : Nat → Nat) (cI cL : ClassId) (N : Nat) (th : Int32) (ki : Int32) (ce : Int32) (wi : Int32) (ma : Int32) (fo : Int32) (cu : Nat → Int32) (gr : Nat → Int32) (ru : Nat → Int32) (nu : Nat → Int32) (gv : Nat → Int32) (ca : Nat → Int32) (nw : Nat → Int32) (lo : Nat → Int32) (ke : Nat → Int32) (un : Nat → Int32) (cn : Nat → Int32) (fi : Nat → Int32) (fl : Nat → Int32) (pa : Nat → Int32) (sh : Nat → Int32) (od : Nat → Int32) (bd : Nat → Int32) (bs : Nat → Int32)  (out : Int32) (h : mi_MO_countAll N ce ca = some out) : fw_C l y_MO_countAll (.code y_MO_countAll b_MO_countAll 3 (some .int) :: Gw) (fr 1 22) D vwCl (tyA cI cL) [.ref (ad 0)] (wM ad cI cL th ki ce wi ma fo cu gr ru nu gv ca nw lo ke un cn fi fl pa sh od bd bs) (some (.int out)) (wM ad cI cL th ki ce wi ma fo cu gr ru nu gv ca nw lo ke un cn fi fl pa sh od bd bs) := by
  refine fw_of (by decide) (Nat.le_of_ble_eq_true rfl) ?_
  intro p e s m args below meth c ls A R Q hR hQ S hr hlk hX hA hl hw
  have hK := hX.1
  have hx := S.1
  have hb := S.2.1
  have hown := S.2.2.2.1
  have hg := S.2.2.2.2
  have hl : lv_has ls 3 [(0, .ref (ad 0))] := hl
  unfold mi_MO_countAll at h
  refine lv_iconst (v := 0) hx hb d_MO_countAll_0 (by decide) ?_
  refine lv_istore_n (lv' := [(1, .int (0 : Int32)), (0, .ref (ad 0))]) hx hb d_MO_countAll_1 rfl hl (by decide) rfl (fun ls hl => ?_)
  refine lv_iconst (v := 0) hx hb d_MO_countAll_2 (by decide) ?_
  refine lv_istore_n (lv' := [(2, .int (0 : Int32)), (1, .int (0 : Int32)), (0, .ref (ad 0))]) hx hb d_MO_countAll_3 rfl hl (by decide) rfl (fun ls hl => ?_)
  have X4 : ∀ (y4 : Int32 × Int32), mr_MO_countAll_4 y4 = some out → ∀ (ls : Array Slot) (H : Heap) (locs : List Loc), lv_has ls 3 [(1, .int y4.1)] → fw_H D vwCl A s.heap (wM ad cI cL th ki ce wi ma fo cu gr ru nu gv ca nw lo ke un cn fi fl pa sh od bd bs) H locs → W p l e R s m args below meth c H locs 0 0 Q (F0 m 41 ls []) := by
    intro y4 h ls H locs hl hw
    unfold mr_MO_countAll_4 at h
    refine lv_iload_n hx hb d_MO_countAll_41 rfl (lv_at hl 0 rfl) ?_
    have q := Option.some.inj h
    subst q
    exact fw_iret hQ S hr hlk hX hw d_MO_countAll_42
  have L4 : ∀ (n4 : Nat) (x4 : Int32 × Int32) (e4 : Int32 × Int32), lp (mb_MO_countAll_4 N ce ca) n4 x4 = some e4 → (mr_MO_countAll_4) e4 = some out → ∀ (ls : Array Slot) (H : Heap) (locs : List Loc), lv_has ls 3 [(0, .ref (ad 0)), (1, .int x4.1), (2, .int x4.2)] → fw_H D vwCl A s.heap (wM ad cI cL th ki ce wi ma fo cu gr ru nu gv ca nw lo ke un cn fi fl pa sh od bd bs) H locs → W p l e R s m args below meth c H locs 0 0 Q (F0 m 4 ls []) := by
    intro n4
    induction n4 with
    | zero => intro x4 e4 h1; exact absurd h1 lp_0
    | succ n4 ih4 =>
      intro x4 e4 h1 hr4 ls H locs hl hw
      rw [lp_s] at h1
      refine ob h1 (fun r4 h hk4 => ?_)
      unfold mb_MO_countAll_4 at h
      refine lv_iload_n hx hb d_MO_countAll_4 rfl (lv_at hl 2 rfl) ?_
      refine lv_aload_n hx hb d_MO_countAll_5 rfl (lv_at hl 0 rfl) ?_
      refine va_get (ci := 6) (v := .int ce) (C := R_MO) (T := F_MO) (N := 24) hx hb hg in_MO hown hK hw.1 0 rfl rfl 2 (by decide) (hg _ q_751) (fun _ h9 => h9) rfl d_MO_countAll_6 ?_
      refine lv_icmp_ge (tgt := 41) hx hb d_MO_countAll_9 (by decide) (fun hc => ?_) (fun hc => ?_)
      · have h := oi h hc
        have q := Option.some.inj h
        subst q
        have q := Option.some.inj hk4
        subst q
        exact X4 (x4.1, x4.2) hr4 _ _ _ (lv_sub hl [1] rfl) hw
      · have h := oe h hc
        refine lv_iload_n hx hb d_MO_countAll_12 rfl (lv_at hl 1 rfl) ?_
        refine lv_aload_n hx hb d_MO_countAll_13 rfl (lv_at hl 0 rfl) ?_
        refine va_get (ci := 6) (v := .ref (ad 6)) (C := R_MO) (T := F_MO) (N := 24) hx hb hg in_MO hown hK hw.1 0 rfl rfl 9 (by decide) (hg _ q_758) (fun _ h9 => h9) rfl d_MO_countAll_14 ?_
        refine lv_iload_n hx hb d_MO_countAll_17 rfl (lv_at hl 2 rfl) ?_
        refine oc h (fun hc1 h => ?_)
        refine va_iald hx hb hK hw.1 6 0 rfl rfl hc1 d_MO_countAll_18 ?_
        refine lv_iconst (v := 1) hx hb d_MO_countAll_19 (by decide) ?_
        refine lv_ishr hx hb d_MO_countAll_20 ?_
        refine ob h (fun r21 h21 h => ?_)
        refine fw_callS (As := [.int ((ca x4.2.toNatClampNeg) >>> ((1 : Int32) &&& 31))]) (rest := [.int x4.1]) (st1 := [.int r21, .int x4.1]) S (ct_MO_ones l D (tyA cI cL) (wM ad cI cL th ki ce wi ma fo cu gr ru nu gv ca nw lo ke un cn fi fl pa sh od bd bs) N ((ca x4.2.toNatClampNeg) >>> ((1 : Int32) &&& 31)) r21 h21) q_881 q_882 q_10 k_MO_ones hd_MO_ones ⟨by rw [hR]; decide, by rw [hR]; decide⟩ rfl rfl hX hw hA hl.1 rfl rfl (Nat.le_of_ble_eq_true rfl) d_MO_countAll_21 ⟨Nat.zero_le _, Nat.zero_le _⟩ rfl (fun H locs hw => ?_)
        refine lv_aload_n hx hb d_MO_countAll_24 rfl (lv_at hl 0 rfl) ?_
        refine va_get (ci := 6) (v := .ref (ad 6)) (C := R_MO) (T := F_MO) (N := 24) hx hb hg in_MO hown hK hw.1 0 rfl rfl 9 (by decide) (hg _ q_758) (fun _ h9 => h9) rfl d_MO_countAll_25 ?_
        refine lv_iload_n hx hb d_MO_countAll_28 rfl (lv_at hl 2 rfl) ?_
        refine va_iald hx hb hK hw.1 6 0 rfl rfl hc1 d_MO_countAll_29 ?_
        refine lv_iconst (v := 1) hx hb d_MO_countAll_30 (by decide) ?_
        refine lv_iand hx hb d_MO_countAll_31 ?_
        refine lv_iadd hx hb d_MO_countAll_32 ?_
        refine lv_iadd hx hb d_MO_countAll_33 ?_
        refine lv_istore_n (lv' := [(1, .int (x4.1 + (r21 + ((ca x4.2.toNatClampNeg) &&& (1 : Int32))))), (0, .ref (ad 0)), (2, .int x4.2)]) hx hb d_MO_countAll_34 rfl hl (by decide) rfl (fun ls hl => ?_)
        refine lv_iinc (k := 2) (v := x4.2 + 1) (lv' := [(2, .int (x4.2 + 1)), (1, .int (x4.1 + (r21 + ((ca x4.2.toNatClampNeg) &&& (1 : Int32))))), (0, .ref (ad 0))]) hx hb d_MO_countAll_35 hl rfl (by rw [lit1]) (by decide) rfl (fun ls hl => ?_)
        refine lv_goto (tgt := 4) hx hb d_MO_countAll_38 (by decide) ?_
        have q := Option.some.inj h
        subst q
        exact ih4 (x4.1 + (r21 + ((ca x4.2.toNatClampNeg) &&& (1 : Int32))), x4.2 + 1) e4 hk4 hr4 _ _ _ (lv_sub hl [2, 1, 0] rfl) hw
  refine ob h (fun e4 h1 h2 => ?_)
  exact L4 N ((0 : Int32), (0 : Int32)) e4 h1 h2 _ _ _ (lv_sub hl [2, 1, 0] rfl) hw
set_option maxHeartbeats 4000000 in
set_option maxRecDepth 100000 in
theorem ct_MO_fresh (l : Launch) (D : va_G) (ad : Nat → Nat) (cI cL : ClassId) (N : Nat) (th : Int32) (ki : Int32) (ce : Int32) (wi : Int32) (ma : Int32) (fo : Int32) (cu : Nat → Int32) (gr : Nat → Int32) (ru : Nat → Int32) (nu : Nat → Int32) (gv : Nat → Int32) (ca : Nat → Int32) (nw : Nat → Int32) (lo : Nat → Int32) (ke : Nat → Int32) (un : Nat → Int32) (cn : Nat → Int32) (fi : Nat → Int32) (fl : Nat → Int32) (pa : Nat → Int32) (sh : Nat → Int32) (od : Nat → Int32) (bd : Nat → Int32) (bs : Nat → Int32)  (out : Int32 × Int32 × (Nat → Int32)) (h : mi_MO_fresh N th ki ce gv ca = some out) : fw_C l y_MO_fresh (.code y_MO_fresh b_MO_fresh 1 (some .int) :: Gw) (fr 2 44) D vwCl (tyA cI cL) [.ref (ad 0)] (wM ad cI cL th ki ce wi ma fo cu gr ru nu gv ca nw lo ke un cn fi fl pa sh od bd bs) (some (.int out.1)) (wM ad cI cL out.2.1 ki ce wi ma fo cu gr ru nu gv out.2.2 nw lo ke un cn fi fl pa sh od bd bs) := by
  refine fw_of (by decide) (Nat.le_of_ble_eq_true rfl) ?_
  intro p e s m args below meth c ls A R Q hR hQ S hr hlk hX hA hl hw
  have hK := hX.1
  have hx := S.1
  have hb := S.2.1
  have hown := S.2.2.2.1
  have hg := S.2.2.2.2
  have hl : lv_has ls 1 [(0, .ref (ad 0))] := hl
  unfold mi_MO_fresh at h
  refine lv_aload_n hx hb d_MO_fresh_0 rfl (lv_at hl 0 rfl) ?_
  refine lv_iconst (v := 0) hx hb d_MO_fresh_1 (by decide) ?_
  refine va_put (ci := 6) (v := .int (0 : Int32)) (ty := .int) (C := R_MO) (T := F_MO) (N := 24) hx hb hg in_MO t_MO t_MO_ok n_MO hown hK hw.1 hw.2.1 hw.2.2 0 rfl rfl 0 (by decide) (hg _ q_749) (fun _ h9 => h9) rfl (by decide +kernel) rfl rfl (Nat.le_of_ble_eq_true rfl) d_MO_fresh_2 (fun H locs hP hD hS => ?_)
  have hw : fw_H D vwCl A s.heap (wM ad cI cL (0 : Int32) ki ce wi ma fo cu gr ru nu gv ca nw lo ke un cn fi fl pa sh od bd bs) H locs := ⟨hP, hD, hS⟩
  refine lv_aload_n hx hb d_MO_fresh_5 rfl (lv_at hl 0 rfl) ?_
  refine ob h (fun r6 h6 h => ?_)
  refine fw_callV (As := []) (rest := []) (st1 := []) S (ct_MO_refresh l D ad cI cL N (0 : Int32) ki ce wi ma fo cu gr ru nu gv ca nw lo ke un cn fi fl pa sh od bd bs r6 h6) q_741 q_743 s_18 q_10 k_MO_refresh hd_MO_refresh ⟨by rw [hR]; decide, by rw [hR]; decide⟩ rfl rfl hX hw hA 0 (ci := 6) rfl rfl hl.1 rfl rfl (Nat.le_of_ble_eq_true rfl) d_MO_fresh_6 ⟨Nat.zero_le _, Nat.zero_le _⟩ rfl (fun H locs hw => ?_)
  refine lv_aload_n hx hb d_MO_fresh_9 rfl (lv_at hl 0 rfl) ?_
  refine ob h (fun r10 h10 h => ?_)
  refine fw_callV (As := []) (rest := []) (st1 := [.int r10]) S (ct_MO_countAll l D ad cI cL N (0 : Int32) ki ce wi ma fo cu gr ru nu gv r6 nw lo ke un cn fi fl pa sh od bd bs r10 h10) q_912 q_914 s_30 q_10 k_MO_countAll hd_MO_countAll ⟨by rw [hR]; decide, by rw [hR]; decide⟩ rfl rfl hX hw hA 0 (ci := 6) rfl rfl hl.1 rfl rfl (Nat.le_of_ble_eq_true rfl) d_MO_fresh_10 ⟨Nat.zero_le _, Nat.zero_le _⟩ rfl (fun H locs hw => ?_)
  have q := Option.some.inj h
  subst q
  exact fw_iret hQ S hr hlk hX hw d_MO_fresh_13
set_option maxHeartbeats 4000000 in
set_option maxRecDepth 100000 in
theorem ct_MO_reason (l : Launch) (D : va_G) (ad : Nat → Nat) (cI cL : ClassId) (N : Nat) (th : Int32) (ki : Int32) (ce : Int32) (wi : Int32) (ma : Int32) (fo : Int32) (cu : Nat → Int32) (gr : Nat → Int32) (ru : Nat → Int32) (nu : Nat → Int32) (gv : Nat → Int32) (ca : Nat → Int32) (nw : Nat → Int32) (lo : Nat → Int32) (ke : Nat → Int32) (un : Nat → Int32) (cn : Nat → Int32) (fi : Nat → Int32) (fl : Nat → Int32) (pa : Nat → Int32) (sh : Nat → Int32) (od : Nat → Int32) (bd : Nat → Int32) (bs : Nat → Int32) (u1 : Int32) (out : Int32 × Int32 × Int32 × (Nat → Int32) × (Nat → Int32) × (Nat → Int32) × (Nat → Int32) × (Nat → Int32) × (Nat → Int32)) (h : mi_MO_reason N th ki ce wi ma cu gr ru nu ca nw lo ke un cn sh bd bs u1 = some out) : fw_C l y_MO_reason (.code y_MO_reason b_MO_reason 3 (some .int) :: Gw) (fr 7 161) D vwCl (tyA cI cL) [.ref (ad 0), .int u1] (wM ad cI cL th ki ce wi ma fo cu gr ru nu gv ca nw lo ke un cn fi fl pa sh od bd bs) (some (.int out.1)) (wM ad cI cL out.2.1 ki ce wi out.2.2.1 fo cu gr ru nu gv out.2.2.2.1 out.2.2.2.2.1 out.2.2.2.2.2.1 out.2.2.2.2.2.2.1 out.2.2.2.2.2.2.2.1 out.2.2.2.2.2.2.2.2 fi fl pa sh od bd bs) := by
  refine fw_of (by decide) (Nat.le_of_ble_eq_true rfl) ?_
  intro p e s m args below meth c ls A R Q hR hQ S hr hlk hX hA hl hw
  have hK := hX.1
  have hx := S.1
  have hb := S.2.1
  have hown := S.2.2.2.1
  have hg := S.2.2.2.2
  have hl : lv_has ls 3 [(0, .ref (ad 0)), (1, .int u1)] := hl
  unfold mi_MO_reason at h
  refine lv_aload_n hx hb d_MO_reason_0 rfl (lv_at hl 0 rfl) ?_
  refine lv_iload_n hx hb d_MO_reason_1 rfl (lv_at hl 1 rfl) ?_
  refine lv_iconst (v := 1) hx hb d_MO_reason_2 (by decide) ?_
  have J16 : ∀ (j16s1 : Int32), mj_MO_reason_16 N ki ce wi ma cu gr ru nu ca nw lo ke un cn sh bd bs u1 j16s1 = some out → ∀ (ls : Array Slot) (H : Heap) (locs : List Loc), lv_has ls 3 [(0, .ref (ad 0)), (1, .int u1)] → fw_H D vwCl A s.heap (wM ad cI cL th ki ce wi ma fo cu gr ru nu gv ca nw lo ke un cn fi fl pa sh od bd bs) H locs → W p l e R s m args below meth c H locs 0 0 Q (F0 m 16 ls [.int j16s1, .ref (ad 0)]) := by
    intro j16s1 h ls H locs hl hw
    unfold mj_MO_reason_16 at h
    refine va_put (ci := 6) (v := .int j16s1) (ty := .int) (C := R_MO) (T := F_MO) (N := 24) hx hb hg in_MO t_MO t_MO_ok n_MO hown hK hw.1 hw.2.1 hw.2.2 0 rfl rfl 0 (by decide) (hg _ q_749) (fun _ h9 => h9) rfl (by decide +kernel) rfl rfl (Nat.le_of_ble_eq_true rfl) d_MO_reason_16 (fun H locs hP hD hS => ?_)
    have hw : fw_H D vwCl A s.heap (wM ad cI cL j16s1 ki ce wi ma fo cu gr ru nu gv ca nw lo ke un cn fi fl pa sh od bd bs) H locs := ⟨hP, hD, hS⟩
    refine lv_aload_n hx hb d_MO_reason_19 rfl (lv_at hl 0 rfl) ?_
    refine va_get (ci := 6) (v := .int j16s1) (C := R_MO) (T := F_MO) (N := 24) hx hb hg in_MO hown hK hw.1 0 rfl rfl 0 (by decide) (hg _ q_749) (fun _ h9 => h9) rfl d_MO_reason_20 ?_
    refine lv_if_eq (tgt := 28) hx hb d_MO_reason_23 (by decide) (fun hc => ?_) (fun hc => ?_)
    · have h := oi h hc
      refine lv_iconst (v := 0) hx hb d_MO_reason_28 (by decide) ?_
      refine lv_istore_n (lv' := [(2, .int (0 : Int32)), (0, .ref (ad 0)), (1, .int u1)]) hx hb d_MO_reason_29 rfl hl (by decide) rfl (fun ls hl => ?_)
      have X30 : ∀ (y30 : Int32 × (Nat → Int32)), mr_MO_reason_30 N ki ce wi ma cu gr ru nu ca lo ke un cn sh bd bs u1 j16s1 y30 = some out → ∀ (ls : Array Slot) (H : Heap) (locs : List Loc), lv_has ls 3 [(0, .ref (ad 0)), (1, .int u1)] → fw_H D vwCl A s.heap (wM ad cI cL j16s1 ki ce wi ma fo cu gr ru nu gv ca y30.2 lo ke un cn fi fl pa sh od bd bs) H locs → W p l e R s m args below meth c H locs 0 0 Q (F0 m 56 ls []) := by
        intro y30 h ls H locs hl hw
        unfold mr_MO_reason_30 at h
        refine lv_iload_n hx hb d_MO_reason_56 rfl (lv_at hl 1 rfl) ?_
        refine lv_iconst (v := 1) hx hb d_MO_reason_57 (by decide) ?_
        have J72 : ∀ (j72ma : Int32) (j72nw : Nat → Int32) (j72lo : Nat → Int32) (j72ke : Nat → Int32) (j72un : Nat → Int32) (j72cn : Nat → Int32), mj_MO_reason_72 N ce ca j16s1 j72ma j72nw j72lo j72ke j72un j72cn = some out → ∀ (ls : Array Slot) (H : Heap) (locs : List Loc), lv_has ls 3 [(0, .ref (ad 0))] → fw_H D vwCl A s.heap (wM ad cI cL j16s1 ki ce wi j72ma fo cu gr ru nu gv ca j72nw j72lo j72ke j72un j72cn fi fl pa sh od bd bs) H locs → W p l e R s m args below meth c H locs 0 0 Q (F0 m 72 ls []) := by
          intro j72ma j72nw j72lo j72ke j72un j72cn h ls H locs hl hw
          unfold mj_MO_reason_72 at h
          refine lv_iconst (v := 0) hx hb d_MO_reason_72 (by decide) ?_
          refine lv_istore_n (lv' := [(2, .int (0 : Int32)), (0, .ref (ad 0))]) hx hb d_MO_reason_73 rfl hl (by decide) rfl (fun ls hl => ?_)
          have X74 : ∀ (y74 : Int32 × (Nat → Int32)), mr_MO_reason_74 N ce j16s1 j72ma j72nw j72lo j72ke j72un j72cn y74 = some out → ∀ (ls : Array Slot) (H : Heap) (locs : List Loc), lv_has ls 3 [(0, .ref (ad 0))] → fw_H D vwCl A s.heap (wM ad cI cL j16s1 ki ce wi j72ma fo cu gr ru nu gv y74.2 j72nw j72lo j72ke j72un j72cn fi fl pa sh od bd bs) H locs → W p l e R s m args below meth c H locs 0 0 Q (F0 m 100 ls []) := by
            intro y74 h ls H locs hl hw
            unfold mr_MO_reason_74 at h
            refine lv_aload_n hx hb d_MO_reason_100 rfl (lv_at hl 0 rfl) ?_
            refine ob h (fun r101 h101 h => ?_)
            refine fw_callV (As := []) (rest := []) (st1 := [.int r101]) S (ct_MO_countAll l D ad cI cL N j16s1 ki ce wi j72ma fo cu gr ru nu gv y74.2 j72nw j72lo j72ke j72un j72cn fi fl pa sh od bd bs r101 h101) q_912 q_914 s_30 q_10 k_MO_countAll hd_MO_countAll ⟨by rw [hR]; decide, by rw [hR]; decide⟩ rfl rfl hX hw hA 0 (ci := 6) rfl rfl hl.1 rfl rfl (Nat.le_of_ble_eq_true rfl) d_MO_reason_101 ⟨Nat.zero_le _, Nat.zero_le _⟩ rfl (fun H locs hw => ?_)
            have q := Option.some.inj h
            subst q
            exact fw_iret hQ S hr hlk hX hw d_MO_reason_104
          have L74 : ∀ (n74 : Nat) (x74 : Int32 × (Nat → Int32)) (e74 : Int32 × (Nat → Int32)), lp (mb_MO_reason_74 ce j72nw) n74 x74 = some e74 → (mr_MO_reason_74 N ce j16s1 j72ma j72nw j72lo j72ke j72un j72cn) e74 = some out → ∀ (ls : Array Slot) (H : Heap) (locs : List Loc), lv_has ls 3 [(0, .ref (ad 0)), (2, .int x74.1)] → fw_H D vwCl A s.heap (wM ad cI cL j16s1 ki ce wi j72ma fo cu gr ru nu gv x74.2 j72nw j72lo j72ke j72un j72cn fi fl pa sh od bd bs) H locs → W p l e R s m args below meth c H locs 0 0 Q (F0 m 74 ls []) := by
            intro n74
            induction n74 with
            | zero => intro x74 e74 h1; exact absurd h1 lp_0
            | succ n74 ih74 =>
              intro x74 e74 h1 hr74 ls H locs hl hw
              rw [lp_s] at h1
              refine ob h1 (fun r74 h hk74 => ?_)
              unfold mb_MO_reason_74 at h
              refine lv_iload_n hx hb d_MO_reason_74 rfl (lv_at hl 1 rfl) ?_
              refine lv_aload_n hx hb d_MO_reason_75 rfl (lv_at hl 0 rfl) ?_
              refine va_get (ci := 6) (v := .int ce) (C := R_MO) (T := F_MO) (N := 24) hx hb hg in_MO hown hK hw.1 0 rfl rfl 2 (by decide) (hg _ q_751) (fun _ h9 => h9) rfl d_MO_reason_76 ?_
              refine lv_icmp_ge (tgt := 100) hx hb d_MO_reason_79 (by decide) (fun hc => ?_) (fun hc => ?_)
              · have h := oi h hc
                have q := Option.some.inj h
                subst q
                have q := Option.some.inj hk74
                subst q
                exact X74 (x74.1, x74.2) hr74 _ _ _ (lv_sub hl [0] rfl) hw
              · have h := oe h hc
                refine lv_aload_n hx hb d_MO_reason_82 rfl (lv_at hl 0 rfl) ?_
                refine va_get (ci := 6) (v := .ref (ad 6)) (C := R_MO) (T := F_MO) (N := 24) hx hb hg in_MO hown hK hw.1 0 rfl rfl 9 (by decide) (hg _ q_758) (fun _ h9 => h9) rfl d_MO_reason_83 ?_
                refine lv_iload_n hx hb d_MO_reason_86 rfl (lv_at hl 1 rfl) ?_
                refine lv_aload_n hx hb d_MO_reason_87 rfl (lv_at hl 0 rfl) ?_
                refine va_get (ci := 6) (v := .ref (ad 7)) (C := R_MO) (T := F_MO) (N := 24) hx hb hg in_MO hown hK hw.1 0 rfl rfl 10 (by decide) (hg _ q_759) (fun _ h9 => h9) rfl d_MO_reason_88 ?_
                refine lv_iload_n hx hb d_MO_reason_91 rfl (lv_at hl 1 rfl) ?_
                refine oc h (fun hc1 h => ?_)
                refine va_iald hx hb hK hw.1 7 0 rfl rfl hc1 d_MO_reason_92 ?_
                refine va_iast hx hb hK hw.1 hw.2.1 hw.2.2 6 0 rfl rfl hc1 d_MO_reason_93 (fun H locs hP hD hS => ?_)
                have hw : fw_H D vwCl A s.heap (wM ad cI cL j16s1 ki ce wi j72ma fo cu gr ru nu gv (upd x74.2 x74.1.toNatClampNeg (j72nw x74.1.toNatClampNeg)) j72nw j72lo j72ke j72un j72cn fi fl pa sh od bd bs) H locs := ⟨hP, hD, hS⟩
                refine lv_iinc (k := 1) (v := x74.1 + 1) (lv' := [(2, .int (x74.1 + 1)), (0, .ref (ad 0))]) hx hb d_MO_reason_94 hl rfl (by rw [lit1]) (by decide) rfl (fun ls hl => ?_)
                refine lv_goto (tgt := 74) hx hb d_MO_reason_97 (by decide) ?_
                have q := Option.some.inj h
                subst q
                exact ih74 (x74.1 + 1, upd x74.2 x74.1.toNatClampNeg (j72nw x74.1.toNatClampNeg)) e74 hk74 hr74 _ _ _ (lv_sub hl [1, 0] rfl) hw
          refine ob h (fun e74 h1 h2 => ?_)
          exact L74 N ((0 : Int32), ca) e74 h1 h2 _ _ _ (lv_sub hl [1, 0] rfl) hw
        refine lv_icmp_ne (tgt := 68) hx hb d_MO_reason_58 (by decide) (fun hc => ?_) (fun hc => ?_)
        · have h := oe h hc
          refine lv_aload_n hx hb d_MO_reason_68 rfl (lv_at hl 0 rfl) ?_
          refine ob h (fun r69 h69 h => ?_)
          refine fw_callV (As := []) (rest := []) (st1 := []) S (ct_MO_reasonByBoth l D ad cI cL N j16s1 ki ce wi ma fo cu gr ru nu gv ca y30.2 lo ke un cn fi fl pa sh od bd bs r69 h69) q_976 q_978 s_45 q_10 k_MO_reasonByBoth hd_MO_reasonByBoth ⟨by rw [hR]; decide, by rw [hR]; decide⟩ rfl rfl hX hw hA 0 (ci := 6) rfl rfl hl.1 rfl rfl (Nat.le_of_ble_eq_true rfl) d_MO_reason_69 ⟨Nat.zero_le _, Nat.zero_le _⟩ rfl (fun H locs hw => ?_)
          exact J72 r69.1 r69.2.1 r69.2.2.1 r69.2.2.2.1 r69.2.2.2.2.1 r69.2.2.2.2.2 h _ _ _ (lv_sub hl [0] rfl) hw
        · have h := oi h hc
          refine lv_aload_n hx hb d_MO_reason_61 rfl (lv_at hl 0 rfl) ?_
          refine ob h (fun r62 h62 h => ?_)
          refine fw_callV (As := []) (rest := []) (st1 := []) S (ct_MO_reasonByOne l D ad cI cL N j16s1 ki ce wi ma fo cu gr ru nu gv ca y30.2 lo ke un cn fi fl pa sh od bd bs r62 h62) q_920 q_922 s_31 q_10 k_MO_reasonByOne hd_MO_reasonByOne ⟨by rw [hR]; decide, by rw [hR]; decide⟩ rfl rfl hX hw hA 0 (ci := 6) rfl rfl hl.1 rfl rfl (Nat.le_of_ble_eq_true rfl) d_MO_reason_62 ⟨Nat.zero_le _, Nat.zero_le _⟩ rfl (fun H locs hw => ?_)
          refine lv_goto (tgt := 72) hx hb d_MO_reason_65 (by decide) ?_
          exact J72 r62.1 r62.2.1 r62.2.2.1 ke r62.2.2.2.1 r62.2.2.2.2 h _ _ _ (lv_sub hl [0] rfl) hw
      have L30 : ∀ (n30 : Nat) (x30 : Int32 × (Nat → Int32)) (e30 : Int32 × (Nat → Int32)), lp (mb_MO_reason_30 ce ca) n30 x30 = some e30 → (mr_MO_reason_30 N ki ce wi ma cu gr ru nu ca lo ke un cn sh bd bs u1 j16s1) e30 = some out → ∀ (ls : Array Slot) (H : Heap) (locs : List Loc), lv_has ls 3 [(0, .ref (ad 0)), (1, .int u1), (2, .int x30.1)] → fw_H D vwCl A s.heap (wM ad cI cL j16s1 ki ce wi ma fo cu gr ru nu gv ca x30.2 lo ke un cn fi fl pa sh od bd bs) H locs → W p l e R s m args below meth c H locs 0 0 Q (F0 m 30 ls []) := by
        intro n30
        induction n30 with
        | zero => intro x30 e30 h1; exact absurd h1 lp_0
        | succ n30 ih30 =>
          intro x30 e30 h1 hr30 ls H locs hl hw
          rw [lp_s] at h1
          refine ob h1 (fun r30 h hk30 => ?_)
          unfold mb_MO_reason_30 at h
          refine lv_iload_n hx hb d_MO_reason_30 rfl (lv_at hl 2 rfl) ?_
          refine lv_aload_n hx hb d_MO_reason_31 rfl (lv_at hl 0 rfl) ?_
          refine va_get (ci := 6) (v := .int ce) (C := R_MO) (T := F_MO) (N := 24) hx hb hg in_MO hown hK hw.1 0 rfl rfl 2 (by decide) (hg _ q_751) (fun _ h9 => h9) rfl d_MO_reason_32 ?_
          refine lv_icmp_ge (tgt := 56) hx hb d_MO_reason_35 (by decide) (fun hc => ?_) (fun hc => ?_)
          · have h := oi h hc
            have q := Option.some.inj h
            subst q
            have q := Option.some.inj hk30
            subst q
            exact X30 (x30.1, x30.2) hr30 _ _ _ (lv_sub hl [0, 1] rfl) hw
          · have h := oe h hc
            refine lv_aload_n hx hb d_MO_reason_38 rfl (lv_at hl 0 rfl) ?_
            refine va_get (ci := 6) (v := .ref (ad 7)) (C := R_MO) (T := F_MO) (N := 24) hx hb hg in_MO hown hK hw.1 0 rfl rfl 10 (by decide) (hg _ q_759) (fun _ h9 => h9) rfl d_MO_reason_39 ?_
            refine lv_iload_n hx hb d_MO_reason_42 rfl (lv_at hl 2 rfl) ?_
            refine lv_aload_n hx hb d_MO_reason_43 rfl (lv_at hl 0 rfl) ?_
            refine va_get (ci := 6) (v := .ref (ad 6)) (C := R_MO) (T := F_MO) (N := 24) hx hb hg in_MO hown hK hw.1 0 rfl rfl 9 (by decide) (hg _ q_758) (fun _ h9 => h9) rfl d_MO_reason_44 ?_
            refine lv_iload_n hx hb d_MO_reason_47 rfl (lv_at hl 2 rfl) ?_
            refine oc h (fun hc2 h => ?_)
            refine va_iald hx hb hK hw.1 6 0 rfl rfl hc2 d_MO_reason_48 ?_
            refine va_iast hx hb hK hw.1 hw.2.1 hw.2.2 7 0 rfl rfl hc2 d_MO_reason_49 (fun H locs hP hD hS => ?_)
            have hw : fw_H D vwCl A s.heap (wM ad cI cL j16s1 ki ce wi ma fo cu gr ru nu gv ca (upd x30.2 x30.1.toNatClampNeg (ca x30.1.toNatClampNeg)) lo ke un cn fi fl pa sh od bd bs) H locs := ⟨hP, hD, hS⟩
            refine lv_iinc (k := 2) (v := x30.1 + 1) (lv' := [(2, .int (x30.1 + 1)), (0, .ref (ad 0)), (1, .int u1)]) hx hb d_MO_reason_50 hl rfl (by rw [lit1]) (by decide) rfl (fun ls hl => ?_)
            refine lv_goto (tgt := 30) hx hb d_MO_reason_53 (by decide) ?_
            have q := Option.some.inj h
            subst q
            exact ih30 (x30.1 + 1, upd x30.2 x30.1.toNatClampNeg (ca x30.1.toNatClampNeg)) e30 hk30 hr30 _ _ _ (lv_sub hl [1, 2, 0] rfl) hw
      refine ob h (fun e30 h1 h2 => ?_)
      exact L30 N ((0 : Int32), nw) e30 h1 h2 _ _ _ (lv_sub hl [1, 2, 0] rfl) hw
    · have h := oe h hc
      refine lv_iconst (v := 0) hx hb d_MO_reason_26 (by decide) ?_
      have q := Option.some.inj h
      subst q
      exact fw_iret hQ S hr hlk hX hw d_MO_reason_27
  refine lv_icmp_lt (tgt := 11) hx hb d_MO_reason_3 (by decide) (fun hc => ?_) (fun hc => ?_)
  · have h := oi h hc
    refine lv_iconst (v := 1) hx hb d_MO_reason_11 (by decide) ?_
    refine lv_goto (tgt := 16) hx hb d_MO_reason_12 (by decide) ?_
    exact J16 (1 : Int32) h _ _ _ hl hw
  · have h := oe h hc
    refine lv_iload_n hx hb d_MO_reason_6 rfl (lv_at hl 1 rfl) ?_
    refine lv_iconst (v := 2) hx hb d_MO_reason_7 (by decide) ?_
    refine lv_icmp_le (tgt := 15) hx hb d_MO_reason_8 (by decide) (fun hc => ?_) (fun hc => ?_)
    · have h := oi h hc
      refine lv_iconst (v := 0) hx hb d_MO_reason_15 (by decide) ?_
      exact J16 (0 : Int32) h _ _ _ hl hw
    · have h := oe h hc
      refine lv_iconst (v := 1) hx hb d_MO_reason_11 (by decide) ?_
      refine lv_goto (tgt := 16) hx hb d_MO_reason_12 (by decide) ?_
      exact J16 (1 : Int32) h _ _ _ hl hw
set_option maxHeartbeats 4000000 in
set_option maxRecDepth 100000 in
theorem ct_MO_candidates (l : Launch) (D : va_G) (ad : Nat → Nat) (cI cL : ClassId) (N : Nat) (th : Int32) (ki : Int32) (ce : Int32) (wi : Int32) (ma : Int32) (fo : Int32) (cu : Nat → Int32) (gr : Nat → Int32) (ru : Nat → Int32) (nu : Nat → Int32) (gv : Nat → Int32) (ca : Nat → Int32) (nw : Nat → Int32) (lo : Nat → Int32) (ke : Nat → Int32) (un : Nat → Int32) (cn : Nat → Int32) (fi : Nat → Int32) (fl : Nat → Int32) (pa : Nat → Int32) (sh : Nat → Int32) (od : Nat → Int32) (bd : Nat → Int32) (bs : Nat → Int32) (u1 : Int32) (out : Int32 × Int32) (h : mi_MO_candidates N th ce ca u1 = some out) : fw_C l y_MO_candidates (.code y_MO_candidates b_MO_candidates 2 (some .int) :: Gw) (fr 1 21) D vwCl (tyA cI cL) [.ref (ad 0), .int u1] (wM ad cI cL th ki ce wi ma fo cu gr ru nu gv ca nw lo ke un cn fi fl pa sh od bd bs) (some (.int out.1)) (wM ad cI cL out.2 ki ce wi ma fo cu gr ru nu gv ca nw lo ke un cn fi fl pa sh od bd bs) := by
  refine fw_of (by decide) (Nat.le_of_ble_eq_true rfl) ?_
  intro p e s m args below meth c ls A R Q hR hQ S hr hlk hX hA hl hw
  have hK := hX.1
  have hx := S.1
  have hb := S.2.1
  have hown := S.2.2.2.1
  have hg := S.2.2.2.2
  have hl : lv_has ls 2 [(0, .ref (ad 0)), (1, .int u1)] := hl
  unfold mi_MO_candidates at h
  refine lv_aload_n hx hb d_MO_candidates_0 rfl (lv_at hl 0 rfl) ?_
  refine lv_aload_n hx hb d_MO_candidates_1 rfl (lv_at hl 0 rfl) ?_
  refine lv_iload_n hx hb d_MO_candidates_2 rfl (lv_at hl 1 rfl) ?_
  refine ob h (fun r3 h3 h => ?_)
  refine fw_callV (As := [.int u1]) (rest := [.ref (ad 0)]) (st1 := [.int r3, .ref (ad 0)]) S (ct_MO_noCell l D ad cI cL N th ki ce wi ma fo cu gr ru nu gv ca nw lo ke un cn fi fl pa sh od bd bs u1 r3 h3) q_845 q_847 s_20 q_10 k_MO_noCell hd_MO_noCell ⟨by rw [hR]; decide, by rw [hR]; decide⟩ rfl rfl hX hw hA 0 (ci := 6) rfl rfl hl.1 rfl rfl (Nat.le_of_ble_eq_true rfl) d_MO_candidates_3 ⟨Nat.zero_le _, Nat.zero_le _⟩ rfl (fun H locs hw => ?_)
  have J14 : ∀ (j14s1 : Int32), mj_MO_candidates_14 ca u1 j14s1 = some out → ∀ (ls : Array Slot) (H : Heap) (locs : List Loc), lv_has ls 2 [(0, .ref (ad 0)), (1, .int u1)] → fw_H D vwCl A s.heap (wM ad cI cL th ki ce wi ma fo cu gr ru nu gv ca nw lo ke un cn fi fl pa sh od bd bs) H locs → W p l e R s m args below meth c H locs 0 0 Q (F0 m 14 ls [.int j14s1, .ref (ad 0)]) := by
    intro j14s1 h ls H locs hl hw
    unfold mj_MO_candidates_14 at h
    refine va_put (ci := 6) (v := .int j14s1) (ty := .int) (C := R_MO) (T := F_MO) (N := 24) hx hb hg in_MO t_MO t_MO_ok n_MO hown hK hw.1 hw.2.1 hw.2.2 0 rfl rfl 0 (by decide) (hg _ q_749) (fun _ h9 => h9) rfl (by decide +kernel) rfl rfl (Nat.le_of_ble_eq_true rfl) d_MO_candidates_14 (fun H locs hP hD hS => ?_)
    have hw : fw_H D vwCl A s.heap (wM ad cI cL j14s1 ki ce wi ma fo cu gr ru nu gv ca nw lo ke un cn fi fl pa sh od bd bs) H locs := ⟨hP, hD, hS⟩
    refine lv_aload_n hx hb d_MO_candidates_17 rfl (lv_at hl 0 rfl) ?_
    refine va_get (ci := 6) (v := .int j14s1) (C := R_MO) (T := F_MO) (N := 24) hx hb hg in_MO hown hK hw.1 0 rfl rfl 0 (by decide) (hg _ q_749) (fun _ h9 => h9) rfl d_MO_candidates_18 ?_
    refine lv_if_ne (tgt := 33) hx hb d_MO_candidates_21 (by decide) (fun hc => ?_) (fun hc => ?_)
    · have h := oe h hc
      refine lv_iconst (v := 0) hx hb d_MO_candidates_33 (by decide) ?_
      have q := Option.some.inj h
      subst q
      exact fw_iret hQ S hr hlk hX hw d_MO_candidates_34
    · have h := oi h hc
      refine lv_aload_n hx hb d_MO_candidates_24 rfl (lv_at hl 0 rfl) ?_
      refine va_get (ci := 6) (v := .ref (ad 6)) (C := R_MO) (T := F_MO) (N := 24) hx hb hg in_MO hown hK hw.1 0 rfl rfl 9 (by decide) (hg _ q_758) (fun _ h9 => h9) rfl d_MO_candidates_25 ?_
      refine lv_iload_n hx hb d_MO_candidates_28 rfl (lv_at hl 1 rfl) ?_
      refine oc h (fun hc1 h => ?_)
      refine va_iald hx hb hK hw.1 6 0 rfl rfl hc1 d_MO_candidates_29 ?_
      refine lv_goto (tgt := 34) hx hb d_MO_candidates_30 (by decide) ?_
      have q := Option.some.inj h
      subst q
      exact fw_iret hQ S hr hlk hX hw d_MO_candidates_34
  refine lv_if_eq (tgt := 13) hx hb d_MO_candidates_6 (by decide) (fun hc => ?_) (fun hc => ?_)
  · have h := oi h hc
    refine lv_iconst (v := 0) hx hb d_MO_candidates_13 (by decide) ?_
    exact J14 (0 : Int32) h _ _ _ hl hw
  · have h := oe h hc
    refine lv_iconst (v := 1) hx hb d_MO_candidates_9 (by decide) ?_
    refine lv_goto (tgt := 14) hx hb d_MO_candidates_10 (by decide) ?_
    exact J14 (1 : Int32) h _ _ _ hl hw
set_option maxHeartbeats 4000000 in
set_option maxRecDepth 100000 in
theorem ct_MO_firstLost (l : Launch) (D : va_G) (ad : Nat → Nat) (cI cL : ClassId) (N : Nat) (th : Int32) (ki : Int32) (ce : Int32) (wi : Int32) (ma : Int32) (fo : Int32) (cu : Nat → Int32) (gr : Nat → Int32) (ru : Nat → Int32) (nu : Nat → Int32) (gv : Nat → Int32) (ca : Nat → Int32) (nw : Nat → Int32) (lo : Nat → Int32) (ke : Nat → Int32) (un : Nat → Int32) (cn : Nat → Int32) (fi : Nat → Int32) (fl : Nat → Int32) (pa : Nat → Int32) (sh : Nat → Int32) (od : Nat → Int32) (bd : Nat → Int32) (bs : Nat → Int32)  (out : Int32) (h : mi_MO_firstLost N ce lo = some out) : fw_C l y_MO_firstLost (.code y_MO_firstLost b_MO_firstLost 3 (some .int) :: Gw) (fr 0 0) D vwCl (tyA cI cL) [.ref (ad 0)] (wM ad cI cL th ki ce wi ma fo cu gr ru nu gv ca nw lo ke un cn fi fl pa sh od bd bs) (some (.int out)) (wM ad cI cL th ki ce wi ma fo cu gr ru nu gv ca nw lo ke un cn fi fl pa sh od bd bs) := by
  refine fw_of (by decide) (Nat.le_of_ble_eq_true rfl) ?_
  intro p e s m args below meth c ls A R Q hR hQ S hr hlk hX hA hl hw
  have hK := hX.1
  have hx := S.1
  have hb := S.2.1
  have hown := S.2.2.2.1
  have hg := S.2.2.2.2
  have hl : lv_has ls 3 [(0, .ref (ad 0))] := hl
  unfold mi_MO_firstLost at h
  refine lv_iconst (v := 0) hx hb d_MO_firstLost_0 (by decide) ?_
  refine lv_istore_n (lv' := [(1, .int (0 : Int32)), (0, .ref (ad 0))]) hx hb d_MO_firstLost_1 rfl hl (by decide) rfl (fun ls hl => ?_)
  have X2 : ∀ (y2 : Int32), mr_MO_firstLost_2 y2 = some out → ∀ (ls : Array Slot) (H : Heap) (locs : List Loc), lv_has ls 3 [] → fw_H D vwCl A s.heap (wM ad cI cL th ki ce wi ma fo cu gr ru nu gv ca nw lo ke un cn fi fl pa sh od bd bs) H locs → W p l e R s m args below meth c H locs 0 0 Q (F0 m 50 ls []) := by
    intro y2 h ls H locs hl hw
    unfold mr_MO_firstLost_2 at h
    refine lv_iconst (v := (-1)) hx hb d_MO_firstLost_50 (by decide) ?_
    have q := Option.some.inj h
    subst q
    exact fw_iret hQ S hr hlk hX hw d_MO_firstLost_51
  have L2 : ∀ (n2 : Nat) (x2 : Int32) (e2 : (Int32) ⊕ (Int32)), lp (mb_MO_firstLost_2 N ce lo) n2 x2 = some e2 → (Sum.elim (mr_MO_firstLost_2) (fun z => some z)) e2 = some out → ∀ (ls : Array Slot) (H : Heap) (locs : List Loc), lv_has ls 3 [(0, .ref (ad 0)), (1, .int x2)] → fw_H D vwCl A s.heap (wM ad cI cL th ki ce wi ma fo cu gr ru nu gv ca nw lo ke un cn fi fl pa sh od bd bs) H locs → W p l e R s m args below meth c H locs 0 0 Q (F0 m 2 ls []) := by
    intro n2
    induction n2 with
    | zero => intro x2 e2 h1; exact absurd h1 lp_0
    | succ n2 ih2 =>
      intro x2 e2 h1 hr2 ls H locs hl hw
      rw [lp_s] at h1
      refine ob h1 (fun r2 h hk2 => ?_)
      unfold mb_MO_firstLost_2 at h
      refine lv_iload_n hx hb d_MO_firstLost_2 rfl (lv_at hl 1 rfl) ?_
      refine lv_aload_n hx hb d_MO_firstLost_3 rfl (lv_at hl 0 rfl) ?_
      refine va_get (ci := 6) (v := .int ce) (C := R_MO) (T := F_MO) (N := 24) hx hb hg in_MO hown hK hw.1 0 rfl rfl 2 (by decide) (hg _ q_751) (fun _ h9 => h9) rfl d_MO_firstLost_4 ?_
      refine lv_icmp_ge (tgt := 50) hx hb d_MO_firstLost_7 (by decide) (fun hc => ?_) (fun hc => ?_)
      · have h := oi h hc
        have q := Option.some.inj h
        subst q
        have q := Option.some.inj hk2
        subst q
        exact X2 x2 hr2 _ _ _ (lv_sub hl [] rfl) hw
      · have h := oe h hc
        refine lv_iconst (v := 0) hx hb d_MO_firstLost_10 (by decide) ?_
        refine lv_istore_n (lv' := [(2, .int (0 : Int32)), (0, .ref (ad 0)), (1, .int x2)]) hx hb d_MO_firstLost_11 rfl hl (by decide) rfl (fun ls hl => ?_)
        have X12 : ∀ (y12 : Int32), mr_MO_firstLost_12 x2 y12 = some r2 → ∀ (ls : Array Slot) (H : Heap) (locs : List Loc), lv_has ls 3 [(0, .ref (ad 0)), (1, .int x2)] → fw_H D vwCl A s.heap (wM ad cI cL th ki ce wi ma fo cu gr ru nu gv ca nw lo ke un cn fi fl pa sh od bd bs) H locs → W p l e R s m args below meth c H locs 0 0 Q (F0 m 44 ls []) := by
          intro y12 h ls H locs hl hw
          unfold mr_MO_firstLost_12 at h
          refine lv_iinc (k := 1) (v := x2 + 1) (lv' := [(1, .int (x2 + 1)), (0, .ref (ad 0))]) hx hb d_MO_firstLost_44 hl rfl (by rw [lit1]) (by decide) rfl (fun ls hl => ?_)
          refine lv_goto (tgt := 2) hx hb d_MO_firstLost_47 (by decide) ?_
          have q := Option.some.inj h
          subst q
          exact ih2 (x2 + 1) e2 hk2 hr2 _ _ _ (lv_sub hl [1, 0] rfl) hw
        have L12 : ∀ (n12 : Nat) (x12 : Int32) (e12 : (Int32) ⊕ (Int32)), lp (mb_MO_firstLost_12 lo x2) n12 x12 = some e12 → (Sum.elim (mr_MO_firstLost_12 x2) (fun z => some (.inr (.inr z)))) e12 = some r2 → ∀ (ls : Array Slot) (H : Heap) (locs : List Loc), lv_has ls 3 [(0, .ref (ad 0)), (1, .int x2), (2, .int x12)] → fw_H D vwCl A s.heap (wM ad cI cL th ki ce wi ma fo cu gr ru nu gv ca nw lo ke un cn fi fl pa sh od bd bs) H locs → W p l e R s m args below meth c H locs 0 0 Q (F0 m 12 ls []) := by
          intro n12
          induction n12 with
          | zero => intro x12 e12 h1; exact absurd h1 lp_0
          | succ n12 ih12 =>
            intro x12 e12 h1 hr12 ls H locs hl hw
            rw [lp_s] at h1
            refine ob h1 (fun r12 h hk12 => ?_)
            unfold mb_MO_firstLost_12 at h
            refine lv_iload_n hx hb d_MO_firstLost_12 rfl (lv_at hl 2 rfl) ?_
            refine lv_iconst (v := 5) hx hb d_MO_firstLost_13 (by decide) ?_
            refine lv_icmp_ge (tgt := 44) hx hb d_MO_firstLost_14 (by decide) (fun hc => ?_) (fun hc => ?_)
            · have h := oi h hc
              have q := Option.some.inj h
              subst q
              have q := Option.some.inj hk12
              subst q
              exact X12 x12 hr12 _ _ _ (lv_sub hl [0, 1] rfl) hw
            · have h := oe h hc
              refine lv_aload_n hx hb d_MO_firstLost_17 rfl (lv_at hl 0 rfl) ?_
              refine va_get (ci := 6) (v := .ref (ad 8)) (C := R_MO) (T := F_MO) (N := 24) hx hb hg in_MO hown hK hw.1 0 rfl rfl 11 (by decide) (hg _ q_760) (fun _ h9 => h9) rfl d_MO_firstLost_18 ?_
              refine lv_iload_n hx hb d_MO_firstLost_21 rfl (lv_at hl 1 rfl) ?_
              refine oc h (fun hc1 h => ?_)
              refine va_iald hx hb hK hw.1 8 0 rfl rfl hc1 d_MO_firstLost_22 ?_
              refine lv_iload_n hx hb d_MO_firstLost_23 rfl (lv_at hl 2 rfl) ?_
              refine lv_ishr hx hb d_MO_firstLost_24 ?_
              refine lv_iconst (v := 1) hx hb d_MO_firstLost_25 (by decide) ?_
              refine lv_iand hx hb d_MO_firstLost_26 ?_
              refine lv_iconst (v := 1) hx hb d_MO_firstLost_27 (by decide) ?_
              refine lv_icmp_ne (tgt := 38) hx hb d_MO_firstLost_28 (by decide) (fun hc => ?_) (fun hc => ?_)
              · have h := oe h hc
                refine lv_iinc (k := 2) (v := x12 + 1) (lv' := [(2, .int (x12 + 1)), (0, .ref (ad 0)), (1, .int x2)]) hx hb d_MO_firstLost_38 hl rfl (by rw [lit1]) (by decide) rfl (fun ls hl => ?_)
                refine lv_goto (tgt := 12) hx hb d_MO_firstLost_41 (by decide) ?_
                have q := Option.some.inj h
                subst q
                exact ih12 (x12 + 1) e12 hk12 hr12 _ _ _ (lv_sub hl [1, 2, 0] rfl) hw
              · have h := oi h hc
                refine lv_bipush (v := 10) hx hb d_MO_firstLost_31 (by decide) ?_
                refine lv_iload_n hx hb d_MO_firstLost_33 rfl (lv_at hl 1 rfl) ?_
                refine lv_imul hx hb d_MO_firstLost_34 ?_
                refine lv_iload_n hx hb d_MO_firstLost_35 rfl (lv_at hl 2 rfl) ?_
                refine lv_iadd hx hb d_MO_firstLost_36 ?_
                have q := Option.some.inj h
                subst q
                have q := Option.some.inj hk12
                subst q
                have q := Option.some.inj hr12
                subst q
                have q := Option.some.inj hk2
                subst q
                have q := Option.some.inj hr2
                subst q
                exact fw_iret hQ S hr hlk hX hw d_MO_firstLost_37
        refine ob h (fun e12 h1 h2 => ?_)
        exact L12 N (0 : Int32) e12 h1 h2 _ _ _ (lv_sub hl [1, 2, 0] rfl) hw
  refine ob h (fun e2 h1 h2 => ?_)
  exact L2 N (0 : Int32) e2 h1 h2 _ _ _ (lv_sub hl [1, 0] rfl) hw
set_option maxHeartbeats 4000000 in
set_option maxRecDepth 100000 in
theorem ct_MO_firstFailing (l : Launch) (D : va_G) (ad : Nat → Nat) (cI cL : ClassId) (N : Nat) (th : Int32) (ki : Int32) (ce : Int32) (wi : Int32) (ma : Int32) (fo : Int32) (cu : Nat → Int32) (gr : Nat → Int32) (ru : Nat → Int32) (nu : Nat → Int32) (gv : Nat → Int32) (ca : Nat → Int32) (nw : Nat → Int32) (lo : Nat → Int32) (ke : Nat → Int32) (un : Nat → Int32) (cn : Nat → Int32) (fi : Nat → Int32) (fl : Nat → Int32) (pa : Nat → Int32) (sh : Nat → Int32) (od : Nat → Int32) (bd : Nat → Int32) (bs : Nat → Int32)  (out : Int32 × Int32 × (Nat → Int32) × (Nat → Int32) × (Nat → Int32) × (Nat → Int32) × (Nat → Int32)) (h : mi_MO_firstFailing N ki ce wi ma cu gr ru nu nw lo ke un cn sh bd bs = some out) : fw_C l y_MO_firstFailing (.code y_MO_firstFailing b_MO_firstFailing 3 (some .int) :: Gw) (fr 6 138) D vwCl (tyA cI cL) [.ref (ad 0)] (wM ad cI cL th ki ce wi ma fo cu gr ru nu gv ca nw lo ke un cn fi fl pa sh od bd bs) (some (.int out.1)) (wM ad cI cL th ki ce wi out.2.1 fo cu gr ru nu gv ca out.2.2.1 out.2.2.2.1 out.2.2.2.2.1 out.2.2.2.2.2.1 out.2.2.2.2.2.2 fi fl pa sh od bd bs) := by
  refine fw_of (by decide) (Nat.le_of_ble_eq_true rfl) ?_
  intro p e s m args below meth c ls A R Q hR hQ S hr hlk hX hA hl hw
  have hK := hX.1
  have hx := S.1
  have hb := S.2.1
  have hown := S.2.2.2.1
  have hg := S.2.2.2.2
  have hl : lv_has ls 3 [(0, .ref (ad 0))] := hl
  unfold mi_MO_firstFailing at h
  refine lv_iconst (v := 0) hx hb d_MO_firstFailing_0 (by decide) ?_
  refine lv_istore_n (lv' := [(1, .int (0 : Int32)), (0, .ref (ad 0))]) hx hb d_MO_firstFailing_1 rfl hl (by decide) rfl (fun ls hl => ?_)
  have X2 : ∀ (y2 : Int32 × Int32 × (Nat → Int32) × (Nat → Int32) × (Nat → Int32) × (Nat → Int32) × (Nat → Int32)), mr_MO_firstFailing_2 y2 = some out → ∀ (ls : Array Slot) (H : Heap) (locs : List Loc), lv_has ls 3 [] → fw_H D vwCl A s.heap (wM ad cI cL th ki ce wi y2.2.1 fo cu gr ru nu gv ca y2.2.2.1 y2.2.2.2.1 y2.2.2.2.2.1 y2.2.2.2.2.2.1 y2.2.2.2.2.2.2 fi fl pa sh od bd bs) H locs → W p l e R s m args below meth c H locs 0 0 Q (F0 m 59 ls []) := by
    intro y2 h ls H locs hl hw
    unfold mr_MO_firstFailing_2 at h
    refine lv_iconst (v := (-1)) hx hb d_MO_firstFailing_59 (by decide) ?_
    have q := Option.some.inj h
    subst q
    exact fw_iret hQ S hr hlk hX hw d_MO_firstFailing_60
  have L2 : ∀ (n2 : Nat) (x2 : Int32 × Int32 × (Nat → Int32) × (Nat → Int32) × (Nat → Int32) × (Nat → Int32) × (Nat → Int32)) (e2 : (Int32 × Int32 × (Nat → Int32) × (Nat → Int32) × (Nat → Int32) × (Nat → Int32) × (Nat → Int32)) ⊕ (Int32 × Int32 × (Nat → Int32) × (Nat → Int32) × (Nat → Int32) × (Nat → Int32) × (Nat → Int32))), lp (mb_MO_firstFailing_2 N ki ce wi cu gr ru nu sh bd bs) n2 x2 = some e2 → (Sum.elim (mr_MO_firstFailing_2) (fun z => some z)) e2 = some out → ∀ (ls : Array Slot) (H : Heap) (locs : List Loc), lv_has ls 3 [(0, .ref (ad 0)), (1, .int x2.1)] → fw_H D vwCl A s.heap (wM ad cI cL th ki ce wi x2.2.1 fo cu gr ru nu gv ca x2.2.2.1 x2.2.2.2.1 x2.2.2.2.2.1 x2.2.2.2.2.2.1 x2.2.2.2.2.2.2 fi fl pa sh od bd bs) H locs → W p l e R s m args below meth c H locs 0 0 Q (F0 m 2 ls []) := by
    intro n2
    induction n2 with
    | zero => intro x2 e2 h1; exact absurd h1 lp_0
    | succ n2 ih2 =>
      intro x2 e2 h1 hr2 ls H locs hl hw
      rw [lp_s] at h1
      refine ob h1 (fun r2 h hk2 => ?_)
      unfold mb_MO_firstFailing_2 at h
      refine lv_iload_n hx hb d_MO_firstFailing_2 rfl (lv_at hl 1 rfl) ?_
      refine lv_aload_n hx hb d_MO_firstFailing_3 rfl (lv_at hl 0 rfl) ?_
      refine va_get (ci := 6) (v := .int ce) (C := R_MO) (T := F_MO) (N := 24) hx hb hg in_MO hown hK hw.1 0 rfl rfl 2 (by decide) (hg _ q_751) (fun _ h9 => h9) rfl d_MO_firstFailing_4 ?_
      refine lv_icmp_ge (tgt := 59) hx hb d_MO_firstFailing_7 (by decide) (fun hc => ?_) (fun hc => ?_)
      · have h := oi h hc
        have q := Option.some.inj h
        subst q
        have q := Option.some.inj hk2
        subst q
        exact X2 (x2.1, x2.2.1, x2.2.2.1, x2.2.2.2.1, x2.2.2.2.2.1, x2.2.2.2.2.2.1, x2.2.2.2.2.2.2) hr2 _ _ _ (lv_sub hl [] rfl) hw
      · have h := oe h hc
        refine lv_iconst (v := 0) hx hb d_MO_firstFailing_10 (by decide) ?_
        refine lv_istore_n (lv' := [(2, .int (0 : Int32)), (0, .ref (ad 0)), (1, .int x2.1)]) hx hb d_MO_firstFailing_11 rfl hl (by decide) rfl (fun ls hl => ?_)
        have X12 : ∀ (y12 : Int32 × Int32 × (Nat → Int32) × (Nat → Int32) × (Nat → Int32) × (Nat → Int32) × (Nat → Int32)), mr_MO_firstFailing_12 x2 y12 = some r2 → ∀ (ls : Array Slot) (H : Heap) (locs : List Loc), lv_has ls 3 [(0, .ref (ad 0)), (1, .int x2.1)] → fw_H D vwCl A s.heap (wM ad cI cL th ki ce wi y12.2.1 fo cu gr ru nu gv ca y12.2.2.1 y12.2.2.2.1 y12.2.2.2.2.1 y12.2.2.2.2.2.1 y12.2.2.2.2.2.2 fi fl pa sh od bd bs) H locs → W p l e R s m args below meth c H locs 0 0 Q (F0 m 53 ls []) := by
          intro y12 h ls H locs hl hw
          unfold mr_MO_firstFailing_12 at h
          refine lv_iinc (k := 1) (v := x2.1 + 1) (lv' := [(1, .int (x2.1 + 1)), (0, .ref (ad 0))]) hx hb d_MO_firstFailing_53 hl rfl (by rw [lit1]) (by decide) rfl (fun ls hl => ?_)
          refine lv_goto (tgt := 2) hx hb d_MO_firstFailing_56 (by decide) ?_
          have q := Option.some.inj h
          subst q
          exact ih2 (x2.1 + 1, y12.2.1, y12.2.2.1, y12.2.2.2.1, y12.2.2.2.2.1, y12.2.2.2.2.2.1, y12.2.2.2.2.2.2) e2 hk2 hr2 _ _ _ (lv_sub hl [1, 0] rfl) hw
        have L12 : ∀ (n12 : Nat) (x12 : Int32 × Int32 × (Nat → Int32) × (Nat → Int32) × (Nat → Int32) × (Nat → Int32) × (Nat → Int32)) (e12 : (Int32 × Int32 × (Nat → Int32) × (Nat → Int32) × (Nat → Int32) × (Nat → Int32) × (Nat → Int32)) ⊕ (Int32 × Int32 × (Nat → Int32) × (Nat → Int32) × (Nat → Int32) × (Nat → Int32) × (Nat → Int32))), lp (mb_MO_firstFailing_12 N ki ce wi cu gr ru nu sh bd bs x2) n12 x12 = some e12 → (Sum.elim (mr_MO_firstFailing_12 x2) (fun z => some (.inr (.inr z)))) e12 = some r2 → ∀ (ls : Array Slot) (H : Heap) (locs : List Loc), lv_has ls 3 [(0, .ref (ad 0)), (1, .int x2.1), (2, .int x12.1)] → fw_H D vwCl A s.heap (wM ad cI cL th ki ce wi x12.2.1 fo cu gr ru nu gv ca x12.2.2.1 x12.2.2.2.1 x12.2.2.2.2.1 x12.2.2.2.2.2.1 x12.2.2.2.2.2.2 fi fl pa sh od bd bs) H locs → W p l e R s m args below meth c H locs 0 0 Q (F0 m 12 ls []) := by
          intro n12
          induction n12 with
          | zero => intro x12 e12 h1; exact absurd h1 lp_0
          | succ n12 ih12 =>
            intro x12 e12 h1 hr12 ls H locs hl hw
            rw [lp_s] at h1
            refine ob h1 (fun r12 h hk12 => ?_)
            unfold mb_MO_firstFailing_12 at h
            refine lv_iload_n hx hb d_MO_firstFailing_12 rfl (lv_at hl 2 rfl) ?_
            refine lv_iconst (v := 5) hx hb d_MO_firstFailing_13 (by decide) ?_
            refine lv_icmp_ge (tgt := 53) hx hb d_MO_firstFailing_14 (by decide) (fun hc => ?_) (fun hc => ?_)
            · have h := oi h hc
              have q := Option.some.inj h
              subst q
              have q := Option.some.inj hk12
              subst q
              exact X12 (x12.1, x12.2.1, x12.2.2.1, x12.2.2.2.1, x12.2.2.2.2.1, x12.2.2.2.2.2.1, x12.2.2.2.2.2.2) hr12 _ _ _ (lv_sub hl [0, 1] rfl) hw
            · have h := oe h hc
              refine lv_aload_n hx hb d_MO_firstFailing_17 rfl (lv_at hl 0 rfl) ?_
              refine va_get (ci := 6) (v := .ref (ad 7)) (C := R_MO) (T := F_MO) (N := 24) hx hb hg in_MO hown hK hw.1 0 rfl rfl 10 (by decide) (hg _ q_759) (fun _ h9 => h9) rfl d_MO_firstFailing_18 ?_
              refine lv_iload_n hx hb d_MO_firstFailing_21 rfl (lv_at hl 1 rfl) ?_
              refine oc h (fun hc1 h => ?_)
              refine va_iald hx hb hK hw.1 7 0 rfl rfl hc1 d_MO_firstFailing_22 ?_
              refine lv_iload_n hx hb d_MO_firstFailing_23 rfl (lv_at hl 2 rfl) ?_
              refine lv_ishr hx hb d_MO_firstFailing_24 ?_
              refine lv_iconst (v := 1) hx hb d_MO_firstFailing_25 (by decide) ?_
              refine lv_iand hx hb d_MO_firstFailing_26 ?_
              refine lv_iconst (v := 1) hx hb d_MO_firstFailing_27 (by decide) ?_
              refine lv_icmp_ne (tgt := 47) hx hb d_MO_firstFailing_28 (by decide) (fun hc => ?_) (fun hc => ?_)
              · have h := oe h hc
                refine lv_iinc (k := 2) (v := x12.1 + 1) (lv' := [(2, .int (x12.1 + 1)), (0, .ref (ad 0)), (1, .int x2.1)]) hx hb d_MO_firstFailing_47 hl rfl (by rw [lit1]) (by decide) rfl (fun ls hl => ?_)
                refine lv_goto (tgt := 12) hx hb d_MO_firstFailing_50 (by decide) ?_
                have q := Option.some.inj h
                subst q
                exact ih12 (x12.1 + 1, x12.2.1, x12.2.2.1, x12.2.2.2.1, x12.2.2.2.2.1, x12.2.2.2.2.2.1, x12.2.2.2.2.2.2) e12 hk12 hr12 _ _ _ (lv_sub hl [1, 2, 0] rfl) hw
              · have h := oi h hc
                refine lv_aload_n hx hb d_MO_firstFailing_31 rfl (lv_at hl 0 rfl) ?_
                refine lv_iload_n hx hb d_MO_firstFailing_32 rfl (lv_at hl 1 rfl) ?_
                refine lv_iload_n hx hb d_MO_firstFailing_33 rfl (lv_at hl 2 rfl) ?_
                refine ob h (fun r34 h34 h => ?_)
                refine fw_callV (As := [.int x2.1, .int x12.1]) (rest := []) (st1 := [.int r34.1]) S (ct_MO_fails l D ad cI cL N th ki ce wi x12.2.1 fo cu gr ru nu gv ca x12.2.2.1 x12.2.2.2.1 x12.2.2.2.2.1 x12.2.2.2.2.2.1 x12.2.2.2.2.2.2 fi fl pa sh od bd bs x2.1 x12.1 r34 h34) q_980 q_982 s_46 q_10 k_MO_fails hd_MO_fails ⟨by rw [hR]; decide, by rw [hR]; decide⟩ rfl rfl hX hw hA 0 (ci := 6) rfl rfl hl.1 rfl rfl (Nat.le_of_ble_eq_true rfl) d_MO_firstFailing_34 ⟨Nat.zero_le _, Nat.zero_le _⟩ rfl (fun H locs hw => ?_)
                refine lv_if_eq (tgt := 47) hx hb d_MO_firstFailing_37 (by decide) (fun hc => ?_) (fun hc => ?_)
                · have h := oi h hc
                  refine lv_iinc (k := 2) (v := x12.1 + 1) (lv' := [(2, .int (x12.1 + 1)), (0, .ref (ad 0)), (1, .int x2.1)]) hx hb d_MO_firstFailing_47 hl rfl (by rw [lit1]) (by decide) rfl (fun ls hl => ?_)
                  refine lv_goto (tgt := 12) hx hb d_MO_firstFailing_50 (by decide) ?_
                  have q := Option.some.inj h
                  subst q
                  exact ih12 (x12.1 + 1, r34.2.1, r34.2.2.1, r34.2.2.2.1, r34.2.2.2.2.1, r34.2.2.2.2.2.1, r34.2.2.2.2.2.2) e12 hk12 hr12 _ _ _ (lv_sub hl [1, 2, 0] rfl) hw
                · have h := oe h hc
                  refine lv_bipush (v := 10) hx hb d_MO_firstFailing_40 (by decide) ?_
                  refine lv_iload_n hx hb d_MO_firstFailing_42 rfl (lv_at hl 1 rfl) ?_
                  refine lv_imul hx hb d_MO_firstFailing_43 ?_
                  refine lv_iload_n hx hb d_MO_firstFailing_44 rfl (lv_at hl 2 rfl) ?_
                  refine lv_iadd hx hb d_MO_firstFailing_45 ?_
                  have q := Option.some.inj h
                  subst q
                  have q := Option.some.inj hk12
                  subst q
                  have q := Option.some.inj hr12
                  subst q
                  have q := Option.some.inj hk2
                  subst q
                  have q := Option.some.inj hr2
                  subst q
                  exact fw_iret hQ S hr hlk hX hw d_MO_firstFailing_46
        refine ob h (fun e12 h1 h2 => ?_)
        exact L12 N ((0 : Int32), x2.2.1, x2.2.2.1, x2.2.2.2.1, x2.2.2.2.2.1, x2.2.2.2.2.2.1, x2.2.2.2.2.2.2) e12 h1 h2 _ _ _ (lv_sub hl [1, 2, 0] rfl) hw
  refine ob h (fun e2 h1 h2 => ?_)
  exact L2 N ((0 : Int32), ma, nw, lo, ke, un, cn) e2 h1 h2 _ _ _ (lv_sub hl [1, 0] rfl) hw
set_option maxHeartbeats 4000000 in
set_option maxRecDepth 100000 in
theorem ct_MO_step (l : Launch) (D : va_G) (ad : Nat → Nat) (cI cL : ClassId) (N : Nat) (th : Int32) (ki : Int32) (ce : Int32) (wi : Int32) (ma : Int32) (fo : Int32) (cu : Nat → Int32) (gr : Nat → Int32) (ru : Nat → Int32) (nu : Nat → Int32) (gv : Nat → Int32) (ca : Nat → Int32) (nw : Nat → Int32) (lo : Nat → Int32) (ke : Nat → Int32) (un : Nat → Int32) (cn : Nat → Int32) (fi : Nat → Int32) (fl : Nat → Int32) (pa : Nat → Int32) (sh : Nat → Int32) (od : Nat → Int32) (bd : Nat → Int32) (bs : Nat → Int32)  (out : Int32 × Int32 × Int32 × (Nat → Int32) × (Nat → Int32) × (Nat → Int32) × (Nat → Int32) × (Nat → Int32) × (Nat → Int32)) (h : mi_MO_step N th ki ce wi ma cu gr ru nu ca nw lo ke un cn sh bd bs = some out) : fw_C l y_MO_step (.code y_MO_step b_MO_step 3 (some .int) :: Gw) (fr 7 160) D vwCl (tyA cI cL) [.ref (ad 0)] (wM ad cI cL th ki ce wi ma fo cu gr ru nu gv ca nw lo ke un cn fi fl pa sh od bd bs) (some (.int out.1)) (wM ad cI cL out.2.1 ki ce wi out.2.2.1 fo cu gr ru nu gv out.2.2.2.1 out.2.2.2.2.1 out.2.2.2.2.2.1 out.2.2.2.2.2.2.1 out.2.2.2.2.2.2.2.1 out.2.2.2.2.2.2.2.2 fi fl pa sh od bd bs) := by
  refine fw_of (by decide) (Nat.le_of_ble_eq_true rfl) ?_
  intro p e s m args below meth c ls A R Q hR hQ S hr hlk hX hA hl hw
  have hK := hX.1
  have hx := S.1
  have hb := S.2.1
  have hown := S.2.2.2.1
  have hg := S.2.2.2.2
  have hl : lv_has ls 3 [(0, .ref (ad 0))] := hl
  unfold mi_MO_step at h
  refine lv_aload_n hx hb d_MO_step_0 rfl (lv_at hl 0 rfl) ?_
  refine lv_iconst (v := 0) hx hb d_MO_step_1 (by decide) ?_
  refine va_put (ci := 6) (v := .int (0 : Int32)) (ty := .int) (C := R_MO) (T := F_MO) (N := 24) hx hb hg in_MO t_MO t_MO_ok n_MO hown hK hw.1 hw.2.1 hw.2.2 0 rfl rfl 0 (by decide) (hg _ q_749) (fun _ h9 => h9) rfl (by decide +kernel) rfl rfl (Nat.le_of_ble_eq_true rfl) d_MO_step_2 (fun H locs hP hD hS => ?_)
  have hw : fw_H D vwCl A s.heap (wM ad cI cL (0 : Int32) ki ce wi ma fo cu gr ru nu gv ca nw lo ke un cn fi fl pa sh od bd bs) H locs := ⟨hP, hD, hS⟩
  refine lv_iconst (v := 0) hx hb d_MO_step_5 (by decide) ?_
  refine lv_istore_n (lv' := [(1, .int (0 : Int32)), (0, .ref (ad 0))]) hx hb d_MO_step_6 rfl hl (by decide) rfl (fun ls hl => ?_)
  have X7 : ∀ (y7 : Int32 × (Nat → Int32)), mr_MO_step_7 N ki ce wi ma cu gr ru nu ca lo ke un cn sh bd bs y7 = some out → ∀ (ls : Array Slot) (H : Heap) (locs : List Loc), lv_has ls 3 [(0, .ref (ad 0))] → fw_H D vwCl A s.heap (wM ad cI cL (0 : Int32) ki ce wi ma fo cu gr ru nu gv ca y7.2 lo ke un cn fi fl pa sh od bd bs) H locs → W p l e R s m args below meth c H locs 0 0 Q (F0 m 33 ls []) := by
    intro y7 h ls H locs hl hw
    unfold mr_MO_step_7 at h
    refine lv_aload_n hx hb d_MO_step_33 rfl (lv_at hl 0 rfl) ?_
    refine ob h (fun r34 h34 h => ?_)
    refine fw_callV (As := []) (rest := []) (st1 := [.int r34.1]) S (ct_MO_look l D ad cI cL N (0 : Int32) ki ce wi ma fo cu gr ru nu gv ca y7.2 lo ke un cn fi fl pa sh od bd bs r34 h34) q_924 q_926 s_32 q_10 k_MO_look hd_MO_look ⟨by rw [hR]; decide, by rw [hR]; decide⟩ rfl rfl hX hw hA 0 (ci := 6) rfl rfl hl.1 rfl rfl (Nat.le_of_ble_eq_true rfl) d_MO_step_34 ⟨Nat.zero_le _, Nat.zero_le _⟩ rfl (fun H locs hw => ?_)
    have J45 : ∀ (j45s0 : Int32), mj_MO_step_45 N ki ce wi cu gr ru nu ca ke sh bd bs y7 r34 j45s0 = some out → ∀ (ls : Array Slot) (H : Heap) (locs : List Loc), lv_has ls 3 [(0, .ref (ad 0))] → fw_H D vwCl A s.heap (wM ad cI cL (0 : Int32) ki ce wi r34.2.1 fo cu gr ru nu gv ca y7.2 r34.2.2.1 ke r34.2.2.2.1 r34.2.2.2.2 fi fl pa sh od bd bs) H locs → W p l e R s m args below meth c H locs 0 0 Q (F0 m 45 ls [.int j45s0]) := by
      intro j45s0 h ls H locs hl hw
      unfold mj_MO_step_45 at h
      refine lv_istore_n (lv' := [(1, .int j45s0), (0, .ref (ad 0))]) hx hb d_MO_step_45 rfl hl (by decide) rfl (fun ls hl => ?_)
      refine lv_iload_n hx hb d_MO_step_46 rfl (lv_at hl 0 rfl) ?_
      refine lv_iconst (v := 1) hx hb d_MO_step_47 (by decide) ?_
      have J62 : ∀ (j62s0 : Int32) (j62ma : Int32) (j62nw : Nat → Int32) (j62lo : Nat → Int32) (j62ke : Nat → Int32) (j62un : Nat → Int32) (j62cn : Nat → Int32), mj_MO_step_62 ca j45s0 j62s0 j62ma j62nw j62lo j62ke j62un j62cn = some out → ∀ (ls : Array Slot) (H : Heap) (locs : List Loc), lv_has ls 3 [(0, .ref (ad 0)), (1, .int j45s0)] → fw_H D vwCl A s.heap (wM ad cI cL (0 : Int32) ki ce wi j62ma fo cu gr ru nu gv ca j62nw j62lo j62ke j62un j62cn fi fl pa sh od bd bs) H locs → W p l e R s m args below meth c H locs 0 0 Q (F0 m 62 ls [.int j62s0]) := by
        intro j62s0 j62ma j62nw j62lo j62ke j62un j62cn h ls H locs hl hw
        unfold mj_MO_step_62 at h
        refine lv_istore_n (lv' := [(2, .int j62s0), (0, .ref (ad 0)), (1, .int j45s0)]) hx hb d_MO_step_62 rfl hl (by decide) rfl (fun ls hl => ?_)
        refine lv_iload_n hx hb d_MO_step_63 rfl (lv_at hl 0 rfl) ?_
        refine lv_if_ge (tgt := 69) hx hb d_MO_step_64 (by decide) (fun hc => ?_) (fun hc => ?_)
        · have h := oi h hc
          refine lv_aload_n hx hb d_MO_step_69 rfl (lv_at hl 1 rfl) ?_
          refine va_get (ci := 6) (v := .ref (ad 6)) (C := R_MO) (T := F_MO) (N := 24) hx hb hg in_MO hown hK hw.1 0 rfl rfl 9 (by decide) (hg _ q_758) (fun _ h9 => h9) rfl d_MO_step_70 ?_
          refine lv_iload_n hx hb d_MO_step_73 rfl (lv_at hl 0 rfl) ?_
          refine lv_bipush (v := 10) hx hb d_MO_step_74 (by decide) ?_
          refine lv_idiv hx hb d_MO_step_76 (by decide) ?_
          refine lv_dup2_11 hx hb d_MO_step_77 rfl rfl ?_
          refine oc h (fun hc1 h => ?_)
          refine va_iald hx hb hK hw.1 6 0 rfl rfl hc1 d_MO_step_78 ?_
          refine lv_iconst (v := 1) hx hb d_MO_step_79 (by decide) ?_
          refine lv_iload_n hx hb d_MO_step_80 rfl (lv_at hl 0 rfl) ?_
          refine lv_bipush (v := 10) hx hb d_MO_step_81 (by decide) ?_
          refine lv_irem hx hb d_MO_step_83 (by decide) ?_
          refine lv_ishl hx hb d_MO_step_84 ?_
          refine lv_iconst (v := (-1)) hx hb d_MO_step_85 (by decide) ?_
          refine lv_ixor hx hb d_MO_step_86 ?_
          refine lv_iand hx hb d_MO_step_87 ?_
          refine va_iast hx hb hK hw.1 hw.2.1 hw.2.2 6 0 rfl rfl hc1 d_MO_step_88 (fun H locs hP hD hS => ?_)
          have hw : fw_H D vwCl A s.heap (wM ad cI cL (0 : Int32) ki ce wi j62ma fo cu gr ru nu gv (upd ca (j62s0 / (10 : Int32)).toNatClampNeg ((ca (j62s0 / (10 : Int32)).toNatClampNeg) &&& (((1 : Int32) <<< ((j62s0 - j62s0 / (10 : Int32) * (10 : Int32)) &&& 31)) ^^^ (-1 : Int32)))) j62nw j62lo j62ke j62un j62cn fi fl pa sh od bd bs) H locs := ⟨hP, hD, hS⟩
          refine lv_sipush (v := 1000) hx hb d_MO_step_89 (by decide) ?_
          refine lv_iload_n hx hb d_MO_step_92 rfl (lv_at hl 2 rfl) ?_
          refine lv_imul hx hb d_MO_step_93 ?_
          refine lv_iload_n hx hb d_MO_step_94 rfl (lv_at hl 0 rfl) ?_
          refine lv_iadd hx hb d_MO_step_95 ?_
          have q := Option.some.inj h
          subst q
          exact fw_iret hQ S hr hlk hX hw d_MO_step_96
        · have h := oe h hc
          refine lv_iconst (v := 0) hx hb d_MO_step_67 (by decide) ?_
          have q := Option.some.inj h
          subst q
          exact fw_iret hQ S hr hlk hX hw d_MO_step_68
      refine lv_icmp_ne (tgt := 58) hx hb d_MO_step_48 (by decide) (fun hc => ?_) (fun hc => ?_)
      · have h := oe h hc
        refine lv_aload_n hx hb d_MO_step_58 rfl (lv_at hl 1 rfl) ?_
        refine ob h (fun r59 h59 h => ?_)
        refine fw_callV (As := []) (rest := []) (st1 := [.int r59.1]) S (ct_MO_firstFailing l D ad cI cL N (0 : Int32) ki ce wi r34.2.1 fo cu gr ru nu gv ca y7.2 r34.2.2.1 ke r34.2.2.2.1 r34.2.2.2.2 fi fl pa sh od bd bs r59 h59) q_1000 q_1002 s_49 q_10 k_MO_firstFailing hd_MO_firstFailing ⟨by rw [hR]; decide, by rw [hR]; decide⟩ rfl rfl hX hw hA 0 (ci := 6) rfl rfl hl.1 rfl rfl (Nat.le_of_ble_eq_true rfl) d_MO_step_59 ⟨Nat.zero_le _, Nat.zero_le _⟩ rfl (fun H locs hw => ?_)
        exact J62 r59.1 r59.2.1 r59.2.2.1 r59.2.2.2.1 r59.2.2.2.2.1 r59.2.2.2.2.2.1 r59.2.2.2.2.2.2 h _ _ _ (lv_sub hl [1, 0] rfl) hw
      · have h := oi h hc
        refine lv_aload_n hx hb d_MO_step_51 rfl (lv_at hl 1 rfl) ?_
        refine ob h (fun r52 h52 h => ?_)
        refine fw_callV (As := []) (rest := []) (st1 := [.int r52]) S (ct_MO_firstLost l D ad cI cL N (0 : Int32) ki ce wi r34.2.1 fo cu gr ru nu gv ca y7.2 r34.2.2.1 ke r34.2.2.2.1 r34.2.2.2.2 fi fl pa sh od bd bs r52 h52) q_996 q_998 s_48 q_10 k_MO_firstLost hd_MO_firstLost ⟨by rw [hR]; decide, by rw [hR]; decide⟩ rfl rfl hX hw hA 0 (ci := 6) rfl rfl hl.1 rfl rfl (Nat.le_of_ble_eq_true rfl) d_MO_step_52 ⟨Nat.zero_le _, Nat.zero_le _⟩ rfl (fun H locs hw => ?_)
        refine lv_goto (tgt := 62) hx hb d_MO_step_55 (by decide) ?_
        exact J62 r52 r34.2.1 y7.2 r34.2.2.1 ke r34.2.2.2.1 r34.2.2.2.2 h _ _ _ (lv_sub hl [1, 0] rfl) hw
    refine lv_if_eq (tgt := 44) hx hb d_MO_step_37 (by decide) (fun hc => ?_) (fun hc => ?_)
    · have h := oi h hc
      refine lv_iconst (v := 2) hx hb d_MO_step_44 (by decide) ?_
      exact J45 (2 : Int32) h _ _ _ hl hw
    · have h := oe h hc
      refine lv_iconst (v := 1) hx hb d_MO_step_40 (by decide) ?_
      refine lv_goto (tgt := 45) hx hb d_MO_step_41 (by decide) ?_
      exact J45 (1 : Int32) h _ _ _ hl hw
  have L7 : ∀ (n7 : Nat) (x7 : Int32 × (Nat → Int32)) (e7 : Int32 × (Nat → Int32)), lp (mb_MO_step_7 ce ca) n7 x7 = some e7 → (mr_MO_step_7 N ki ce wi ma cu gr ru nu ca lo ke un cn sh bd bs) e7 = some out → ∀ (ls : Array Slot) (H : Heap) (locs : List Loc), lv_has ls 3 [(0, .ref (ad 0)), (1, .int x7.1)] → fw_H D vwCl A s.heap (wM ad cI cL (0 : Int32) ki ce wi ma fo cu gr ru nu gv ca x7.2 lo ke un cn fi fl pa sh od bd bs) H locs → W p l e R s m args below meth c H locs 0 0 Q (F0 m 7 ls []) := by
    intro n7
    induction n7 with
    | zero => intro x7 e7 h1; exact absurd h1 lp_0
    | succ n7 ih7 =>
      intro x7 e7 h1 hr7 ls H locs hl hw
      rw [lp_s] at h1
      refine ob h1 (fun r7 h hk7 => ?_)
      unfold mb_MO_step_7 at h
      refine lv_iload_n hx hb d_MO_step_7 rfl (lv_at hl 1 rfl) ?_
      refine lv_aload_n hx hb d_MO_step_8 rfl (lv_at hl 0 rfl) ?_
      refine va_get (ci := 6) (v := .int ce) (C := R_MO) (T := F_MO) (N := 24) hx hb hg in_MO hown hK hw.1 0 rfl rfl 2 (by decide) (hg _ q_751) (fun _ h9 => h9) rfl d_MO_step_9 ?_
      refine lv_icmp_ge (tgt := 33) hx hb d_MO_step_12 (by decide) (fun hc => ?_) (fun hc => ?_)
      · have h := oi h hc
        have q := Option.some.inj h
        subst q
        have q := Option.some.inj hk7
        subst q
        exact X7 (x7.1, x7.2) hr7 _ _ _ (lv_sub hl [0] rfl) hw
      · have h := oe h hc
        refine lv_aload_n hx hb d_MO_step_15 rfl (lv_at hl 0 rfl) ?_
        refine va_get (ci := 6) (v := .ref (ad 7)) (C := R_MO) (T := F_MO) (N := 24) hx hb hg in_MO hown hK hw.1 0 rfl rfl 10 (by decide) (hg _ q_759) (fun _ h9 => h9) rfl d_MO_step_16 ?_
        refine lv_iload_n hx hb d_MO_step_19 rfl (lv_at hl 1 rfl) ?_
        refine lv_aload_n hx hb d_MO_step_20 rfl (lv_at hl 0 rfl) ?_
        refine va_get (ci := 6) (v := .ref (ad 6)) (C := R_MO) (T := F_MO) (N := 24) hx hb hg in_MO hown hK hw.1 0 rfl rfl 9 (by decide) (hg _ q_758) (fun _ h9 => h9) rfl d_MO_step_21 ?_
        refine lv_iload_n hx hb d_MO_step_24 rfl (lv_at hl 1 rfl) ?_
        refine oc h (fun hc2 h => ?_)
        refine va_iald hx hb hK hw.1 6 0 rfl rfl hc2 d_MO_step_25 ?_
        refine va_iast hx hb hK hw.1 hw.2.1 hw.2.2 7 0 rfl rfl hc2 d_MO_step_26 (fun H locs hP hD hS => ?_)
        have hw : fw_H D vwCl A s.heap (wM ad cI cL (0 : Int32) ki ce wi ma fo cu gr ru nu gv ca (upd x7.2 x7.1.toNatClampNeg (ca x7.1.toNatClampNeg)) lo ke un cn fi fl pa sh od bd bs) H locs := ⟨hP, hD, hS⟩
        refine lv_iinc (k := 1) (v := x7.1 + 1) (lv' := [(1, .int (x7.1 + 1)), (0, .ref (ad 0))]) hx hb d_MO_step_27 hl rfl (by rw [lit1]) (by decide) rfl (fun ls hl => ?_)
        refine lv_goto (tgt := 7) hx hb d_MO_step_30 (by decide) ?_
        have q := Option.some.inj h
        subst q
        exact ih7 (x7.1 + 1, upd x7.2 x7.1.toNatClampNeg (ca x7.1.toNatClampNeg)) e7 hk7 hr7 _ _ _ (lv_sub hl [1, 0] rfl) hw
  refine ob h (fun e7 h1 h2 => ?_)
  exact L7 N ((0 : Int32), nw) e7 h1 h2 _ _ _ (lv_sub hl [1, 0] rfl) hw
set_option maxHeartbeats 4000000 in
set_option maxRecDepth 100000 in
theorem ct_MO_isDone (l : Launch) (D : va_G) (ad : Nat → Nat) (cI cL : ClassId) (N : Nat) (th : Int32) (ki : Int32) (ce : Int32) (wi : Int32) (ma : Int32) (fo : Int32) (cu : Nat → Int32) (gr : Nat → Int32) (ru : Nat → Int32) (nu : Nat → Int32) (gv : Nat → Int32) (ca : Nat → Int32) (nw : Nat → Int32) (lo : Nat → Int32) (ke : Nat → Int32) (un : Nat → Int32) (cn : Nat → Int32) (fi : Nat → Int32) (fl : Nat → Int32) (pa : Nat → Int32) (sh : Nat → Int32) (od : Nat → Int32) (bd : Nat → Int32) (bs : Nat → Int32)  (out : Int32) (h : mi_MO_isDone N ce nw = some out) : fw_C l y_MO_isDone (.code y_MO_isDone b_MO_isDone 3 (some .boolean) :: Gw) (fr 0 0) D vwCl (tyA cI cL) [.ref (ad 0)] (wM ad cI cL th ki ce wi ma fo cu gr ru nu gv ca nw lo ke un cn fi fl pa sh od bd bs) (some (.int out)) (wM ad cI cL th ki ce wi ma fo cu gr ru nu gv ca nw lo ke un cn fi fl pa sh od bd bs) := by
  refine fw_of (by decide) (Nat.le_of_ble_eq_true rfl) ?_
  intro p e s m args below meth c ls A R Q hR hQ S hr hlk hX hA hl hw
  have hK := hX.1
  have hx := S.1
  have hb := S.2.1
  have hown := S.2.2.2.1
  have hg := S.2.2.2.2
  have hl : lv_has ls 3 [(0, .ref (ad 0))] := hl
  unfold mi_MO_isDone at h
  refine lv_iconst (v := 1) hx hb d_MO_isDone_0 (by decide) ?_
  refine lv_istore_n (lv' := [(1, .int (1 : Int32)), (0, .ref (ad 0))]) hx hb d_MO_isDone_1 rfl hl (by decide) rfl (fun ls hl => ?_)
  refine lv_iconst (v := 0) hx hb d_MO_isDone_2 (by decide) ?_
  refine lv_istore_n (lv' := [(2, .int (0 : Int32)), (1, .int (1 : Int32)), (0, .ref (ad 0))]) hx hb d_MO_isDone_3 rfl hl (by decide) rfl (fun ls hl => ?_)
  have X4 : ∀ (y4 : Int32 × Int32), mr_MO_isDone_4 y4 = some out → ∀ (ls : Array Slot) (H : Heap) (locs : List Loc), lv_has ls 3 [(1, .int y4.1)] → fw_H D vwCl A s.heap (wM ad cI cL th ki ce wi ma fo cu gr ru nu gv ca nw lo ke un cn fi fl pa sh od bd bs) H locs → W p l e R s m args below meth c H locs 0 0 Q (F0 m 55 ls []) := by
    intro y4 h ls H locs hl hw
    unfold mr_MO_isDone_4 at h
    refine lv_iload_n hx hb d_MO_isDone_55 rfl (lv_at hl 0 rfl) ?_
    refine oc h (fun hc h => ?_)
    have q := Option.some.inj h
    subst q
    exact fw_zret hQ S hr (fw_nz hc) hlk hX hw d_MO_isDone_56
  have L4 : ∀ (n4 : Nat) (x4 : Int32 × Int32) (e4 : Int32 × Int32), lp (mb_MO_isDone_4 ce nw) n4 x4 = some e4 → (mr_MO_isDone_4) e4 = some out → ∀ (ls : Array Slot) (H : Heap) (locs : List Loc), lv_has ls 3 [(0, .ref (ad 0)), (1, .int x4.1), (2, .int x4.2)] → fw_H D vwCl A s.heap (wM ad cI cL th ki ce wi ma fo cu gr ru nu gv ca nw lo ke un cn fi fl pa sh od bd bs) H locs → W p l e R s m args below meth c H locs 0 0 Q (F0 m 4 ls []) := by
    intro n4
    induction n4 with
    | zero => intro x4 e4 h1; exact absurd h1 lp_0
    | succ n4 ih4 =>
      intro x4 e4 h1 hr4 ls H locs hl hw
      rw [lp_s] at h1
      refine ob h1 (fun r4 h hk4 => ?_)
      unfold mb_MO_isDone_4 at h
      refine lv_iload_n hx hb d_MO_isDone_4 rfl (lv_at hl 2 rfl) ?_
      refine lv_aload_n hx hb d_MO_isDone_5 rfl (lv_at hl 0 rfl) ?_
      refine va_get (ci := 6) (v := .int ce) (C := R_MO) (T := F_MO) (N := 24) hx hb hg in_MO hown hK hw.1 0 rfl rfl 2 (by decide) (hg _ q_751) (fun _ h9 => h9) rfl d_MO_isDone_6 ?_
      refine lv_icmp_ge (tgt := 55) hx hb d_MO_isDone_9 (by decide) (fun hc => ?_) (fun hc => ?_)
      · have h := oi h hc
        have q := Option.some.inj h
        subst q
        have q := Option.some.inj hk4
        subst q
        exact X4 (x4.1, x4.2) hr4 _ _ _ (lv_sub hl [1] rfl) hw
      · have h := oe h hc
        refine lv_iload_n hx hb d_MO_isDone_12 rfl (lv_at hl 1 rfl) ?_
        refine lv_if_eq (tgt := 47) hx hb d_MO_isDone_13 (by decide) (fun hc => ?_) (fun hc => ?_)
        · have h := oi h hc
          refine lv_iconst (v := 0) hx hb d_MO_isDone_47 (by decide) ?_
          refine lv_istore_n (lv' := [(1, .int (0 : Int32)), (0, .ref (ad 0)), (2, .int x4.2)]) hx hb d_MO_isDone_48 rfl hl (by decide) rfl (fun ls hl => ?_)
          refine lv_iinc (k := 2) (v := x4.2 + 1) (lv' := [(2, .int (x4.2 + 1)), (1, .int (0 : Int32)), (0, .ref (ad 0))]) hx hb d_MO_isDone_49 hl rfl (by rw [lit1]) (by decide) rfl (fun ls hl => ?_)
          refine lv_goto (tgt := 4) hx hb d_MO_isDone_52 (by decide) ?_
          have q := Option.some.inj h
          subst q
          exact ih4 ((0 : Int32), x4.2 + 1) e4 hk4 hr4 _ _ _ (lv_sub hl [2, 1, 0] rfl) hw
        · have h := oe h hc
          refine lv_aload_n hx hb d_MO_isDone_16 rfl (lv_at hl 0 rfl) ?_
          refine va_get (ci := 6) (v := .ref (ad 7)) (C := R_MO) (T := F_MO) (N := 24) hx hb hg in_MO hown hK hw.1 0 rfl rfl 10 (by decide) (hg _ q_759) (fun _ h9 => h9) rfl d_MO_isDone_17 ?_
          refine lv_iload_n hx hb d_MO_isDone_20 rfl (lv_at hl 2 rfl) ?_
          refine oc h (fun hc1 h => ?_)
          refine va_iald hx hb hK hw.1 7 0 rfl rfl hc1 d_MO_isDone_21 ?_
          refine lv_if_eq (tgt := 47) hx hb d_MO_isDone_22 (by decide) (fun hc => ?_) (fun hc => ?_)
          · have h := oi h hc
            refine lv_iconst (v := 0) hx hb d_MO_isDone_47 (by decide) ?_
            refine lv_istore_n (lv' := [(1, .int (0 : Int32)), (0, .ref (ad 0)), (2, .int x4.2)]) hx hb d_MO_isDone_48 rfl hl (by decide) rfl (fun ls hl => ?_)
            refine lv_iinc (k := 2) (v := x4.2 + 1) (lv' := [(2, .int (x4.2 + 1)), (1, .int (0 : Int32)), (0, .ref (ad 0))]) hx hb d_MO_isDone_49 hl rfl (by rw [lit1]) (by decide) rfl (fun ls hl => ?_)
            refine lv_goto (tgt := 4) hx hb d_MO_isDone_52 (by decide) ?_
            have q := Option.some.inj h
            subst q
            exact ih4 ((0 : Int32), x4.2 + 1) e4 hk4 hr4 _ _ _ (lv_sub hl [2, 1, 0] rfl) hw
          · have h := oe h hc
            refine lv_aload_n hx hb d_MO_isDone_25 rfl (lv_at hl 0 rfl) ?_
            refine va_get (ci := 6) (v := .ref (ad 7)) (C := R_MO) (T := F_MO) (N := 24) hx hb hg in_MO hown hK hw.1 0 rfl rfl 10 (by decide) (hg _ q_759) (fun _ h9 => h9) rfl d_MO_isDone_26 ?_
            refine lv_iload_n hx hb d_MO_isDone_29 rfl (lv_at hl 2 rfl) ?_
            refine va_iald hx hb hK hw.1 7 0 rfl rfl hc1 d_MO_isDone_30 ?_
            refine lv_aload_n hx hb d_MO_isDone_31 rfl (lv_at hl 0 rfl) ?_
            refine va_get (ci := 6) (v := .ref (ad 7)) (C := R_MO) (T := F_MO) (N := 24) hx hb hg in_MO hown hK hw.1 0 rfl rfl 10 (by decide) (hg _ q_759) (fun _ h9 => h9) rfl d_MO_isDone_32 ?_
            refine lv_iload_n hx hb d_MO_isDone_35 rfl (lv_at hl 2 rfl) ?_
            refine va_iald hx hb hK hw.1 7 0 rfl rfl hc1 d_MO_isDone_36 ?_
            refine lv_iconst (v := 1) hx hb d_MO_isDone_37 (by decide) ?_
            refine lv_isub hx hb d_MO_isDone_38 ?_
            refine lv_iand hx hb d_MO_isDone_39 ?_
            refine lv_if_ne (tgt := 47) hx hb d_MO_isDone_40 (by decide) (fun hc => ?_) (fun hc => ?_)
            · have h := oe h hc
              refine lv_iconst (v := 0) hx hb d_MO_isDone_47 (by decide) ?_
              refine lv_istore_n (lv' := [(1, .int (0 : Int32)), (0, .ref (ad 0)), (2, .int x4.2)]) hx hb d_MO_isDone_48 rfl hl (by decide) rfl (fun ls hl => ?_)
              refine lv_iinc (k := 2) (v := x4.2 + 1) (lv' := [(2, .int (x4.2 + 1)), (1, .int (0 : Int32)), (0, .ref (ad 0))]) hx hb d_MO_isDone_49 hl rfl (by rw [lit1]) (by decide) rfl (fun ls hl => ?_)
              refine lv_goto (tgt := 4) hx hb d_MO_isDone_52 (by decide) ?_
              have q := Option.some.inj h
              subst q
              exact ih4 ((0 : Int32), x4.2 + 1) e4 hk4 hr4 _ _ _ (lv_sub hl [2, 1, 0] rfl) hw
            · have h := oi h hc
              refine lv_iconst (v := 1) hx hb d_MO_isDone_43 (by decide) ?_
              refine lv_goto (tgt := 48) hx hb d_MO_isDone_44 (by decide) ?_
              refine lv_istore_n (lv' := [(1, .int (1 : Int32)), (0, .ref (ad 0)), (2, .int x4.2)]) hx hb d_MO_isDone_48 rfl hl (by decide) rfl (fun ls hl => ?_)
              refine lv_iinc (k := 2) (v := x4.2 + 1) (lv' := [(2, .int (x4.2 + 1)), (1, .int (1 : Int32)), (0, .ref (ad 0))]) hx hb d_MO_isDone_49 hl rfl (by rw [lit1]) (by decide) rfl (fun ls hl => ?_)
              refine lv_goto (tgt := 4) hx hb d_MO_isDone_52 (by decide) ?_
              have q := Option.some.inj h
              subst q
              exact ih4 ((1 : Int32), x4.2 + 1) e4 hk4 hr4 _ _ _ (lv_sub hl [2, 1, 0] rfl) hw
  refine ob h (fun e4 h1 h2 => ?_)
  exact L4 N ((1 : Int32), (0 : Int32)) e4 h1 h2 _ _ _ (lv_sub hl [2, 1, 0] rfl) hw
set_option maxHeartbeats 4000000 in
set_option maxRecDepth 100000 in
theorem ct_MO_gradeNow (l : Launch) (D : va_G) (ad : Nat → Nat) (cI cL : ClassId) (N : Nat) (th : Int32) (ki : Int32) (ce : Int32) (wi : Int32) (ma : Int32) (fo : Int32) (cu : Nat → Int32) (gr : Nat → Int32) (ru : Nat → Int32) (nu : Nat → Int32) (gv : Nat → Int32) (ca : Nat → Int32) (nw : Nat → Int32) (lo : Nat → Int32) (ke : Nat → Int32) (un : Nat → Int32) (cn : Nat → Int32) (fi : Nat → Int32) (fl : Nat → Int32) (pa : Nat → Int32) (sh : Nat → Int32) (od : Nat → Int32) (bd : Nat → Int32) (bs : Nat → Int32)  (out : Int32 × Int32 × Int32 × (Nat → Int32) × (Nat → Int32) × (Nat → Int32) × (Nat → Int32) × (Nat → Int32) × (Nat → Int32) × (Nat → Int32) × (Nat → Int32)) (h : mi_MO_gradeNow N ki ce wi ma fo cu gr ru nu gv nw lo ke un cn fi fl pa sh od bd bs = some out) : fw_C l y_MO_gradeNow (.code y_MO_gradeNow b_MO_gradeNow 2 (some .int) :: Gw) (fr 7 161) D vwCl (tyA cI cL) [.ref (ad 0)] (wM ad cI cL th ki ce wi ma fo cu gr ru nu gv ca nw lo ke un cn fi fl pa sh od bd bs) (some (.int out.1)) (wM ad cI cL th ki ce wi out.2.1 out.2.2.1 cu gr ru nu gv ca out.2.2.2.1 out.2.2.2.2.1 out.2.2.2.2.2.1 out.2.2.2.2.2.2.1 out.2.2.2.2.2.2.2.1 out.2.2.2.2.2.2.2.2.1 out.2.2.2.2.2.2.2.2.2.1 out.2.2.2.2.2.2.2.2.2.2 sh od bd bs) := by
  refine fw_of (by decide) (Nat.le_of_ble_eq_true rfl) ?_
  intro p e s m args below meth c ls A R Q hR hQ S hr hlk hX hA hl hw
  have hK := hX.1
  have hx := S.1
  have hb := S.2.1
  have hown := S.2.2.2.1
  have hg := S.2.2.2.2
  have hl : lv_has ls 2 [(0, .ref (ad 0))] := hl
  unfold mi_MO_gradeNow at h
  refine lv_aload_n hx hb d_MO_gradeNow_0 rfl (lv_at hl 0 rfl) ?_
  refine ob h (fun r1 h1 h => ?_)
  refine fw_callV (As := []) (rest := []) (st1 := []) S (ct_MO_search l D ad cI cL N th ki ce wi ma fo cu gr ru nu gv ca nw lo ke un cn fi fl pa sh od bd bs r1 h1) q_873 q_875 s_23 q_10 k_MO_search hd_MO_search ⟨by rw [hR]; decide, by rw [hR]; decide⟩ rfl rfl hX hw hA 0 (ci := 6) rfl rfl hl.1 rfl rfl (Nat.le_of_ble_eq_true rfl) d_MO_gradeNow_1 ⟨Nat.zero_le _, Nat.zero_le _⟩ rfl (fun H locs hw => ?_)
  refine lv_aload_n hx hb d_MO_gradeNow_4 rfl (lv_at hl 0 rfl) ?_
  refine va_get (ci := 6) (v := .int r1.1) (C := R_MO) (T := F_MO) (N := 24) hx hb hg in_MO hown hK hw.1 0 rfl rfl 16 (by decide) (hg _ q_765) (fun _ h9 => h9) rfl d_MO_gradeNow_5 ?_
  refine lv_iconst (v := 1) hx hb d_MO_gradeNow_8 (by decide) ?_
  refine lv_icmp_eq (tgt := 25) hx hb d_MO_gradeNow_9 (by decide) (fun hc => ?_) (fun hc => ?_)
  · have h := oi h hc
    refine lv_iconst (v := 0) hx hb d_MO_gradeNow_25 (by decide) ?_
    refine lv_istore_n (lv' := [(1, .int (0 : Int32)), (0, .ref (ad 0))]) hx hb d_MO_gradeNow_26 rfl hl (by decide) rfl (fun ls hl => ?_)
    have X27 : ∀ (y27 : Int32 × (Nat → Int32)), mr_MO_gradeNow_27 N ki ce wi ma cu gr ru nu lo ke un cn sh bd bs r1 y27 = some out → ∀ (ls : Array Slot) (H : Heap) (locs : List Loc), lv_has ls 2 [(0, .ref (ad 0))] → fw_H D vwCl A s.heap (wM ad cI cL th ki ce wi ma r1.1 cu gr ru nu gv ca y27.2 lo ke un cn r1.2.1 r1.2.2.1 r1.2.2.2 sh od bd bs) H locs → W p l e R s m args below meth c H locs 0 0 Q (F0 m 72 ls []) := by
      intro y27 h ls H locs hl hw
      unfold mr_MO_gradeNow_27 at h
      refine lv_aload_n hx hb d_MO_gradeNow_72 rfl (lv_at hl 0 rfl) ?_
      refine ob h (fun r73 h73 h => ?_)
      refine fw_callV (As := []) (rest := []) (st1 := []) S (ct_MO_reasonByOne l D ad cI cL N th ki ce wi ma r1.1 cu gr ru nu gv ca y27.2 lo ke un cn r1.2.1 r1.2.2.1 r1.2.2.2 sh od bd bs r73 h73) q_920 q_922 s_31 q_10 k_MO_reasonByOne hd_MO_reasonByOne ⟨by rw [hR]; decide, by rw [hR]; decide⟩ rfl rfl hX hw hA 0 (ci := 6) rfl rfl hl.1 rfl rfl (Nat.le_of_ble_eq_true rfl) d_MO_gradeNow_73 ⟨Nat.zero_le _, Nat.zero_le _⟩ rfl (fun H locs hw => ?_)
      refine lv_aload_n hx hb d_MO_gradeNow_76 rfl (lv_at hl 0 rfl) ?_
      refine ob h (fun r77 h77 h => ?_)
      refine fw_callV (As := []) (rest := []) (st1 := [.int r77]) S (ct_MO_isDone l D ad cI cL N th ki ce wi r73.1 r1.1 cu gr ru nu gv ca r73.2.1 r73.2.2.1 ke r73.2.2.2.1 r73.2.2.2.2 r1.2.1 r1.2.2.1 r1.2.2.2 sh od bd bs r77 h77) q_1012 q_1014 s_51 q_10 k_MO_isDone hd_MO_isDone ⟨by rw [hR]; decide, by rw [hR]; decide⟩ rfl rfl hX hw hA 0 (ci := 6) rfl rfl hl.1 rfl rfl (Nat.le_of_ble_eq_true rfl) d_MO_gradeNow_77 ⟨Nat.zero_le _, Nat.zero_le _⟩ rfl (fun H locs hw => ?_)
      refine lv_if_eq (tgt := 85) hx hb d_MO_gradeNow_80 (by decide) (fun hc => ?_) (fun hc => ?_)
      · have h := oi h hc
        refine lv_aload_n hx hb d_MO_gradeNow_85 rfl (lv_at hl 0 rfl) ?_
        refine ob h (fun r86 h86 h => ?_)
        refine fw_callV (As := []) (rest := []) (st1 := []) S (ct_MO_reasonByBoth l D ad cI cL N th ki ce wi r73.1 r1.1 cu gr ru nu gv ca r73.2.1 r73.2.2.1 ke r73.2.2.2.1 r73.2.2.2.2 r1.2.1 r1.2.2.1 r1.2.2.2 sh od bd bs r86 h86) q_976 q_978 s_45 q_10 k_MO_reasonByBoth hd_MO_reasonByBoth ⟨by rw [hR]; decide, by rw [hR]; decide⟩ rfl rfl hX hw hA 0 (ci := 6) rfl rfl hl.1 rfl rfl (Nat.le_of_ble_eq_true rfl) d_MO_gradeNow_86 ⟨Nat.zero_le _, Nat.zero_le _⟩ rfl (fun H locs hw => ?_)
        refine lv_aload_n hx hb d_MO_gradeNow_89 rfl (lv_at hl 0 rfl) ?_
        refine ob h (fun r90 h90 h => ?_)
        refine fw_callV (As := []) (rest := []) (st1 := [.int r90]) S (ct_MO_isDone l D ad cI cL N th ki ce wi r86.1 r1.1 cu gr ru nu gv ca r86.2.1 r86.2.2.1 r86.2.2.2.1 r86.2.2.2.2.1 r86.2.2.2.2.2 r1.2.1 r1.2.2.1 r1.2.2.2 sh od bd bs r90 h90) q_1012 q_1014 s_51 q_10 k_MO_isDone hd_MO_isDone ⟨by rw [hR]; decide, by rw [hR]; decide⟩ rfl rfl hX hw hA 0 (ci := 6) rfl rfl hl.1 rfl rfl (Nat.le_of_ble_eq_true rfl) d_MO_gradeNow_90 ⟨Nat.zero_le _, Nat.zero_le _⟩ rfl (fun H locs hw => ?_)
        refine lv_if_eq (tgt := 100) hx hb d_MO_gradeNow_93 (by decide) (fun hc => ?_) (fun hc => ?_)
        · have h := oi h hc
          refine lv_iconst (v := 3) hx hb d_MO_gradeNow_100 (by decide) ?_
          have q := Option.some.inj h
          subst q
          exact fw_iret hQ S hr hlk hX hw d_MO_gradeNow_101
        · have h := oe h hc
          refine lv_iconst (v := 2) hx hb d_MO_gradeNow_96 (by decide) ?_
          refine lv_goto (tgt := 101) hx hb d_MO_gradeNow_97 (by decide) ?_
          have q := Option.some.inj h
          subst q
          exact fw_iret hQ S hr hlk hX hw d_MO_gradeNow_101
      · have h := oe h hc
        refine lv_iconst (v := 1) hx hb d_MO_gradeNow_83 (by decide) ?_
        have q := Option.some.inj h
        subst q
        exact fw_iret hQ S hr hlk hX hw d_MO_gradeNow_84
    have L27 : ∀ (n27 : Nat) (x27 : Int32 × (Nat → Int32)) (e27 : Int32 × (Nat → Int32)), lp (mb_MO_gradeNow_27 N ki ce gv) n27 x27 = some e27 → (mr_MO_gradeNow_27 N ki ce wi ma cu gr ru nu lo ke un cn sh bd bs r1) e27 = some out → ∀ (ls : Array Slot) (H : Heap) (locs : List Loc), lv_has ls 2 [(0, .ref (ad 0)), (1, .int x27.1)] → fw_H D vwCl A s.heap (wM ad cI cL th ki ce wi ma r1.1 cu gr ru nu gv ca x27.2 lo ke un cn r1.2.1 r1.2.2.1 r1.2.2.2 sh od bd bs) H locs → W p l e R s m args below meth c H locs 0 0 Q (F0 m 27 ls []) := by
      intro n27
      induction n27 with
      | zero => intro x27 e27 h1; exact absurd h1 lp_0
      | succ n27 ih27 =>
        intro x27 e27 h1 hr27 ls H locs hl hw
        rw [lp_s] at h1
        refine ob h1 (fun r27 h hk27 => ?_)
        unfold mb_MO_gradeNow_27 at h
        refine lv_iload_n hx hb d_MO_gradeNow_27 rfl (lv_at hl 1 rfl) ?_
        refine lv_aload_n hx hb d_MO_gradeNow_28 rfl (lv_at hl 0 rfl) ?_
        refine va_get (ci := 6) (v := .int ce) (C := R_MO) (T := F_MO) (N := 24) hx hb hg in_MO hown hK hw.1 0 rfl rfl 2 (by decide) (hg _ q_751) (fun _ h9 => h9) rfl d_MO_gradeNow_29 ?_
        refine lv_icmp_ge (tgt := 72) hx hb d_MO_gradeNow_32 (by decide) (fun hc => ?_) (fun hc => ?_)
        · have h := oi h hc
          have q := Option.some.inj h
          subst q
          have q := Option.some.inj hk27
          subst q
          exact X27 (x27.1, x27.2) hr27 _ _ _ (lv_sub hl [0] rfl) hw
        · have h := oe h hc
          refine lv_aload_n hx hb d_MO_gradeNow_35 rfl (lv_at hl 0 rfl) ?_
          refine va_get (ci := 6) (v := .ref (ad 7)) (C := R_MO) (T := F_MO) (N := 24) hx hb hg in_MO hown hK hw.1 0 rfl rfl 10 (by decide) (hg _ q_759) (fun _ h9 => h9) rfl d_MO_gradeNow_36 ?_
          refine lv_iload_n hx hb d_MO_gradeNow_39 rfl (lv_at hl 1 rfl) ?_
          refine lv_aload_n hx hb d_MO_gradeNow_40 rfl (lv_at hl 0 rfl) ?_
          refine va_get (ci := 6) (v := .ref (ad 5)) (C := R_MO) (T := F_MO) (N := 24) hx hb hg in_MO hown hK hw.1 0 rfl rfl 8 (by decide) (hg _ q_757) (fun _ h9 => h9) rfl d_MO_gradeNow_41 ?_
          refine lv_iload_n hx hb d_MO_gradeNow_44 rfl (lv_at hl 1 rfl) ?_
          refine oc h (fun hc1 h => ?_)
          refine va_iald hx hb hK hw.1 5 0 rfl rfl hc1 d_MO_gradeNow_45 ?_
          refine lv_iconst (v := (-1)) hx hb d_MO_gradeNow_46 (by decide) ?_
          refine lv_icmp_ne (tgt := 57) hx hb d_MO_gradeNow_47 (by decide) (fun hc => ?_) (fun hc => ?_)
          · have h := oe h hc
            refine lv_iconst (v := 1) hx hb d_MO_gradeNow_57 (by decide) ?_
            refine lv_aload_n hx hb d_MO_gradeNow_58 rfl (lv_at hl 0 rfl) ?_
            refine va_get (ci := 6) (v := .ref (ad 5)) (C := R_MO) (T := F_MO) (N := 24) hx hb hg in_MO hown hK hw.1 0 rfl rfl 8 (by decide) (hg _ q_757) (fun _ h9 => h9) rfl d_MO_gradeNow_59 ?_
            refine lv_iload_n hx hb d_MO_gradeNow_62 rfl (lv_at hl 1 rfl) ?_
            refine va_iald hx hb hK hw.1 5 0 rfl rfl hc1 d_MO_gradeNow_63 ?_
            refine lv_ishl hx hb d_MO_gradeNow_64 ?_
            refine va_iast hx hb hK hw.1 hw.2.1 hw.2.2 7 0 rfl rfl hc1 d_MO_gradeNow_65 (fun H locs hP hD hS => ?_)
            have hw : fw_H D vwCl A s.heap (wM ad cI cL th ki ce wi ma r1.1 cu gr ru nu gv ca (upd x27.2 x27.1.toNatClampNeg ((1 : Int32) <<< ((gv x27.1.toNatClampNeg) &&& 31))) lo ke un cn r1.2.1 r1.2.2.1 r1.2.2.2 sh od bd bs) H locs := ⟨hP, hD, hS⟩
            refine lv_iinc (k := 1) (v := x27.1 + 1) (lv' := [(1, .int (x27.1 + 1)), (0, .ref (ad 0))]) hx hb d_MO_gradeNow_66 hl rfl (by rw [lit1]) (by decide) rfl (fun ls hl => ?_)
            refine lv_goto (tgt := 27) hx hb d_MO_gradeNow_69 (by decide) ?_
            have q := Option.some.inj h
            subst q
            exact ih27 (x27.1 + 1, upd x27.2 x27.1.toNatClampNeg ((1 : Int32) <<< ((gv x27.1.toNatClampNeg) &&& 31))) e27 hk27 hr27 _ _ _ (lv_sub hl [1, 0] rfl) hw
          · have h := oi h hc
            refine lv_aload_n hx hb d_MO_gradeNow_50 rfl (lv_at hl 0 rfl) ?_
            refine ob h (fun r51 h51 h => ?_)
            refine fw_callV (As := []) (rest := [.int x27.1, .ref (ad 7)]) (st1 := [.int r51, .int x27.1, .ref (ad 7)]) S (ct_MO_allValues l D ad cI cL N th ki ce wi ma r1.1 cu gr ru nu gv ca x27.2 lo ke un cn r1.2.1 r1.2.2.1 r1.2.2.2 sh od bd bs r51 h51) q_745 q_747 s_19 q_10 k_MO_allValues hd_MO_allValues ⟨by rw [hR]; decide, by rw [hR]; decide⟩ rfl rfl hX hw hA 0 (ci := 6) rfl rfl hl.1 rfl rfl (Nat.le_of_ble_eq_true rfl) d_MO_gradeNow_51 ⟨Nat.zero_le _, Nat.zero_le _⟩ rfl (fun H locs hw => ?_)
            refine lv_goto (tgt := 65) hx hb d_MO_gradeNow_54 (by decide) ?_
            refine va_iast hx hb hK hw.1 hw.2.1 hw.2.2 7 0 rfl rfl hc1 d_MO_gradeNow_65 (fun H locs hP hD hS => ?_)
            have hw : fw_H D vwCl A s.heap (wM ad cI cL th ki ce wi ma r1.1 cu gr ru nu gv ca (upd x27.2 x27.1.toNatClampNeg r51) lo ke un cn r1.2.1 r1.2.2.1 r1.2.2.2 sh od bd bs) H locs := ⟨hP, hD, hS⟩
            refine lv_iinc (k := 1) (v := x27.1 + 1) (lv' := [(1, .int (x27.1 + 1)), (0, .ref (ad 0))]) hx hb d_MO_gradeNow_66 hl rfl (by rw [lit1]) (by decide) rfl (fun ls hl => ?_)
            refine lv_goto (tgt := 27) hx hb d_MO_gradeNow_69 (by decide) ?_
            have q := Option.some.inj h
            subst q
            exact ih27 (x27.1 + 1, upd x27.2 x27.1.toNatClampNeg r51) e27 hk27 hr27 _ _ _ (lv_sub hl [1, 0] rfl) hw
    refine ob h (fun e27 h1 h2 => ?_)
    exact L27 N ((0 : Int32), nw) e27 h1 h2 _ _ _ (lv_sub hl [1, 0] rfl) hw
  · have h := oe h hc
    refine lv_aload_n hx hb d_MO_gradeNow_12 rfl (lv_at hl 0 rfl) ?_
    refine va_get (ci := 6) (v := .int r1.1) (C := R_MO) (T := F_MO) (N := 24) hx hb hg in_MO hown hK hw.1 0 rfl rfl 16 (by decide) (hg _ q_765) (fun _ h9 => h9) rfl d_MO_gradeNow_13 ?_
    refine lv_if_ne (tgt := 23) hx hb d_MO_gradeNow_16 (by decide) (fun hc => ?_) (fun hc => ?_)
    · have h := oe h hc
      refine lv_iconst (v := 4) hx hb d_MO_gradeNow_23 (by decide) ?_
      have q := Option.some.inj h
      subst q
      exact fw_iret hQ S hr hlk hX hw d_MO_gradeNow_24
    · have h := oi h hc
      refine lv_iconst (v := 0) hx hb d_MO_gradeNow_19 (by decide) ?_
      refine lv_goto (tgt := 24) hx hb d_MO_gradeNow_20 (by decide) ?_
      have q := Option.some.inj h
      subst q
      exact fw_iret hQ S hr hlk hX hw d_MO_gradeNow_24
set_option maxHeartbeats 4000000 in
set_option maxRecDepth 100000 in
theorem ct_MO_grade (l : Launch) (D : va_G) (ad : Nat → Nat) (cI cL : ClassId) (N : Nat) (th : Int32) (ki : Int32) (ce : Int32) (wi : Int32) (ma : Int32) (fo : Int32) (cu : Nat → Int32) (gr : Nat → Int32) (ru : Nat → Int32) (nu : Nat → Int32) (gv : Nat → Int32) (ca : Nat → Int32) (nw : Nat → Int32) (lo : Nat → Int32) (ke : Nat → Int32) (un : Nat → Int32) (cn : Nat → Int32) (fi : Nat → Int32) (fl : Nat → Int32) (pa : Nat → Int32) (sh : Nat → Int32) (od : Nat → Int32) (bd : Nat → Int32) (bs : Nat → Int32)  (out : Int32 × Int32 × Int32 × Int32 × (Nat → Int32) × (Nat → Int32) × (Nat → Int32) × (Nat → Int32) × (Nat → Int32) × (Nat → Int32) × (Nat → Int32) × (Nat → Int32)) (h : mi_MO_grade N th ki ce wi ma fo cu gr ru nu gv nw lo ke un cn fi fl pa sh od bd bs = some out) : fw_C l y_MO_grade (.code y_MO_grade b_MO_grade 1 (some .int) :: Gw) (fr 8 182) D vwCl (tyA cI cL) [.ref (ad 0)] (wM ad cI cL th ki ce wi ma fo cu gr ru nu gv ca nw lo ke un cn fi fl pa sh od bd bs) (some (.int out.1)) (wM ad cI cL out.2.1 ki ce wi out.2.2.1 out.2.2.2.1 cu gr ru nu gv ca out.2.2.2.2.1 out.2.2.2.2.2.1 out.2.2.2.2.2.2.1 out.2.2.2.2.2.2.2.1 out.2.2.2.2.2.2.2.2.1 out.2.2.2.2.2.2.2.2.2.1 out.2.2.2.2.2.2.2.2.2.2.1 out.2.2.2.2.2.2.2.2.2.2.2 sh od bd bs) := by
  refine fw_of (by decide) (Nat.le_of_ble_eq_true rfl) ?_
  intro p e s m args below meth c ls A R Q hR hQ S hr hlk hX hA hl hw
  have hK := hX.1
  have hx := S.1
  have hb := S.2.1
  have hown := S.2.2.2.1
  have hg := S.2.2.2.2
  have hl : lv_has ls 1 [(0, .ref (ad 0))] := hl
  unfold mi_MO_grade at h
  refine lv_aload_n hx hb d_MO_grade_0 rfl (lv_at hl 0 rfl) ?_
  refine lv_iconst (v := 0) hx hb d_MO_grade_1 (by decide) ?_
  refine va_put (ci := 6) (v := .int (0 : Int32)) (ty := .int) (C := R_MO) (T := F_MO) (N := 24) hx hb hg in_MO t_MO t_MO_ok n_MO hown hK hw.1 hw.2.1 hw.2.2 0 rfl rfl 0 (by decide) (hg _ q_749) (fun _ h9 => h9) rfl (by decide +kernel) rfl rfl (Nat.le_of_ble_eq_true rfl) d_MO_grade_2 (fun H locs hP hD hS => ?_)
  have hw : fw_H D vwCl A s.heap (wM ad cI cL (0 : Int32) ki ce wi ma fo cu gr ru nu gv ca nw lo ke un cn fi fl pa sh od bd bs) H locs := ⟨hP, hD, hS⟩
  refine lv_aload_n hx hb d_MO_grade_5 rfl (lv_at hl 0 rfl) ?_
  refine ob h (fun r6 h6 h => ?_)
  refine fw_callV (As := []) (rest := []) (st1 := [.int r6.1]) S (ct_MO_gradeNow l D ad cI cL N (0 : Int32) ki ce wi ma fo cu gr ru nu gv ca nw lo ke un cn fi fl pa sh od bd bs r6 h6) q_1008 q_1010 s_50 q_10 k_MO_gradeNow hd_MO_gradeNow ⟨by rw [hR]; decide, by rw [hR]; decide⟩ rfl rfl hX hw hA 0 (ci := 6) rfl rfl hl.1 rfl rfl (Nat.le_of_ble_eq_true rfl) d_MO_grade_6 ⟨Nat.zero_le _, Nat.zero_le _⟩ rfl (fun H locs hw => ?_)
  have q := Option.some.inj h
  subst q
  exact fw_iret hQ S hr hlk hX hw d_MO_grade_9
set_option maxHeartbeats 4000000 in
set_option maxRecDepth 100000 in
theorem ct_MO_full (l : Launch) (D : va_G) (ad : Nat → Nat) (cI cL : ClassId) (N : Nat) (th : Int32) (ki : Int32) (ce : Int32) (wi : Int32) (ma : Int32) (fo : Int32) (cu : Nat → Int32) (gr : Nat → Int32) (ru : Nat → Int32) (nu : Nat → Int32) (gv : Nat → Int32) (ca : Nat → Int32) (nw : Nat → Int32) (lo : Nat → Int32) (ke : Nat → Int32) (un : Nat → Int32) (cn : Nat → Int32) (fi : Nat → Int32) (fl : Nat → Int32) (pa : Nat → Int32) (sh : Nat → Int32) (od : Nat → Int32) (bd : Nat → Int32) (bs : Nat → Int32)  (out : Int32 × Int32 × Int32 × (Nat → Int32) × (Nat → Int32) × (Nat → Int32) × (Nat → Int32) × (Nat → Int32)) (h : mi_MO_full N th ki ce wi fo cu gr ru nu gv ca fi fl pa sh od bd bs = some out) : fw_C l y_MO_full (.code y_MO_full b_MO_full 3 (some .int) :: Gw) (fr 4 90) D vwCl (tyA cI cL) [.ref (ad 0)] (wM ad cI cL th ki ce wi ma fo cu gr ru nu gv ca nw lo ke un cn fi fl pa sh od bd bs) (some (.int out.1)) (wM ad cI cL out.2.1 ki ce wi ma out.2.2.1 cu gr ru nu out.2.2.2.1 out.2.2.2.2.1 nw lo ke un cn out.2.2.2.2.2.1 out.2.2.2.2.2.2.1 out.2.2.2.2.2.2.2 sh od bd bs) := by
  refine fw_of (by decide) (Nat.le_of_ble_eq_true rfl) ?_
  intro p e s m args below meth c ls A R Q hR hQ S hr hlk hX hA hl hw
  have hK := hX.1
  have hx := S.1
  have hb := S.2.1
  have hown := S.2.2.2.1
  have hg := S.2.2.2.2
  have hl : lv_has ls 3 [(0, .ref (ad 0))] := hl
  unfold mi_MO_full at h
  refine lv_aload_n hx hb d_MO_full_0 rfl (lv_at hl 0 rfl) ?_
  refine ob h (fun r1 h1 h => ?_)
  refine fw_callV (As := []) (rest := []) (st1 := []) S (ct_MO_search l D ad cI cL N th ki ce wi ma fo cu gr ru nu gv ca nw lo ke un cn fi fl pa sh od bd bs r1 h1) q_873 q_875 s_23 q_10 k_MO_search hd_MO_search ⟨by rw [hR]; decide, by rw [hR]; decide⟩ rfl rfl hX hw hA 0 (ci := 6) rfl rfl hl.1 rfl rfl (Nat.le_of_ble_eq_true rfl) d_MO_full_1 ⟨Nat.zero_le _, Nat.zero_le _⟩ rfl (fun H locs hw => ?_)
  refine lv_aload_n hx hb d_MO_full_4 rfl (lv_at hl 0 rfl) ?_
  refine lv_aload_n hx hb d_MO_full_5 rfl (lv_at hl 0 rfl) ?_
  refine va_get (ci := 6) (v := .int r1.1) (C := R_MO) (T := F_MO) (N := 24) hx hb hg in_MO hown hK hw.1 0 rfl rfl 16 (by decide) (hg _ q_765) (fun _ h9 => h9) rfl d_MO_full_6 ?_
  have J17 : ∀ (j17s1 : Int32), mj_MO_full_17 N ki ce gv ca r1 j17s1 = some out → ∀ (ls : Array Slot) (H : Heap) (locs : List Loc), lv_has ls 3 [(0, .ref (ad 0))] → fw_H D vwCl A s.heap (wM ad cI cL th ki ce wi ma r1.1 cu gr ru nu gv ca nw lo ke un cn r1.2.1 r1.2.2.1 r1.2.2.2 sh od bd bs) H locs → W p l e R s m args below meth c H locs 0 0 Q (F0 m 17 ls [.int j17s1, .ref (ad 0)]) := by
    intro j17s1 h ls H locs hl hw
    unfold mj_MO_full_17 at h
    refine va_put (ci := 6) (v := .int j17s1) (ty := .int) (C := R_MO) (T := F_MO) (N := 24) hx hb hg in_MO t_MO t_MO_ok n_MO hown hK hw.1 hw.2.1 hw.2.2 0 rfl rfl 0 (by decide) (hg _ q_749) (fun _ h9 => h9) rfl (by decide +kernel) rfl rfl (Nat.le_of_ble_eq_true rfl) d_MO_full_17 (fun H locs hP hD hS => ?_)
    have hw : fw_H D vwCl A s.heap (wM ad cI cL j17s1 ki ce wi ma r1.1 cu gr ru nu gv ca nw lo ke un cn r1.2.1 r1.2.2.1 r1.2.2.2 sh od bd bs) H locs := ⟨hP, hD, hS⟩
    refine lv_aload_n hx hb d_MO_full_20 rfl (lv_at hl 0 rfl) ?_
    refine va_get (ci := 6) (v := .int j17s1) (C := R_MO) (T := F_MO) (N := 24) hx hb hg in_MO hown hK hw.1 0 rfl rfl 0 (by decide) (hg _ q_749) (fun _ h9 => h9) rfl d_MO_full_21 ?_
    refine lv_if_eq (tgt := 29) hx hb d_MO_full_24 (by decide) (fun hc => ?_) (fun hc => ?_)
    · have h := oi h hc
      refine lv_iconst (v := 0) hx hb d_MO_full_29 (by decide) ?_
      refine lv_istore_n (lv' := [(1, .int (0 : Int32)), (0, .ref (ad 0))]) hx hb d_MO_full_30 rfl hl (by decide) rfl (fun ls hl => ?_)
      refine lv_iconst (v := 0) hx hb d_MO_full_31 (by decide) ?_
      refine lv_istore_n (lv' := [(2, .int (0 : Int32)), (1, .int (0 : Int32)), (0, .ref (ad 0))]) hx hb d_MO_full_32 rfl hl (by decide) rfl (fun ls hl => ?_)
      have X33 : ∀ (y33 : Int32 × Int32 × (Nat → Int32)), mr_MO_full_33 N ki ce ca r1 j17s1 y33 = some out → ∀ (ls : Array Slot) (H : Heap) (locs : List Loc), lv_has ls 3 [(0, .ref (ad 0)), (1, .int y33.1)] → fw_H D vwCl A s.heap (wM ad cI cL j17s1 ki ce wi ma r1.1 cu gr ru nu y33.2.2 ca nw lo ke un cn r1.2.1 r1.2.2.1 r1.2.2.2 sh od bd bs) H locs → W p l e R s m args below meth c H locs 0 0 Q (F0 m 77 ls []) := by
        intro y33 h ls H locs hl hw
        unfold mr_MO_full_33 at h
        refine lv_aload_n hx hb d_MO_full_77 rfl (lv_at hl 0 rfl) ?_
        refine ob h (fun r78 h78 h => ?_)
        refine fw_callV (As := []) (rest := []) (st1 := []) S (ct_MO_refresh l D ad cI cL N j17s1 ki ce wi ma r1.1 cu gr ru nu y33.2.2 ca nw lo ke un cn r1.2.1 r1.2.2.1 r1.2.2.2 sh od bd bs r78 h78) q_741 q_743 s_18 q_10 k_MO_refresh hd_MO_refresh ⟨by rw [hR]; decide, by rw [hR]; decide⟩ rfl rfl hX hw hA 0 (ci := 6) rfl rfl hl.1 rfl rfl (Nat.le_of_ble_eq_true rfl) d_MO_full_78 ⟨Nat.zero_le _, Nat.zero_le _⟩ rfl (fun H locs hw => ?_)
        refine lv_iload_n hx hb d_MO_full_81 rfl (lv_at hl 1 rfl) ?_
        have q := Option.some.inj h
        subst q
        exact fw_iret hQ S hr hlk hX hw d_MO_full_82
      have L33 : ∀ (n33 : Nat) (x33 : Int32 × Int32 × (Nat → Int32)) (e33 : Int32 × Int32 × (Nat → Int32)), lp (mb_MO_full_33 ce r1) n33 x33 = some e33 → (mr_MO_full_33 N ki ce ca r1 j17s1) e33 = some out → ∀ (ls : Array Slot) (H : Heap) (locs : List Loc), lv_has ls 3 [(0, .ref (ad 0)), (1, .int x33.1), (2, .int x33.2.1)] → fw_H D vwCl A s.heap (wM ad cI cL j17s1 ki ce wi ma r1.1 cu gr ru nu x33.2.2 ca nw lo ke un cn r1.2.1 r1.2.2.1 r1.2.2.2 sh od bd bs) H locs → W p l e R s m args below meth c H locs 0 0 Q (F0 m 33 ls []) := by
        intro n33
        induction n33 with
        | zero => intro x33 e33 h1; exact absurd h1 lp_0
        | succ n33 ih33 =>
          intro x33 e33 h1 hr33 ls H locs hl hw
          rw [lp_s] at h1
          refine ob h1 (fun r33 h hk33 => ?_)
          unfold mb_MO_full_33 at h
          refine lv_iload_n hx hb d_MO_full_33 rfl (lv_at hl 2 rfl) ?_
          refine lv_aload_n hx hb d_MO_full_34 rfl (lv_at hl 0 rfl) ?_
          refine va_get (ci := 6) (v := .int ce) (C := R_MO) (T := F_MO) (N := 24) hx hb hg in_MO hown hK hw.1 0 rfl rfl 2 (by decide) (hg _ q_751) (fun _ h9 => h9) rfl d_MO_full_35 ?_
          refine lv_icmp_ge (tgt := 77) hx hb d_MO_full_38 (by decide) (fun hc => ?_) (fun hc => ?_)
          · have h := oi h hc
            have q := Option.some.inj h
            subst q
            have q := Option.some.inj hk33
            subst q
            exact X33 (x33.1, x33.2.1, x33.2.2) hr33 _ _ _ (lv_sub hl [0, 1] rfl) hw
          · have h := oe h hc
            refine lv_iload_n hx hb d_MO_full_41 rfl (lv_at hl 1 rfl) ?_
            refine lv_aload_n hx hb d_MO_full_42 rfl (lv_at hl 0 rfl) ?_
            refine va_get (ci := 6) (v := .ref (ad 5)) (C := R_MO) (T := F_MO) (N := 24) hx hb hg in_MO hown hK hw.1 0 rfl rfl 8 (by decide) (hg _ q_757) (fun _ h9 => h9) rfl d_MO_full_43 ?_
            refine lv_iload_n hx hb d_MO_full_46 rfl (lv_at hl 2 rfl) ?_
            refine oc h (fun hc1 h => ?_)
            refine va_iald hx hb hK hw.1 5 0 rfl rfl hc1 d_MO_full_47 ?_
            refine lv_iconst (v := (-1)) hx hb d_MO_full_48 (by decide) ?_
            have J57 : ∀ (j57s1 : Int32), mj_MO_full_57 r1 x33 j57s1 = some r33 → ∀ (ls : Array Slot) (H : Heap) (locs : List Loc), lv_has ls 3 [(0, .ref (ad 0)), (2, .int x33.2.1)] → fw_H D vwCl A s.heap (wM ad cI cL j17s1 ki ce wi ma r1.1 cu gr ru nu x33.2.2 ca nw lo ke un cn r1.2.1 r1.2.2.1 r1.2.2.2 sh od bd bs) H locs → W p l e R s m args below meth c H locs 0 0 Q (F0 m 57 ls [.int j57s1, .int x33.1]) := by
              intro j57s1 h ls H locs hl hw
              unfold mj_MO_full_57 at h
              refine lv_iadd hx hb d_MO_full_57 ?_
              refine lv_istore_n (lv' := [(1, .int (x33.1 + j57s1)), (0, .ref (ad 0)), (2, .int x33.2.1)]) hx hb d_MO_full_58 rfl hl (by decide) rfl (fun ls hl => ?_)
              refine lv_aload_n hx hb d_MO_full_59 rfl (lv_at hl 1 rfl) ?_
              refine va_get (ci := 6) (v := .ref (ad 5)) (C := R_MO) (T := F_MO) (N := 24) hx hb hg in_MO hown hK hw.1 0 rfl rfl 8 (by decide) (hg _ q_757) (fun _ h9 => h9) rfl d_MO_full_60 ?_
              refine lv_iload_n hx hb d_MO_full_63 rfl (lv_at hl 2 rfl) ?_
              refine lv_aload_n hx hb d_MO_full_64 rfl (lv_at hl 1 rfl) ?_
              refine va_get (ci := 6) (v := .ref (ad 12)) (C := R_MO) (T := F_MO) (N := 24) hx hb hg in_MO hown hK hw.1 0 rfl rfl 17 (by decide) (hg _ q_766) (fun _ h9 => h9) rfl d_MO_full_65 ?_
              refine lv_iload_n hx hb d_MO_full_68 rfl (lv_at hl 2 rfl) ?_
              refine va_iald hx hb hK hw.1 12 0 rfl rfl hc1 d_MO_full_69 ?_
              refine va_iast hx hb hK hw.1 hw.2.1 hw.2.2 5 0 rfl rfl hc1 d_MO_full_70 (fun H locs hP hD hS => ?_)
              have hw : fw_H D vwCl A s.heap (wM ad cI cL j17s1 ki ce wi ma r1.1 cu gr ru nu (upd x33.2.2 x33.2.1.toNatClampNeg (r1.2.1 x33.2.1.toNatClampNeg)) ca nw lo ke un cn r1.2.1 r1.2.2.1 r1.2.2.2 sh od bd bs) H locs := ⟨hP, hD, hS⟩
              refine lv_iinc (k := 2) (v := x33.2.1 + 1) (lv' := [(2, .int (x33.2.1 + 1)), (1, .int (x33.1 + j57s1)), (0, .ref (ad 0))]) hx hb d_MO_full_71 hl rfl (by rw [lit1]) (by decide) rfl (fun ls hl => ?_)
              refine lv_goto (tgt := 33) hx hb d_MO_full_74 (by decide) ?_
              have q := Option.some.inj h
              subst q
              exact ih33 (x33.1 + j57s1, x33.2.1 + 1, upd x33.2.2 x33.2.1.toNatClampNeg (r1.2.1 x33.2.1.toNatClampNeg)) e33 hk33 hr33 _ _ _ (lv_sub hl [2, 1, 0] rfl) hw
            refine lv_icmp_ne (tgt := 56) hx hb d_MO_full_49 (by decide) (fun hc => ?_) (fun hc => ?_)
            · have h := oe h hc
              refine lv_iconst (v := 0) hx hb d_MO_full_56 (by decide) ?_
              exact J57 (0 : Int32) h _ _ _ (lv_sub hl [0, 2] rfl) hw
            · have h := oi h hc
              refine lv_iconst (v := 1) hx hb d_MO_full_52 (by decide) ?_
              refine lv_goto (tgt := 57) hx hb d_MO_full_53 (by decide) ?_
              exact J57 (1 : Int32) h _ _ _ (lv_sub hl [0, 2] rfl) hw
      refine ob h (fun e33 h1 h2 => ?_)
      exact L33 N ((0 : Int32), (0 : Int32), gv) e33 h1 h2 _ _ _ (lv_sub hl [2, 1, 0] rfl) hw
    · have h := oe h hc
      refine lv_iconst (v := 0) hx hb d_MO_full_27 (by decide) ?_
      have q := Option.some.inj h
      subst q
      exact fw_iret hQ S hr hlk hX hw d_MO_full_28
  refine lv_if_ne (tgt := 16) hx hb d_MO_full_9 (by decide) (fun hc => ?_) (fun hc => ?_)
  · have h := oe h hc
    refine lv_iconst (v := 0) hx hb d_MO_full_16 (by decide) ?_
    exact J17 (0 : Int32) h _ _ _ hl hw
  · have h := oi h hc
    refine lv_iconst (v := 1) hx hb d_MO_full_12 (by decide) ?_
    refine lv_goto (tgt := 17) hx hb d_MO_full_13 (by decide) ?_
    exact J17 (1 : Int32) h _ _ _ hl hw
set_option maxHeartbeats 4000000 in
set_option maxRecDepth 100000 in
theorem ct_MO_thin (l : Launch) (D : va_G) (ad : Nat → Nat) (cI cL : ClassId) (N : Nat) (th : Int32) (ki : Int32) (ce : Int32) (wi : Int32) (ma : Int32) (fo : Int32) (cu : Nat → Int32) (gr : Nat → Int32) (ru : Nat → Int32) (nu : Nat → Int32) (gv : Nat → Int32) (ca : Nat → Int32) (nw : Nat → Int32) (lo : Nat → Int32) (ke : Nat → Int32) (un : Nat → Int32) (cn : Nat → Int32) (fi : Nat → Int32) (fl : Nat → Int32) (pa : Nat → Int32) (sh : Nat → Int32) (od : Nat → Int32) (bd : Nat → Int32) (bs : Nat → Int32) (u1 : Int32) (out : Int32 × Int32 × Int32 × Int32 × (Nat → Int32) × (Nat → Int32) × (Nat → Int32) × (Nat → Int32) × (Nat → Int32) × (Nat → Int32) × (Nat → Int32) × (Nat → Int32) × (Nat → Int32) × (Nat → Int32)) (h : mi_MO_thin N th ki ce wi ma fo cu gr ru nu gv ca nw lo ke un cn fi fl pa sh od bd bs u1 = some out) : fw_C l y_MO_thin (.code y_MO_thin b_MO_thin 8 (some .int) :: Gw) (fr 8 182) D vwCl (tyA cI cL) [.ref (ad 0), .int u1] (wM ad cI cL th ki ce wi ma fo cu gr ru nu gv ca nw lo ke un cn fi fl pa sh od bd bs) (some (.int out.1)) (wM ad cI cL out.2.1 ki ce wi out.2.2.1 out.2.2.2.1 cu gr ru nu out.2.2.2.2.1 out.2.2.2.2.2.1 out.2.2.2.2.2.2.1 out.2.2.2.2.2.2.2.1 out.2.2.2.2.2.2.2.2.1 out.2.2.2.2.2.2.2.2.2.1 out.2.2.2.2.2.2.2.2.2.2.1 out.2.2.2.2.2.2.2.2.2.2.2.1 out.2.2.2.2.2.2.2.2.2.2.2.2.1 out.2.2.2.2.2.2.2.2.2.2.2.2.2 sh od bd bs) := by
  refine fw_of (by decide) (Nat.le_of_ble_eq_true rfl) ?_
  intro p e s m args below meth c ls A R Q hR hQ S hr hlk hX hA hl hw
  have hK := hX.1
  have hx := S.1
  have hb := S.2.1
  have hown := S.2.2.2.1
  have hg := S.2.2.2.2
  have hl : lv_has ls 8 [(0, .ref (ad 0)), (1, .int u1)] := hl
  unfold mi_MO_thin at h
  refine lv_aload_n hx hb d_MO_thin_0 rfl (lv_at hl 0 rfl) ?_
  refine lv_iload_n hx hb d_MO_thin_1 rfl (lv_at hl 1 rfl) ?_
  refine lv_iconst (v := 1) hx hb d_MO_thin_2 (by decide) ?_
  have J16 : ∀ (j16s1 : Int32), mj_MO_thin_16 N ki ce wi ma fo cu gr ru nu gv ca nw lo ke un cn fi fl pa sh od bd bs u1 j16s1 = some out → ∀ (ls : Array Slot) (H : Heap) (locs : List Loc), lv_has ls 8 [(0, .ref (ad 0)), (1, .int u1)] → fw_H D vwCl A s.heap (wM ad cI cL th ki ce wi ma fo cu gr ru nu gv ca nw lo ke un cn fi fl pa sh od bd bs) H locs → W p l e R s m args below meth c H locs 0 0 Q (F0 m 16 ls [.int j16s1, .ref (ad 0)]) := by
    intro j16s1 h ls H locs hl hw
    unfold mj_MO_thin_16 at h
    refine va_put (ci := 6) (v := .int j16s1) (ty := .int) (C := R_MO) (T := F_MO) (N := 24) hx hb hg in_MO t_MO t_MO_ok n_MO hown hK hw.1 hw.2.1 hw.2.2 0 rfl rfl 0 (by decide) (hg _ q_749) (fun _ h9 => h9) rfl (by decide +kernel) rfl rfl (Nat.le_of_ble_eq_true rfl) d_MO_thin_16 (fun H locs hP hD hS => ?_)
    have hw : fw_H D vwCl A s.heap (wM ad cI cL j16s1 ki ce wi ma fo cu gr ru nu gv ca nw lo ke un cn fi fl pa sh od bd bs) H locs := ⟨hP, hD, hS⟩
    refine lv_aload_n hx hb d_MO_thin_19 rfl (lv_at hl 0 rfl) ?_
    refine va_get (ci := 6) (v := .int j16s1) (C := R_MO) (T := F_MO) (N := 24) hx hb hg in_MO hown hK hw.1 0 rfl rfl 0 (by decide) (hg _ q_749) (fun _ h9 => h9) rfl d_MO_thin_20 ?_
    refine lv_if_eq (tgt := 28) hx hb d_MO_thin_23 (by decide) (fun hc => ?_) (fun hc => ?_)
    · have h := oi h hc
      refine lv_aload_n hx hb d_MO_thin_28 rfl (lv_at hl 0 rfl) ?_
      refine ob h (fun r29 h29 h => ?_)
      refine fw_callV (As := []) (rest := []) (st1 := [.int r29.1]) S (ct_MO_gradeNow l D ad cI cL N j16s1 ki ce wi ma fo cu gr ru nu gv ca nw lo ke un cn fi fl pa sh od bd bs r29 h29) q_1008 q_1010 s_50 q_10 k_MO_gradeNow hd_MO_gradeNow ⟨by rw [hR]; decide, by rw [hR]; decide⟩ rfl rfl hX hw hA 0 (ci := 6) rfl rfl hl.1 rfl rfl (Nat.le_of_ble_eq_true rfl) d_MO_thin_29 ⟨Nat.zero_le _, Nat.zero_le _⟩ rfl (fun H locs hw => ?_)
      refine lv_istore_n (lv' := [(2, .int r29.1), (0, .ref (ad 0)), (1, .int u1)]) hx hb d_MO_thin_32 rfl hl (by decide) rfl (fun ls hl => ?_)
      refine lv_aload_n hx hb d_MO_thin_33 rfl (lv_at hl 1 rfl) ?_
      refine lv_iload_n hx hb d_MO_thin_34 rfl (lv_at hl 0 rfl) ?_
      have J48 : ∀ (j48s1 : Int32), mj_MO_thin_48 N ki ce wi cu gr ru nu gv ca sh od bd bs u1 r29 j48s1 = some out → ∀ (ls : Array Slot) (H : Heap) (locs : List Loc), lv_has ls 8 [(0, .ref (ad 0)), (1, .int u1)] → fw_H D vwCl A s.heap (wM ad cI cL j16s1 ki ce wi r29.2.1 r29.2.2.1 cu gr ru nu gv ca r29.2.2.2.1 r29.2.2.2.2.1 r29.2.2.2.2.2.1 r29.2.2.2.2.2.2.1 r29.2.2.2.2.2.2.2.1 r29.2.2.2.2.2.2.2.2.1 r29.2.2.2.2.2.2.2.2.2.1 r29.2.2.2.2.2.2.2.2.2.2 sh od bd bs) H locs → W p l e R s m args below meth c H locs 0 0 Q (F0 m 48 ls [.int j48s1, .ref (ad 0)]) := by
        intro j48s1 h ls H locs hl hw
        unfold mj_MO_thin_48 at h
        refine va_put (ci := 6) (v := .int j48s1) (ty := .int) (C := R_MO) (T := F_MO) (N := 24) hx hb hg in_MO t_MO t_MO_ok n_MO hown hK hw.1 hw.2.1 hw.2.2 0 rfl rfl 0 (by decide) (hg _ q_749) (fun _ h9 => h9) rfl (by decide +kernel) rfl rfl (Nat.le_of_ble_eq_true rfl) d_MO_thin_48 (fun H locs hP hD hS => ?_)
        have hw : fw_H D vwCl A s.heap (wM ad cI cL j48s1 ki ce wi r29.2.1 r29.2.2.1 cu gr ru nu gv ca r29.2.2.2.1 r29.2.2.2.2.1 r29.2.2.2.2.2.1 r29.2.2.2.2.2.2.1 r29.2.2.2.2.2.2.2.1 r29.2.2.2.2.2.2.2.2.1 r29.2.2.2.2.2.2.2.2.2.1 r29.2.2.2.2.2.2.2.2.2.2 sh od bd bs) H locs := ⟨hP, hD, hS⟩
        refine lv_aload_n hx hb d_MO_thin_51 rfl (lv_at hl 0 rfl) ?_
        refine va_get (ci := 6) (v := .int j48s1) (C := R_MO) (T := F_MO) (N := 24) hx hb hg in_MO hown hK hw.1 0 rfl rfl 0 (by decide) (hg _ q_749) (fun _ h9 => h9) rfl d_MO_thin_52 ?_
        refine lv_if_eq (tgt := 60) hx hb d_MO_thin_55 (by decide) (fun hc => ?_) (fun hc => ?_)
        · have h := oi h hc
          refine lv_iconst (v := 0) hx hb d_MO_thin_60 (by decide) ?_
          refine lv_istore_n (lv' := [(3, .int (0 : Int32)), (0, .ref (ad 0)), (1, .int u1)]) hx hb d_MO_thin_61 rfl hl (by decide) rfl (fun ls hl => ?_)
          refine lv_iconst (v := 0) hx hb d_MO_thin_62 (by decide) ?_
          refine lv_istore (lv' := [(4, .int (0 : Int32)), (3, .int (0 : Int32)), (0, .ref (ad 0)), (1, .int u1)]) hx hb d_MO_thin_63 hl (by decide) rfl (fun ls hl => ?_)
          have X65 : ∀ (y65 : Int32 × Int32 × Int32 × Int32 × (Nat → Int32) × (Nat → Int32) × (Nat → Int32) × (Nat → Int32) × (Nat → Int32) × (Nat → Int32) × (Nat → Int32) × (Nat → Int32) × (Nat → Int32)), mr_MO_thin_65 N ki ce ca j48s1 y65 = some out → ∀ (ls : Array Slot) (H : Heap) (locs : List Loc), lv_has ls 8 [(0, .ref (ad 0)), (3, .int y65.1)] → fw_H D vwCl A s.heap (wM ad cI cL j48s1 ki ce wi y65.2.2.1 y65.2.2.2.1 cu gr ru nu y65.2.2.2.2.1 ca y65.2.2.2.2.2.1 y65.2.2.2.2.2.2.1 y65.2.2.2.2.2.2.2.1 y65.2.2.2.2.2.2.2.2.1 y65.2.2.2.2.2.2.2.2.2.1 y65.2.2.2.2.2.2.2.2.2.2.1 y65.2.2.2.2.2.2.2.2.2.2.2.1 y65.2.2.2.2.2.2.2.2.2.2.2.2 sh od bd bs) H locs → W p l e R s m args below meth c H locs 0 0 Q (F0 m 161 ls []) := by
            intro y65 h ls H locs hl hw
            unfold mr_MO_thin_65 at h
            refine lv_aload_n hx hb d_MO_thin_161 rfl (lv_at hl 0 rfl) ?_
            refine ob h (fun r162 h162 h => ?_)
            refine fw_callV (As := []) (rest := []) (st1 := []) S (ct_MO_refresh l D ad cI cL N j48s1 ki ce wi y65.2.2.1 y65.2.2.2.1 cu gr ru nu y65.2.2.2.2.1 ca y65.2.2.2.2.2.1 y65.2.2.2.2.2.2.1 y65.2.2.2.2.2.2.2.1 y65.2.2.2.2.2.2.2.2.1 y65.2.2.2.2.2.2.2.2.2.1 y65.2.2.2.2.2.2.2.2.2.2.1 y65.2.2.2.2.2.2.2.2.2.2.2.1 y65.2.2.2.2.2.2.2.2.2.2.2.2 sh od bd bs r162 h162) q_741 q_743 s_18 q_10 k_MO_refresh hd_MO_refresh ⟨by rw [hR]; decide, by rw [hR]; decide⟩ rfl rfl hX hw hA 0 (ci := 6) rfl rfl hl.1 rfl rfl (Nat.le_of_ble_eq_true rfl) d_MO_thin_162 ⟨Nat.zero_le _, Nat.zero_le _⟩ rfl (fun H locs hw => ?_)
            refine lv_iload_n hx hb d_MO_thin_165 rfl (lv_at hl 1 rfl) ?_
            have q := Option.some.inj h
            subst q
            exact fw_iret hQ S hr hlk hX hw d_MO_thin_166
          have L65 : ∀ (n65 : Nat) (x65 : Int32 × Int32 × Int32 × Int32 × (Nat → Int32) × (Nat → Int32) × (Nat → Int32) × (Nat → Int32) × (Nat → Int32) × (Nat → Int32) × (Nat → Int32) × (Nat → Int32) × (Nat → Int32)) (e65 : Int32 × Int32 × Int32 × Int32 × (Nat → Int32) × (Nat → Int32) × (Nat → Int32) × (Nat → Int32) × (Nat → Int32) × (Nat → Int32) × (Nat → Int32) × (Nat → Int32) × (Nat → Int32)), lp (mb_MO_thin_65 N ki ce wi cu gr ru nu sh od bd bs u1) n65 x65 = some e65 → (mr_MO_thin_65 N ki ce ca j48s1) e65 = some out → ∀ (ls : Array Slot) (H : Heap) (locs : List Loc), lv_has ls 8 [(0, .ref (ad 0)), (1, .int u1), (3, .int x65.1), (4, .int x65.2.1)] → fw_H D vwCl A s.heap (wM ad cI cL j48s1 ki ce wi x65.2.2.1 x65.2.2.2.1 cu gr ru nu x65.2.2.2.2.1 ca x65.2.2.2.2.2.1 x65.2.2.2.2.2.2.1 x65.2.2.2.2.2.2.2.1 x65.2.2.2.2.2.2.2.2.1 x65.2.2.2.2.2.2.2.2.2.1 x65.2.2.2.2.2.2.2.2.2.2.1 x65.2.2.2.2.2.2.2.2.2.2.2.1 x65.2.2.2.2.2.2.2.2.2.2.2.2 sh od bd bs) H locs → W p l e R s m args below meth c H locs 0 0 Q (F0 m 65 ls []) := by
            intro n65
            induction n65 with
            | zero => intro x65 e65 h1; exact absurd h1 lp_0
            | succ n65 ih65 =>
              intro x65 e65 h1 hr65 ls H locs hl hw
              rw [lp_s] at h1
              refine ob h1 (fun r65 h hk65 => ?_)
              unfold mb_MO_thin_65 at h
              refine lv_iload hx hb d_MO_thin_65 (lv_at hl 3 rfl) ?_
              refine lv_aload_n hx hb d_MO_thin_67 rfl (lv_at hl 0 rfl) ?_
              refine va_get (ci := 6) (v := .int ce) (C := R_MO) (T := F_MO) (N := 24) hx hb hg in_MO hown hK hw.1 0 rfl rfl 2 (by decide) (hg _ q_751) (fun _ h9 => h9) rfl d_MO_thin_68 ?_
              refine lv_icmp_ge (tgt := 161) hx hb d_MO_thin_71 (by decide) (fun hc => ?_) (fun hc => ?_)
              · have h := oi h hc
                have q := Option.some.inj h
                subst q
                have q := Option.some.inj hk65
                subst q
                exact X65 (x65.1, x65.2.1, x65.2.2.1, x65.2.2.2.1, x65.2.2.2.2.1, x65.2.2.2.2.2.1, x65.2.2.2.2.2.2.1, x65.2.2.2.2.2.2.2.1, x65.2.2.2.2.2.2.2.2.1, x65.2.2.2.2.2.2.2.2.2.1, x65.2.2.2.2.2.2.2.2.2.2.1, x65.2.2.2.2.2.2.2.2.2.2.2.1, x65.2.2.2.2.2.2.2.2.2.2.2.2) hr65 _ _ _ (lv_sub hl [0, 2] rfl) hw
              · have h := oe h hc
                refine lv_aload_n hx hb d_MO_thin_74 rfl (lv_at hl 0 rfl) ?_
                refine va_get (ci := 6) (v := .ref (ad 5)) (C := R_MO) (T := F_MO) (N := 24) hx hb hg in_MO hown hK hw.1 0 rfl rfl 8 (by decide) (hg _ q_757) (fun _ h9 => h9) rfl d_MO_thin_75 ?_
                refine lv_iload hx hb d_MO_thin_78 (lv_at hl 3 rfl) ?_
                refine oc h (fun hc1 h => ?_)
                refine va_iald hx hb hK hw.1 5 0 rfl rfl hc1 d_MO_thin_80 ?_
                refine lv_istore (lv' := [(5, .int (x65.2.2.2.2.1 x65.2.1.toNatClampNeg)), (0, .ref (ad 0)), (1, .int u1), (3, .int x65.1), (4, .int x65.2.1)]) hx hb d_MO_thin_81 hl (by decide) rfl (fun ls hl => ?_)
                refine lv_iload hx hb d_MO_thin_83 (lv_at hl 0 rfl) ?_
                refine lv_iconst (v := (-1)) hx hb d_MO_thin_85 (by decide) ?_
                refine lv_icmp_ne (tgt := 92) hx hb d_MO_thin_86 (by decide) (fun hc => ?_) (fun hc => ?_)
                · have h := oe h hc
                  refine lv_aload_n hx hb d_MO_thin_92 rfl (lv_at hl 1 rfl) ?_
                  refine va_get (ci := 6) (v := .ref (ad 5)) (C := R_MO) (T := F_MO) (N := 24) hx hb hg in_MO hown hK hw.1 0 rfl rfl 8 (by decide) (hg _ q_757) (fun _ h9 => h9) rfl d_MO_thin_93 ?_
                  refine lv_iload hx hb d_MO_thin_96 (lv_at hl 4 rfl) ?_
                  refine lv_iconst (v := (-1)) hx hb d_MO_thin_98 (by decide) ?_
                  refine va_iast hx hb hK hw.1 hw.2.1 hw.2.2 5 0 rfl rfl hc1 d_MO_thin_99 (fun H locs hP hD hS => ?_)
                  have hw : fw_H D vwCl A s.heap (wM ad cI cL j48s1 ki ce wi x65.2.2.1 x65.2.2.2.1 cu gr ru nu (upd x65.2.2.2.2.1 x65.2.1.toNatClampNeg (-1 : Int32)) ca x65.2.2.2.2.2.1 x65.2.2.2.2.2.2.1 x65.2.2.2.2.2.2.2.1 x65.2.2.2.2.2.2.2.2.1 x65.2.2.2.2.2.2.2.2.2.1 x65.2.2.2.2.2.2.2.2.2.2.1 x65.2.2.2.2.2.2.2.2.2.2.2.1 x65.2.2.2.2.2.2.2.2.2.2.2.2 sh od bd bs) H locs := ⟨hP, hD, hS⟩
                  refine lv_aload_n hx hb d_MO_thin_100 rfl (lv_at hl 1 rfl) ?_
                  refine ob h (fun r101 h101 h => ?_)
                  refine fw_callV (As := []) (rest := []) (st1 := [.int r101.1]) S (ct_MO_gradeNow l D ad cI cL N j48s1 ki ce wi x65.2.2.1 x65.2.2.2.1 cu gr ru nu (upd x65.2.2.2.2.1 x65.2.1.toNatClampNeg (-1 : Int32)) ca x65.2.2.2.2.2.1 x65.2.2.2.2.2.2.1 x65.2.2.2.2.2.2.2.1 x65.2.2.2.2.2.2.2.2.1 x65.2.2.2.2.2.2.2.2.2.1 x65.2.2.2.2.2.2.2.2.2.2.1 x65.2.2.2.2.2.2.2.2.2.2.2.1 x65.2.2.2.2.2.2.2.2.2.2.2.2 sh od bd bs r101 h101) q_1008 q_1010 s_50 q_10 k_MO_gradeNow hd_MO_gradeNow ⟨by rw [hR]; decide, by rw [hR]; decide⟩ rfl rfl hX hw hA 0 (ci := 6) rfl rfl hl.1 rfl rfl (Nat.le_of_ble_eq_true rfl) d_MO_thin_101 ⟨Nat.zero_le _, Nat.zero_le _⟩ rfl (fun H locs hw => ?_)
                  refine lv_istore (lv' := [(6, .int r101.1), (5, .int (x65.2.2.2.2.1 x65.2.1.toNatClampNeg)), (0, .ref (ad 0)), (1, .int u1), (3, .int x65.1), (4, .int x65.2.1)]) hx hb d_MO_thin_104 hl (by decide) rfl (fun ls hl => ?_)
                  refine lv_iload hx hb d_MO_thin_106 (lv_at hl 0 rfl) ?_
                  have J122 : ∀ (j122s0 : Int32), mj_MO_thin_122 x65 r101 j122s0 = some r65 → ∀ (ls : Array Slot) (H : Heap) (locs : List Loc), lv_has ls 8 [(0, .ref (ad 0)), (1, .int u1), (3, .int x65.1), (4, .int x65.2.1), (5, .int (x65.2.2.2.2.1 x65.2.1.toNatClampNeg))] → fw_H D vwCl A s.heap (wM ad cI cL j48s1 ki ce wi r101.2.1 r101.2.2.1 cu gr ru nu (upd x65.2.2.2.2.1 x65.2.1.toNatClampNeg (-1 : Int32)) ca r101.2.2.2.1 r101.2.2.2.2.1 r101.2.2.2.2.2.1 r101.2.2.2.2.2.2.1 r101.2.2.2.2.2.2.2.1 r101.2.2.2.2.2.2.2.2.1 r101.2.2.2.2.2.2.2.2.2.1 r101.2.2.2.2.2.2.2.2.2.2 sh od bd bs) H locs → W p l e R s m args below meth c H locs 0 0 Q (F0 m 122 ls [.int j122s0]) := by
                    intro j122s0 h ls H locs hl hw
                    unfold mj_MO_thin_122 at h
                    refine lv_istore (lv' := [(7, .int j122s0), (0, .ref (ad 0)), (1, .int u1), (3, .int x65.1), (4, .int x65.2.1), (5, .int (x65.2.2.2.2.1 x65.2.1.toNatClampNeg))]) hx hb d_MO_thin_122 hl (by decide) rfl (fun ls hl => ?_)
                    refine lv_aload_n hx hb d_MO_thin_124 rfl (lv_at hl 1 rfl) ?_
                    refine va_get (ci := 6) (v := .ref (ad 5)) (C := R_MO) (T := F_MO) (N := 24) hx hb hg in_MO hown hK hw.1 0 rfl rfl 8 (by decide) (hg _ q_757) (fun _ h9 => h9) rfl d_MO_thin_125 ?_
                    refine lv_iload hx hb d_MO_thin_128 (lv_at hl 4 rfl) ?_
                    refine lv_iload hx hb d_MO_thin_130 (lv_at hl 0 rfl) ?_
                    have J141 : ∀ (j141s2 : Int32), mj_MO_thin_141 x65 r101 j122s0 j141s2 = some r65 → ∀ (ls : Array Slot) (H : Heap) (locs : List Loc), lv_has ls 8 [(0, .ref (ad 0)), (1, .int u1), (3, .int x65.1), (4, .int x65.2.1), (7, .int j122s0)] → fw_H D vwCl A s.heap (wM ad cI cL j48s1 ki ce wi r101.2.1 r101.2.2.1 cu gr ru nu (upd x65.2.2.2.2.1 x65.2.1.toNatClampNeg (-1 : Int32)) ca r101.2.2.2.1 r101.2.2.2.2.1 r101.2.2.2.2.2.1 r101.2.2.2.2.2.2.1 r101.2.2.2.2.2.2.2.1 r101.2.2.2.2.2.2.2.2.1 r101.2.2.2.2.2.2.2.2.2.1 r101.2.2.2.2.2.2.2.2.2.2 sh od bd bs) H locs → W p l e R s m args below meth c H locs 0 0 Q (F0 m 141 ls [.int j141s2, .int x65.2.1, .ref (ad 5)]) := by
                      intro j141s2 h ls H locs hl hw
                      unfold mj_MO_thin_141 at h
                      refine va_iast hx hb hK hw.1 hw.2.1 hw.2.2 5 0 rfl rfl hc1 d_MO_thin_141 (fun H locs hP hD hS => ?_)
                      have hw : fw_H D vwCl A s.heap (wM ad cI cL j48s1 ki ce wi r101.2.1 r101.2.2.1 cu gr ru nu (upd (upd x65.2.2.2.2.1 x65.2.1.toNatClampNeg (-1 : Int32)) x65.2.1.toNatClampNeg j141s2) ca r101.2.2.2.1 r101.2.2.2.2.1 r101.2.2.2.2.2.1 r101.2.2.2.2.2.2.1 r101.2.2.2.2.2.2.2.1 r101.2.2.2.2.2.2.2.2.1 r101.2.2.2.2.2.2.2.2.2.1 r101.2.2.2.2.2.2.2.2.2.2 sh od bd bs) H locs := ⟨hP, hD, hS⟩
                      refine lv_iload_n hx hb d_MO_thin_142 rfl (lv_at hl 2 rfl) ?_
                      refine lv_iload hx hb d_MO_thin_143 (lv_at hl 4 rfl) ?_
                      refine lv_if_eq (tgt := 152) hx hb d_MO_thin_145 (by decide) (fun hc => ?_) (fun hc => ?_)
                      · have h := oi h hc
                        refine lv_iconst (v := 1) hx hb d_MO_thin_152 (by decide) ?_
                        refine lv_iadd hx hb d_MO_thin_153 ?_
                        refine lv_istore_n (lv' := [(3, .int (x65.1 + (1 : Int32))), (0, .ref (ad 0)), (1, .int u1), (4, .int x65.2.1), (7, .int j122s0)]) hx hb d_MO_thin_154 rfl hl (by decide) rfl (fun ls hl => ?_)
                        refine lv_iinc (k := 3) (v := x65.2.1 + 1) (lv' := [(4, .int (x65.2.1 + 1)), (3, .int (x65.1 + (1 : Int32))), (0, .ref (ad 0)), (1, .int u1), (7, .int j122s0)]) hx hb d_MO_thin_155 hl rfl (by rw [lit1]) (by decide) rfl (fun ls hl => ?_)
                        refine lv_goto (tgt := 65) hx hb d_MO_thin_158 (by decide) ?_
                        have q := Option.some.inj h
                        subst q
                        exact ih65 (x65.1 + (1 : Int32), x65.2.1 + 1, r101.2.1, r101.2.2.1, upd (upd x65.2.2.2.2.1 x65.2.1.toNatClampNeg (-1 : Int32)) x65.2.1.toNatClampNeg j141s2, r101.2.2.2.1, r101.2.2.2.2.1, r101.2.2.2.2.2.1, r101.2.2.2.2.2.2.1, r101.2.2.2.2.2.2.2.1, r101.2.2.2.2.2.2.2.2.1, r101.2.2.2.2.2.2.2.2.2.1, r101.2.2.2.2.2.2.2.2.2.2) e65 hk65 hr65 _ _ _ (lv_sub hl [2, 3, 1, 0] rfl) hw
                      · have h := oe h hc
                        refine lv_iconst (v := 0) hx hb d_MO_thin_148 (by decide) ?_
                        refine lv_goto (tgt := 153) hx hb d_MO_thin_149 (by decide) ?_
                        refine lv_iadd hx hb d_MO_thin_153 ?_
                        refine lv_istore_n (lv' := [(3, .int (x65.1 + (0 : Int32))), (0, .ref (ad 0)), (1, .int u1), (4, .int x65.2.1), (7, .int j122s0)]) hx hb d_MO_thin_154 rfl hl (by decide) rfl (fun ls hl => ?_)
                        refine lv_iinc (k := 3) (v := x65.2.1 + 1) (lv' := [(4, .int (x65.2.1 + 1)), (3, .int (x65.1 + (0 : Int32))), (0, .ref (ad 0)), (1, .int u1), (7, .int j122s0)]) hx hb d_MO_thin_155 hl rfl (by rw [lit1]) (by decide) rfl (fun ls hl => ?_)
                        refine lv_goto (tgt := 65) hx hb d_MO_thin_158 (by decide) ?_
                        have q := Option.some.inj h
                        subst q
                        exact ih65 (x65.1 + (0 : Int32), x65.2.1 + 1, r101.2.1, r101.2.2.1, upd (upd x65.2.2.2.2.1 x65.2.1.toNatClampNeg (-1 : Int32)) x65.2.1.toNatClampNeg j141s2, r101.2.2.2.1, r101.2.2.2.2.1, r101.2.2.2.2.2.1, r101.2.2.2.2.2.2.1, r101.2.2.2.2.2.2.2.1, r101.2.2.2.2.2.2.2.2.1, r101.2.2.2.2.2.2.2.2.2.1, r101.2.2.2.2.2.2.2.2.2.2) e65 hk65 hr65 _ _ _ (lv_sub hl [2, 3, 1, 0] rfl) hw
                    refine lv_if_eq (tgt := 140) hx hb d_MO_thin_132 (by decide) (fun hc => ?_) (fun hc => ?_)
                    · have h := oi h hc
                      refine lv_iconst (v := (-1)) hx hb d_MO_thin_140 (by decide) ?_
                      exact J141 (-1 : Int32) h _ _ _ (lv_sub hl [1, 2, 3, 4, 0] rfl) hw
                    · have h := oe h hc
                      refine lv_iload hx hb d_MO_thin_135 (lv_at hl 5 rfl) ?_
                      refine lv_goto (tgt := 141) hx hb d_MO_thin_137 (by decide) ?_
                      exact J141 (x65.2.2.2.2.1 x65.2.1.toNatClampNeg) h _ _ _ (lv_sub hl [1, 2, 3, 4, 0] rfl) hw
                  refine lv_if_eq (tgt := 117) hx hb d_MO_thin_108 (by decide) (fun hc => ?_) (fun hc => ?_)
                  · have h := oi h hc
                    refine lv_iconst (v := 1) hx hb d_MO_thin_117 (by decide) ?_
                    refine lv_goto (tgt := 122) hx hb d_MO_thin_118 (by decide) ?_
                    exact J122 (1 : Int32) h _ _ _ (lv_sub hl [2, 3, 4, 5, 1] rfl) hw
                  · have h := oe h hc
                    refine lv_iload hx hb d_MO_thin_111 (lv_at hl 0 rfl) ?_
                    refine lv_iload_n hx hb d_MO_thin_113 rfl (lv_at hl 3 rfl) ?_
                    refine lv_icmp_le (tgt := 121) hx hb d_MO_thin_114 (by decide) (fun hc => ?_) (fun hc => ?_)
                    · have h := oi h hc
                      refine lv_iconst (v := 0) hx hb d_MO_thin_121 (by decide) ?_
                      exact J122 (0 : Int32) h _ _ _ (lv_sub hl [2, 3, 4, 5, 1] rfl) hw
                    · have h := oe h hc
                      refine lv_iconst (v := 1) hx hb d_MO_thin_117 (by decide) ?_
                      refine lv_goto (tgt := 122) hx hb d_MO_thin_118 (by decide) ?_
                      exact J122 (1 : Int32) h _ _ _ (lv_sub hl [2, 3, 4, 5, 1] rfl) hw
                · have h := oi h hc
                  refine lv_goto (tgt := 155) hx hb d_MO_thin_89 (by decide) ?_
                  refine lv_iinc (k := 4) (v := x65.2.1 + 1) (lv' := [(4, .int (x65.2.1 + 1)), (5, .int (x65.2.2.2.2.1 x65.2.1.toNatClampNeg)), (0, .ref (ad 0)), (1, .int u1), (3, .int x65.1)]) hx hb d_MO_thin_155 hl rfl (by rw [lit1]) (by decide) rfl (fun ls hl => ?_)
                  refine lv_goto (tgt := 65) hx hb d_MO_thin_158 (by decide) ?_
                  have q := Option.some.inj h
                  subst q
                  exact ih65 (x65.1, x65.2.1 + 1, x65.2.2.1, x65.2.2.2.1, x65.2.2.2.2.1, x65.2.2.2.2.2.1, x65.2.2.2.2.2.2.1, x65.2.2.2.2.2.2.2.1, x65.2.2.2.2.2.2.2.2.1, x65.2.2.2.2.2.2.2.2.2.1, x65.2.2.2.2.2.2.2.2.2.2.1, x65.2.2.2.2.2.2.2.2.2.2.2.1, x65.2.2.2.2.2.2.2.2.2.2.2.2) e65 hk65 hr65 _ _ _ (lv_sub hl [2, 3, 4, 0] rfl) hw
          refine ob h (fun e65 h1 h2 => ?_)
          exact L65 N ((0 : Int32), (0 : Int32), r29.2.1, r29.2.2.1, gv, r29.2.2.2.1, r29.2.2.2.2.1, r29.2.2.2.2.2.1, r29.2.2.2.2.2.2.1, r29.2.2.2.2.2.2.2.1, r29.2.2.2.2.2.2.2.2.1, r29.2.2.2.2.2.2.2.2.2.1, r29.2.2.2.2.2.2.2.2.2.2) e65 h1 h2 _ _ _ (lv_sub hl [2, 3, 1, 0] rfl) hw
        · have h := oe h hc
          refine lv_iconst (v := 0) hx hb d_MO_thin_58 (by decide) ?_
          have q := Option.some.inj h
          subst q
          exact fw_iret hQ S hr hlk hX hw d_MO_thin_59
      refine lv_if_eq (tgt := 43) hx hb d_MO_thin_35 (by decide) (fun hc => ?_) (fun hc => ?_)
      · have h := oi h hc
        refine lv_iconst (v := 2) hx hb d_MO_thin_43 (by decide) ?_
        refine lv_goto (tgt := 48) hx hb d_MO_thin_44 (by decide) ?_
        exact J48 (2 : Int32) h _ _ _ (lv_sub hl [1, 2] rfl) hw
      · have h := oe h hc
        refine lv_iload_n hx hb d_MO_thin_38 rfl (lv_at hl 0 rfl) ?_
        refine lv_iload_n hx hb d_MO_thin_39 rfl (lv_at hl 2 rfl) ?_
        refine lv_icmp_le (tgt := 47) hx hb d_MO_thin_40 (by decide) (fun hc => ?_) (fun hc => ?_)
        · have h := oi h hc
          refine lv_iconst (v := 0) hx hb d_MO_thin_47 (by decide) ?_
          exact J48 (0 : Int32) h _ _ _ (lv_sub hl [1, 2] rfl) hw
        · have h := oe h hc
          refine lv_iconst (v := 2) hx hb d_MO_thin_43 (by decide) ?_
          refine lv_goto (tgt := 48) hx hb d_MO_thin_44 (by decide) ?_
          exact J48 (2 : Int32) h _ _ _ (lv_sub hl [1, 2] rfl) hw
    · have h := oe h hc
      refine lv_iconst (v := 0) hx hb d_MO_thin_26 (by decide) ?_
      have q := Option.some.inj h
      subst q
      exact fw_iret hQ S hr hlk hX hw d_MO_thin_27
  refine lv_icmp_lt (tgt := 11) hx hb d_MO_thin_3 (by decide) (fun hc => ?_) (fun hc => ?_)
  · have h := oi h hc
    refine lv_iconst (v := 1) hx hb d_MO_thin_11 (by decide) ?_
    refine lv_goto (tgt := 16) hx hb d_MO_thin_12 (by decide) ?_
    exact J16 (1 : Int32) h _ _ _ hl hw
  · have h := oe h hc
    refine lv_iload_n hx hb d_MO_thin_6 rfl (lv_at hl 1 rfl) ?_
    refine lv_iconst (v := 3) hx hb d_MO_thin_7 (by decide) ?_
    refine lv_icmp_le (tgt := 15) hx hb d_MO_thin_8 (by decide) (fun hc => ?_) (fun hc => ?_)
    · have h := oi h hc
      refine lv_iconst (v := 0) hx hb d_MO_thin_15 (by decide) ?_
      exact J16 (0 : Int32) h _ _ _ hl hw
    · have h := oe h hc
      refine lv_iconst (v := 1) hx hb d_MO_thin_11 (by decide) ?_
      refine lv_goto (tgt := 16) hx hb d_MO_thin_12 (by decide) ?_
      exact J16 (1 : Int32) h _ _ _ hl hw
