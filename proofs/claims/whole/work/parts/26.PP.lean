theorem d_PP_isEasy_0 : decode b_PP_isEasy 0 = .ok (.iload_n 0, 1) := by decide +kernel
theorem d_PP_isEasy_1 : decode b_PP_isEasy 1 = .ok (.ifCond .eq 12, 3) := by decide +kernel
theorem d_PP_isEasy_4 : decode b_PP_isEasy 4 = .ok (.iload_n 0, 1) := by decide +kernel
theorem d_PP_isEasy_5 : decode b_PP_isEasy 5 = .ok (.iload_n 1, 1) := by decide +kernel
theorem d_PP_isEasy_6 : decode b_PP_isEasy 6 = .ok (.if_icmp .gt 7, 3) := by decide +kernel
theorem d_PP_isEasy_9 : decode b_PP_isEasy 9 = .ok (.iconst 1, 1) := by decide +kernel
theorem d_PP_isEasy_10 : decode b_PP_isEasy 10 = .ok (.goto 4, 3) := by decide +kernel
theorem d_PP_isEasy_13 : decode b_PP_isEasy 13 = .ok (.iconst 0, 1) := by decide +kernel
theorem d_PP_isEasy_14 : decode b_PP_isEasy 14 = .ok (.ireturn, 1) := by decide +kernel
theorem d_PP_atFirst_0 : decode b_PP_atFirst 0 = .ok (.lconst 0, 1) := by decide +kernel
theorem d_PP_atFirst_1 : decode b_PP_atFirst 1 = .ok (.lstore_n 1, 1) := by decide +kernel
theorem d_PP_atFirst_2 : decode b_PP_atFirst 2 = .ok (.iconst 0, 1) := by decide +kernel
theorem d_PP_atFirst_3 : decode b_PP_atFirst 3 = .ok (.istore_n 3, 1) := by decide +kernel
theorem d_PP_atFirst_4 : decode b_PP_atFirst 4 = .ok (.iload_n 3, 1) := by decide +kernel
theorem d_PP_atFirst_5 : decode b_PP_atFirst 5 = .ok (.aload_n 0, 1) := by decide +kernel
theorem d_PP_atFirst_6 : decode b_PP_atFirst 6 = .ok (.getfield 41, 3) := by decide +kernel
theorem d_PP_atFirst_9 : decode b_PP_atFirst 9 = .ok (.getfield 56, 3) := by decide +kernel
theorem d_PP_atFirst_12 : decode b_PP_atFirst 12 = .ok (.if_icmp .ge 47, 3) := by decide +kernel
theorem d_PP_atFirst_15 : decode b_PP_atFirst 15 = .ok (.lload_n 1, 1) := by decide +kernel
theorem d_PP_atFirst_16 : decode b_PP_atFirst 16 = .ok (.aload_n 0, 1) := by decide +kernel
theorem d_PP_atFirst_17 : decode b_PP_atFirst 17 = .ok (.getfield 37, 3) := by decide +kernel
theorem d_PP_atFirst_20 : decode b_PP_atFirst 20 = .ok (.iload_n 3, 1) := by decide +kernel
theorem d_PP_atFirst_21 : decode b_PP_atFirst 21 = .ok (.iaload, 1) := by decide +kernel
theorem d_PP_atFirst_22 : decode b_PP_atFirst 22 = .ok (.iconst (-1), 1) := by decide +kernel
theorem d_PP_atFirst_23 : decode b_PP_atFirst 23 = .ok (.if_icmp .ne 14, 3) := by decide +kernel
theorem d_PP_atFirst_26 : decode b_PP_atFirst 26 = .ok (.aload_n 0, 1) := by decide +kernel
theorem d_PP_atFirst_27 : decode b_PP_atFirst 27 = .ok (.getfield 41, 3) := by decide +kernel
theorem d_PP_atFirst_30 : decode b_PP_atFirst 30 = .ok (.iload_n 3, 1) := by decide +kernel
theorem d_PP_atFirst_31 : decode b_PP_atFirst 31 = .ok (.invokevirtual 194, 3) := by decide +kernel
theorem d_PP_atFirst_34 : decode b_PP_atFirst 34 = .ok (.goto 17, 3) := by decide +kernel
theorem d_PP_atFirst_37 : decode b_PP_atFirst 37 = .ok (.aload_n 0, 1) := by decide +kernel
theorem d_PP_atFirst_38 : decode b_PP_atFirst 38 = .ok (.getfield 41, 3) := by decide +kernel
theorem d_PP_atFirst_41 : decode b_PP_atFirst 41 = .ok (.iload_n 3, 1) := by decide +kernel
theorem d_PP_atFirst_42 : decode b_PP_atFirst 42 = .ok (.aload_n 0, 1) := by decide +kernel
theorem d_PP_atFirst_43 : decode b_PP_atFirst 43 = .ok (.getfield 37, 3) := by decide +kernel
theorem d_PP_atFirst_46 : decode b_PP_atFirst 46 = .ok (.iload_n 3, 1) := by decide +kernel
theorem d_PP_atFirst_47 : decode b_PP_atFirst 47 = .ok (.iaload, 1) := by decide +kernel
theorem d_PP_atFirst_48 : decode b_PP_atFirst 48 = .ok (.invokevirtual 198, 3) := by decide +kernel
theorem d_PP_atFirst_51 : decode b_PP_atFirst 51 = .ok (.lor, 1) := by decide +kernel
theorem d_PP_atFirst_52 : decode b_PP_atFirst 52 = .ok (.lstore_n 1, 1) := by decide +kernel
theorem d_PP_atFirst_53 : decode b_PP_atFirst 53 = .ok (.iinc 3 1, 3) := by decide +kernel
theorem d_PP_atFirst_56 : decode b_PP_atFirst 56 = .ok (.goto (-52), 3) := by decide +kernel
theorem d_PP_atFirst_59 : decode b_PP_atFirst 59 = .ok (.lload_n 1, 1) := by decide +kernel
theorem d_PP_atFirst_60 : decode b_PP_atFirst 60 = .ok (.lreturn, 1) := by decide +kernel
theorem d_PP_renewUnits_0 : decode b_PP_renewUnits 0 = .ok (.aload_n 0, 1) := by decide +kernel
theorem d_PP_renewUnits_1 : decode b_PP_renewUnits 1 = .ok (.getfield 33, 3) := by decide +kernel
theorem d_PP_renewUnits_4 : decode b_PP_renewUnits 4 = .ok (.getfield 172, 3) := by decide +kernel
theorem d_PP_renewUnits_7 : decode b_PP_renewUnits 7 = .ok (.invokevirtual 188, 3) := by decide +kernel
theorem d_PP_renewUnits_10 : decode b_PP_renewUnits 10 = .ok (.aload_n 0, 1) := by decide +kernel
theorem d_PP_renewUnits_11 : decode b_PP_renewUnits 11 = .ok (.getfield 41, 3) := by decide +kernel
theorem d_PP_renewUnits_14 : decode b_PP_renewUnits 14 = .ok (.aload_n 0, 1) := by decide +kernel
theorem d_PP_renewUnits_15 : decode b_PP_renewUnits 15 = .ok (.getfield 33, 3) := by decide +kernel
theorem d_PP_renewUnits_18 : decode b_PP_renewUnits 18 = .ok (.getfield 172, 3) := by decide +kernel
theorem d_PP_renewUnits_21 : decode b_PP_renewUnits 21 = .ok (.invokevirtual 191, 3) := by decide +kernel
theorem d_PP_renewUnits_24 : decode b_PP_renewUnits 24 = .ok (.aload_n 0, 1) := by decide +kernel
theorem d_PP_renewUnits_25 : decode b_PP_renewUnits 25 = .ok (.aload_n 0, 1) := by decide +kernel
theorem d_PP_renewUnits_26 : decode b_PP_renewUnits 26 = .ok (.invokevirtual 115, 3) := by decide +kernel
theorem d_PP_renewUnits_29 : decode b_PP_renewUnits 29 = .ok (.putfield 119, 3) := by decide +kernel
theorem d_PP_renewUnits_32 : decode b_PP_renewUnits 32 = .ok (.return_, 1) := by decide +kernel
theorem d_PP_startNew_0 : decode b_PP_startNew 0 = .ok (.aload_n 0, 1) := by decide +kernel
theorem d_PP_startNew_1 : decode b_PP_startNew 1 = .ok (.iload_n 1, 1) := by decide +kernel
theorem d_PP_startNew_2 : decode b_PP_startNew 2 = .ok (.putfield 45, 3) := by decide +kernel
theorem d_PP_startNew_5 : decode b_PP_startNew 5 = .ok (.aload_n 0, 1) := by decide +kernel
theorem d_PP_startNew_6 : decode b_PP_startNew 6 = .ok (.iload_n 1, 1) := by decide +kernel
theorem d_PP_startNew_7 : decode b_PP_startNew 7 = .ok (.ifCond .ne 10, 3) := by decide +kernel
theorem d_PP_startNew_10 : decode b_PP_startNew 10 = .ok (.aload_n 0, 1) := by decide +kernel
theorem d_PP_startNew_11 : decode b_PP_startNew 11 = .ok (.getfield 10, 3) := by decide +kernel
theorem d_PP_startNew_14 : decode b_PP_startNew 14 = .ok (.goto 19, 3) := by decide +kernel
theorem d_PP_startNew_17 : decode b_PP_startNew 17 = .ok (.iload_n 1, 1) := by decide +kernel
theorem d_PP_startNew_18 : decode b_PP_startNew 18 = .ok (.iconst 1, 1) := by decide +kernel
theorem d_PP_startNew_19 : decode b_PP_startNew 19 = .ok (.if_icmp .ne 10, 3) := by decide +kernel
theorem d_PP_startNew_22 : decode b_PP_startNew 22 = .ok (.aload_n 0, 1) := by decide +kernel
theorem d_PP_startNew_23 : decode b_PP_startNew 23 = .ok (.getfield 19, 3) := by decide +kernel
theorem d_PP_startNew_26 : decode b_PP_startNew 26 = .ok (.goto 7, 3) := by decide +kernel
theorem d_PP_startNew_29 : decode b_PP_startNew 29 = .ok (.aload_n 0, 1) := by decide +kernel
theorem d_PP_startNew_30 : decode b_PP_startNew 30 = .ok (.getfield 26, 3) := by decide +kernel
theorem d_PP_startNew_33 : decode b_PP_startNew 33 = .ok (.putfield 41, 3) := by decide +kernel
theorem d_PP_startNew_36 : decode b_PP_startNew 36 = .ok (.aload_n 0, 1) := by decide +kernel
theorem d_PP_startNew_37 : decode b_PP_startNew 37 = .ok (.getfield 41, 3) := by decide +kernel
theorem d_PP_startNew_40 : decode b_PP_startNew 40 = .ok (.invokevirtual 169, 3) := by decide +kernel
theorem d_PP_startNew_43 : decode b_PP_startNew 43 = .ok (.iconst 0, 1) := by decide +kernel
theorem d_PP_startNew_44 : decode b_PP_startNew 44 = .ok (.istore_n 2, 1) := by decide +kernel
theorem d_PP_startNew_45 : decode b_PP_startNew 45 = .ok (.iload_n 2, 1) := by decide +kernel
theorem d_PP_startNew_46 : decode b_PP_startNew 46 = .ok (.bipush 25, 2) := by decide +kernel
theorem d_PP_startNew_48 : decode b_PP_startNew 48 = .ok (.if_icmp .ge 16, 3) := by decide +kernel
theorem d_PP_startNew_51 : decode b_PP_startNew 51 = .ok (.aload_n 0, 1) := by decide +kernel
theorem d_PP_startNew_52 : decode b_PP_startNew 52 = .ok (.getfield 37, 3) := by decide +kernel
theorem d_PP_startNew_55 : decode b_PP_startNew 55 = .ok (.iload_n 2, 1) := by decide +kernel
theorem d_PP_startNew_56 : decode b_PP_startNew 56 = .ok (.iconst (-1), 1) := by decide +kernel
theorem d_PP_startNew_57 : decode b_PP_startNew 57 = .ok (.iastore, 1) := by decide +kernel
theorem d_PP_startNew_58 : decode b_PP_startNew 58 = .ok (.iinc 2 1, 3) := by decide +kernel
theorem d_PP_startNew_61 : decode b_PP_startNew 61 = .ok (.goto (-16), 3) := by decide +kernel
theorem d_PP_startNew_64 : decode b_PP_startNew 64 = .ok (.aload_n 0, 1) := by decide +kernel
theorem d_PP_startNew_65 : decode b_PP_startNew 65 = .ok (.getfield 33, 3) := by decide +kernel
theorem d_PP_startNew_68 : decode b_PP_startNew 68 = .ok (.getfield 172, 3) := by decide +kernel
theorem d_PP_startNew_71 : decode b_PP_startNew 71 = .ok (.invokevirtual 176, 3) := by decide +kernel
theorem d_PP_startNew_74 : decode b_PP_startNew 74 = .ok (.aload_n 0, 1) := by decide +kernel
theorem d_PP_startNew_75 : decode b_PP_startNew 75 = .ok (.getfield 41, 3) := by decide +kernel
theorem d_PP_startNew_78 : decode b_PP_startNew 78 = .ok (.aload_n 0, 1) := by decide +kernel
theorem d_PP_startNew_79 : decode b_PP_startNew 79 = .ok (.getfield 33, 3) := by decide +kernel
theorem d_PP_startNew_82 : decode b_PP_startNew 82 = .ok (.getfield 172, 3) := by decide +kernel
theorem d_PP_startNew_85 : decode b_PP_startNew 85 = .ok (.invokevirtual 181, 3) := by decide +kernel
theorem d_PP_startNew_88 : decode b_PP_startNew 88 = .ok (.aload_n 0, 1) := by decide +kernel
theorem d_PP_startNew_89 : decode b_PP_startNew 89 = .ok (.getfield 33, 3) := by decide +kernel
theorem d_PP_startNew_92 : decode b_PP_startNew 92 = .ok (.getfield 172, 3) := by decide +kernel
theorem d_PP_startNew_95 : decode b_PP_startNew 95 = .ok (.invokevirtual 185, 3) := by decide +kernel
theorem d_PP_startNew_98 : decode b_PP_startNew 98 = .ok (.aload_n 0, 1) := by decide +kernel
theorem d_PP_startNew_99 : decode b_PP_startNew 99 = .ok (.invokevirtual 74, 3) := by decide +kernel
theorem d_PP_startNew_102 : decode b_PP_startNew 102 = .ok (.return_, 1) := by decide +kernel
theorem d_PP_kind_0 : decode b_PP_kind 0 = .ok (.aload_n 0, 1) := by decide +kernel
theorem d_PP_kind_1 : decode b_PP_kind 1 = .ok (.getfield 45, 3) := by decide +kernel
theorem d_PP_kind_4 : decode b_PP_kind 4 = .ok (.ireturn, 1) := by decide +kernel
theorem d_PP_fillings_0 : decode b_PP_fillings 0 = .ok (.aload_n 0, 1) := by decide +kernel
theorem d_PP_fillings_1 : decode b_PP_fillings 1 = .ok (.getfield 33, 3) := by decide +kernel
theorem d_PP_fillings_4 : decode b_PP_fillings 4 = .ok (.aload_n 0, 1) := by decide +kernel
theorem d_PP_fillings_5 : decode b_PP_fillings 5 = .ok (.getfield 41, 3) := by decide +kernel
theorem d_PP_fillings_8 : decode b_PP_fillings 8 = .ok (.aload_n 0, 1) := by decide +kernel
theorem d_PP_fillings_9 : decode b_PP_fillings 9 = .ok (.invokevirtual 115, 3) := by decide +kernel
theorem d_PP_fillings_12 : decode b_PP_fillings 12 = .ok (.iconst 2, 1) := by decide +kernel
theorem d_PP_fillings_13 : decode b_PP_fillings 13 = .ok (.invokevirtual 123, 3) := by decide +kernel
theorem d_PP_fillings_16 : decode b_PP_fillings 16 = .ok (.ireturn, 1) := by decide +kernel
theorem d_PP_fresh_0 : decode b_PP_fresh 0 = .ok (.aload_n 0, 1) := by decide +kernel
theorem d_PP_fresh_1 : decode b_PP_fresh 1 = .ok (.aload_n 0, 1) := by decide +kernel
theorem d_PP_fresh_2 : decode b_PP_fresh 2 = .ok (.invokevirtual 115, 3) := by decide +kernel
theorem d_PP_fresh_5 : decode b_PP_fresh 5 = .ok (.putfield 119, 3) := by decide +kernel
theorem d_PP_fresh_8 : decode b_PP_fresh 8 = .ok (.aload_n 0, 1) := by decide +kernel
theorem d_PP_fresh_9 : decode b_PP_fresh 9 = .ok (.getfield 119, 3) := by decide +kernel
theorem d_PP_fresh_12 : decode b_PP_fresh 12 = .ok (.invokestatic 134, 3) := by decide +kernel
theorem d_PP_fresh_15 : decode b_PP_fresh 15 = .ok (.ireturn, 1) := by decide +kernel
theorem d_PP_step_0 : decode b_PP_step 0 = .ok (.iconst 1, 1) := by decide +kernel
theorem d_PP_step_1 : decode b_PP_step 1 = .ok (.istore_n 1, 1) := by decide +kernel
theorem d_PP_step_2 : decode b_PP_step 2 = .ok (.aload_n 0, 1) := by decide +kernel
theorem d_PP_step_3 : decode b_PP_step 3 = .ok (.getfield 33, 3) := by decide +kernel
theorem d_PP_step_6 : decode b_PP_step 6 = .ok (.aload_n 0, 1) := by decide +kernel
theorem d_PP_step_7 : decode b_PP_step 7 = .ok (.getfield 119, 3) := by decide +kernel
theorem d_PP_step_10 : decode b_PP_step 10 = .ok (.invokevirtual 150, 3) := by decide +kernel
theorem d_PP_step_13 : decode b_PP_step 13 = .ok (.lstore_n 2, 1) := by decide +kernel
theorem d_PP_step_14 : decode b_PP_step 14 = .ok (.lload_n 2, 1) := by decide +kernel
theorem d_PP_step_15 : decode b_PP_step 15 = .ok (.lconst 0, 1) := by decide +kernel
theorem d_PP_step_16 : decode b_PP_step 16 = .ok (.lcmp, 1) := by decide +kernel
theorem d_PP_step_17 : decode b_PP_step 17 = .ok (.ifCond .ne 21, 3) := by decide +kernel
theorem d_PP_step_20 : decode b_PP_step 20 = .ok (.iconst 2, 1) := by decide +kernel
theorem d_PP_step_21 : decode b_PP_step 21 = .ok (.istore_n 1, 1) := by decide +kernel
theorem d_PP_step_22 : decode b_PP_step 22 = .ok (.aload_n 0, 1) := by decide +kernel
theorem d_PP_step_23 : decode b_PP_step 23 = .ok (.getfield 33, 3) := by decide +kernel
theorem d_PP_step_26 : decode b_PP_step 26 = .ok (.aload_n 0, 1) := by decide +kernel
theorem d_PP_step_27 : decode b_PP_step 27 = .ok (.getfield 41, 3) := by decide +kernel
theorem d_PP_step_30 : decode b_PP_step 30 = .ok (.aload_n 0, 1) := by decide +kernel
theorem d_PP_step_31 : decode b_PP_step 31 = .ok (.getfield 119, 3) := by decide +kernel
theorem d_PP_step_34 : decode b_PP_step 34 = .ok (.invokevirtual 153, 3) := by decide +kernel
theorem d_PP_step_37 : decode b_PP_step 37 = .ok (.lstore_n 2, 1) := by decide +kernel
theorem d_PP_step_38 : decode b_PP_step 38 = .ok (.lload_n 2, 1) := by decide +kernel
theorem d_PP_step_39 : decode b_PP_step 39 = .ok (.lconst 0, 1) := by decide +kernel
theorem d_PP_step_40 : decode b_PP_step 40 = .ok (.lcmp, 1) := by decide +kernel
theorem d_PP_step_41 : decode b_PP_step 41 = .ok (.ifCond .ne 5, 3) := by decide +kernel
theorem d_PP_step_44 : decode b_PP_step 44 = .ok (.iconst 0, 1) := by decide +kernel
theorem d_PP_step_45 : decode b_PP_step 45 = .ok (.ireturn, 1) := by decide +kernel
theorem d_PP_step_46 : decode b_PP_step 46 = .ok (.aload_n 0, 1) := by decide +kernel
theorem d_PP_step_47 : decode b_PP_step 47 = .ok (.dup, 1) := by decide +kernel
theorem d_PP_step_48 : decode b_PP_step 48 = .ok (.getfield 119, 3) := by decide +kernel
theorem d_PP_step_51 : decode b_PP_step 51 = .ok (.lload_n 2, 1) := by decide +kernel
theorem d_PP_step_52 : decode b_PP_step 52 = .ok (.ldc2_w 156, 3) := by decide +kernel
theorem d_PP_step_55 : decode b_PP_step 55 = .ok (.lxor, 1) := by decide +kernel
theorem d_PP_step_56 : decode b_PP_step 56 = .ok (.land, 1) := by decide +kernel
theorem d_PP_step_57 : decode b_PP_step 57 = .ok (.putfield 119, 3) := by decide +kernel
theorem d_PP_step_60 : decode b_PP_step 60 = .ok (.aload_n 0, 1) := by decide +kernel
theorem d_PP_step_61 : decode b_PP_step 61 = .ok (.getfield 41, 3) := by decide +kernel
theorem d_PP_step_64 : decode b_PP_step 64 = .ok (.lload_n 2, 1) := by decide +kernel
theorem d_PP_step_65 : decode b_PP_step 65 = .ok (.invokevirtual 158, 3) := by decide +kernel
theorem d_PP_step_68 : decode b_PP_step 68 = .ok (.istore 4, 2) := by decide +kernel
theorem d_PP_step_70 : decode b_PP_step 70 = .ok (.sipush 1000, 3) := by decide +kernel
theorem d_PP_step_73 : decode b_PP_step 73 = .ok (.iload_n 1, 1) := by decide +kernel
theorem d_PP_step_74 : decode b_PP_step 74 = .ok (.imul, 1) := by decide +kernel
theorem d_PP_step_75 : decode b_PP_step 75 = .ok (.bipush 10, 2) := by decide +kernel
theorem d_PP_step_77 : decode b_PP_step 77 = .ok (.iload 4, 2) := by decide +kernel
theorem d_PP_step_79 : decode b_PP_step 79 = .ok (.imul, 1) := by decide +kernel
theorem d_PP_step_80 : decode b_PP_step 80 = .ok (.iadd, 1) := by decide +kernel
theorem d_PP_step_81 : decode b_PP_step 81 = .ok (.aload_n 0, 1) := by decide +kernel
theorem d_PP_step_82 : decode b_PP_step 82 = .ok (.getfield 41, 3) := by decide +kernel
theorem d_PP_step_85 : decode b_PP_step 85 = .ok (.lload_n 2, 1) := by decide +kernel
theorem d_PP_step_86 : decode b_PP_step 86 = .ok (.iload 4, 2) := by decide +kernel
theorem d_PP_step_88 : decode b_PP_step 88 = .ok (.invokevirtual 130, 3) := by decide +kernel
theorem d_PP_step_91 : decode b_PP_step 91 = .ok (.iadd, 1) := by decide +kernel
theorem d_PP_step_92 : decode b_PP_step 92 = .ok (.ireturn, 1) := by decide +kernel
theorem d_PP_grade_0 : decode b_PP_grade 0 = .ok (.aload_n 0, 1) := by decide +kernel
theorem d_PP_grade_1 : decode b_PP_grade 1 = .ok (.invokevirtual 115, 3) := by decide +kernel
theorem d_PP_grade_4 : decode b_PP_grade 4 = .ok (.lstore_n 1, 1) := by decide +kernel
theorem d_PP_grade_5 : decode b_PP_grade 5 = .ok (.aload_n 0, 1) := by decide +kernel
theorem d_PP_grade_6 : decode b_PP_grade 6 = .ok (.getfield 33, 3) := by decide +kernel
theorem d_PP_grade_9 : decode b_PP_grade 9 = .ok (.aload_n 0, 1) := by decide +kernel
theorem d_PP_grade_10 : decode b_PP_grade 10 = .ok (.getfield 41, 3) := by decide +kernel
theorem d_PP_grade_13 : decode b_PP_grade 13 = .ok (.lload_n 1, 1) := by decide +kernel
theorem d_PP_grade_14 : decode b_PP_grade 14 = .ok (.iconst 2, 1) := by decide +kernel
theorem d_PP_grade_15 : decode b_PP_grade 15 = .ok (.invokevirtual 123, 3) := by decide +kernel
theorem d_PP_grade_18 : decode b_PP_grade 18 = .ok (.istore_n 3, 1) := by decide +kernel
theorem d_PP_grade_19 : decode b_PP_grade 19 = .ok (.iload_n 3, 1) := by decide +kernel
theorem d_PP_grade_20 : decode b_PP_grade 20 = .ok (.iconst 1, 1) := by decide +kernel
theorem d_PP_grade_21 : decode b_PP_grade 21 = .ok (.if_icmp .eq 13, 3) := by decide +kernel
theorem d_PP_grade_24 : decode b_PP_grade 24 = .ok (.iload_n 3, 1) := by decide +kernel
theorem d_PP_grade_25 : decode b_PP_grade 25 = .ok (.ifCond .ne 7, 3) := by decide +kernel
theorem d_PP_grade_28 : decode b_PP_grade 28 = .ok (.iconst 0, 1) := by decide +kernel
theorem d_PP_grade_29 : decode b_PP_grade 29 = .ok (.goto 4, 3) := by decide +kernel
theorem d_PP_grade_32 : decode b_PP_grade 32 = .ok (.iconst 4, 1) := by decide +kernel
theorem d_PP_grade_33 : decode b_PP_grade 33 = .ok (.ireturn, 1) := by decide +kernel
theorem d_PP_grade_34 : decode b_PP_grade 34 = .ok (.aload_n 0, 1) := by decide +kernel
theorem d_PP_grade_35 : decode b_PP_grade 35 = .ok (.getfield 33, 3) := by decide +kernel
theorem d_PP_grade_38 : decode b_PP_grade 38 = .ok (.lload_n 1, 1) := by decide +kernel
theorem d_PP_grade_39 : decode b_PP_grade 39 = .ok (.invokevirtual 139, 3) := by decide +kernel
theorem d_PP_grade_42 : decode b_PP_grade 42 = .ok (.invokestatic 134, 3) := by decide +kernel
theorem d_PP_grade_45 : decode b_PP_grade 45 = .ok (.aload_n 0, 1) := by decide +kernel
theorem d_PP_grade_46 : decode b_PP_grade 46 = .ok (.getfield 41, 3) := by decide +kernel
theorem d_PP_grade_49 : decode b_PP_grade 49 = .ok (.getfield 56, 3) := by decide +kernel
theorem d_PP_grade_52 : decode b_PP_grade 52 = .ok (.if_icmp .ne 5, 3) := by decide +kernel
theorem d_PP_grade_55 : decode b_PP_grade 55 = .ok (.iconst 1, 1) := by decide +kernel
theorem d_PP_grade_56 : decode b_PP_grade 56 = .ok (.ireturn, 1) := by decide +kernel
theorem d_PP_grade_57 : decode b_PP_grade 57 = .ok (.aload_n 0, 1) := by decide +kernel
theorem d_PP_grade_58 : decode b_PP_grade 58 = .ok (.getfield 33, 3) := by decide +kernel
theorem d_PP_grade_61 : decode b_PP_grade 61 = .ok (.aload_n 0, 1) := by decide +kernel
theorem d_PP_grade_62 : decode b_PP_grade 62 = .ok (.getfield 41, 3) := by decide +kernel
theorem d_PP_grade_65 : decode b_PP_grade 65 = .ok (.lload_n 1, 1) := by decide +kernel
theorem d_PP_grade_66 : decode b_PP_grade 66 = .ok (.invokevirtual 143, 3) := by decide +kernel
theorem d_PP_grade_69 : decode b_PP_grade 69 = .ok (.invokestatic 134, 3) := by decide +kernel
theorem d_PP_grade_72 : decode b_PP_grade 72 = .ok (.aload_n 0, 1) := by decide +kernel
theorem d_PP_grade_73 : decode b_PP_grade 73 = .ok (.getfield 41, 3) := by decide +kernel
theorem d_PP_grade_76 : decode b_PP_grade 76 = .ok (.getfield 56, 3) := by decide +kernel
theorem d_PP_grade_79 : decode b_PP_grade 79 = .ok (.if_icmp .ne 7, 3) := by decide +kernel
theorem d_PP_grade_82 : decode b_PP_grade 82 = .ok (.iconst 2, 1) := by decide +kernel
theorem d_PP_grade_83 : decode b_PP_grade 83 = .ok (.goto 4, 3) := by decide +kernel
theorem d_PP_grade_86 : decode b_PP_grade 86 = .ok (.iconst 3, 1) := by decide +kernel
theorem d_PP_grade_87 : decode b_PP_grade 87 = .ok (.ireturn, 1) := by decide +kernel
set_option maxHeartbeats 4000000 in
set_option maxRecDepth 100000 in
theorem ct_PP_isEasy (l : Launch) (D : va_G) (tys : List (ClassId × FieldType)) (w0 : va_W) (N : Nat)  (u0 : Int32) (u1 : Int32) (out : Int32) (h : mi_PP_isEasy N u0 u1 = some out) : fw_C l y_PP_isEasy (.code y_PP_isEasy b_PP_isEasy 2 (some .boolean) :: Gw) (fr 0 0) D vwCl tys [.int u0, .int u1] (w0) (some (.int out)) (w0) := by
  refine fw_of (by decide) (Nat.le_of_ble_eq_true rfl) ?_
  intro p e s m args below meth c ls A R Q hR hQ S hr hlk hX hA hl hw
  have hK := hX.1
  have hx := S.1
  have hb := S.2.1
  have hown := S.2.2.2.1
  have hg := S.2.2.2.2
  have hl : lv_has ls 2 [(0, .int u0), (1, .int u1)] := hl
  unfold mi_PP_isEasy at h
  refine lv_iload_n hx hb d_PP_isEasy_0 rfl (lv_at hl 0 rfl) ?_
  refine lv_if_eq (tgt := 13) hx hb d_PP_isEasy_1 (by decide) (fun hc => ?_) (fun hc => ?_)
  · have h := oi h hc
    refine lv_iconst (v := 0) hx hb d_PP_isEasy_13 (by decide) ?_
    have q := Option.some.inj h
    subst q
    exact fw_zret hQ S hr rfl hlk hX hw d_PP_isEasy_14
  · have h := oe h hc
    refine lv_iload_n hx hb d_PP_isEasy_4 rfl (lv_at hl 0 rfl) ?_
    refine lv_iload_n hx hb d_PP_isEasy_5 rfl (lv_at hl 1 rfl) ?_
    refine lv_icmp_gt (tgt := 13) hx hb d_PP_isEasy_6 (by decide) (fun hc => ?_) (fun hc => ?_)
    · have h := oi h hc
      refine lv_iconst (v := 0) hx hb d_PP_isEasy_13 (by decide) ?_
      have q := Option.some.inj h
      subst q
      exact fw_zret hQ S hr rfl hlk hX hw d_PP_isEasy_14
    · have h := oe h hc
      refine lv_iconst (v := 1) hx hb d_PP_isEasy_9 (by decide) ?_
      refine lv_goto (tgt := 14) hx hb d_PP_isEasy_10 (by decide) ?_
      have q := Option.some.inj h
      subst q
      exact fw_zret hQ S hr rfl hlk hX hw d_PP_isEasy_14
set_option maxHeartbeats 4000000 in
set_option maxRecDepth 100000 in
theorem ct_PP_atFirst (l : Launch) (D : va_G) (ad : Nat → Nat) (cI cL : ClassId) (N : Nat) (kk : Nat) (kn : Int32) (le : Int64) (ff : Int64) (fo : Int32) (ct : Int32) (fx : Int32) (gv : Nat → Int32) (pg : Nat → Int32) (cu : Nat → Int32) (co : Nat → Int32) (sg : Nat → Int32) (ru : Nat → Int32) (nu : Nat → Int32) (tg : Nat → Int32) (sc : Nat → Int64) (sr : Nat → Int32) (wy : Nat → Int64)  (out : Int64) (h : mi_PP_atFirst N kk gv = some out) : fw_C l y_PP_atFirst (.code y_PP_atFirst b_PP_atFirst 4 (some .long) :: Gw) (fr 1 22) D vwCl (tyA cI cL) [.ref (ad 0)] (wC ad cI cL kk kn le ff fo ct fx gv pg cu co sg ru nu tg sc sr wy) (some (.long out)) (wC ad cI cL kk kn le ff fo ct fx gv pg cu co sg ru nu tg sc sr wy) := by
  refine fw_of (by decide) (Nat.le_of_ble_eq_true rfl) ?_
  intro p e s m args below meth c ls A R Q hR hQ S hr hlk hX hA hl hw
  have hK := hX.1
  have hx := S.1
  have hb := S.2.1
  have hown := S.2.2.2.1
  have hg := S.2.2.2.2
  have hl : lv_has ls 4 [(0, .ref (ad 0))] := hl
  unfold mi_PP_atFirst at h
  refine lv_lconst (v := 0) hx hb d_PP_atFirst_0 (by decide) ?_
  refine lv_lstore_n (lv' := [(1, .long (0 : Int64)), (0, .ref (ad 0))]) hx hb d_PP_atFirst_1 rfl hl (by decide) rfl (fun ls hl => ?_)
  refine lv_iconst (v := 0) hx hb d_PP_atFirst_2 (by decide) ?_
  refine lv_istore_n (lv' := [(3, .int (0 : Int32)), (1, .long (0 : Int64)), (0, .ref (ad 0))]) hx hb d_PP_atFirst_3 rfl hl (by decide) rfl (fun ls hl => ?_)
  have X4 : ∀ (y4 : Int64 × Int32), mr_PP_atFirst_4 y4 = some out → ∀ (ls : Array Slot) (H : Heap) (locs : List Loc), lv_has ls 4 [(1, .long y4.1)] → fw_H D vwCl A s.heap (wC ad cI cL kk kn le ff fo ct fx gv pg cu co sg ru nu tg sc sr wy) H locs → W p l e R s m args below meth c H locs 0 0 Q (F0 m 59 ls []) := by
    intro y4 h ls H locs hl hw
    unfold mr_PP_atFirst_4 at h
    refine lv_lload_n hx hb d_PP_atFirst_59 rfl (lv_at hl 0 rfl) ?_
    have q := Option.some.inj h
    subst q
    exact fw_lret hQ S hr hlk hX hw d_PP_atFirst_60
  have L4 : ∀ (n4 : Nat) (x4 : Int64 × Int32) (e4 : Int64 × Int32), lp (mb_PP_atFirst_4 N kk gv) n4 x4 = some e4 → (mr_PP_atFirst_4) e4 = some out → ∀ (ls : Array Slot) (H : Heap) (locs : List Loc), lv_has ls 4 [(0, .ref (ad 0)), (1, .long x4.1), (3, .int x4.2)] → fw_H D vwCl A s.heap (wC ad cI cL kk kn le ff fo ct fx gv pg cu co sg ru nu tg sc sr wy) H locs → W p l e R s m args below meth c H locs 0 0 Q (F0 m 4 ls []) := by
    intro n4
    induction n4 with
    | zero => intro x4 e4 h1; exact absurd h1 lp_0
    | succ n4 ih4 =>
      intro x4 e4 h1 hr4 ls H locs hl hw
      rw [lp_s] at h1
      refine ob h1 (fun r4 h hk4 => ?_)
      unfold mb_PP_atFirst_4 at h
      refine lv_iload_n hx hb d_PP_atFirst_4 rfl (lv_at hl 2 rfl) ?_
      refine lv_aload_n hx hb d_PP_atFirst_5 rfl (lv_at hl 0 rfl) ?_
      refine va_get (ci := 0) (v := .ref (ad kk)) (C := R_PP) (T := F_PP) (N := 8) hx hb hg in_PP hown hK hw.1 0 rfl rfl 5 (by decide) (hg _ q_352) (fun _ h9 => h9) rfl d_PP_atFirst_6 ?_
      refine oc h (fun hc h => ?_)
      have hk_kk := Decidable.not_not.mp hc
      refine fk_cells S hK hw hk_kk (hg _ q_47) d_PP_atFirst_9 ?_
      refine lv_icmp_ge (tgt := 59) hx hb d_PP_atFirst_12 (by decide) (fun hc => ?_) (fun hc => ?_)
      · have h := oi h hc
        have q := Option.some.inj h
        subst q
        have q := Option.some.inj hk4
        subst q
        exact X4 (x4.1, x4.2) hr4 _ _ _ (lv_sub hl [1] rfl) hw
      · have h := oe h hc
        refine lv_lload_n hx hb d_PP_atFirst_15 rfl (lv_at hl 1 rfl) ?_
        refine lv_aload_n hx hb d_PP_atFirst_16 rfl (lv_at hl 0 rfl) ?_
        refine va_get (ci := 0) (v := .ref (ad 6)) (C := R_PP) (T := F_PP) (N := 8) hx hb hg in_PP hown hK hw.1 0 rfl rfl 4 (by decide) (hg _ q_351) (fun _ h9 => h9) rfl d_PP_atFirst_17 ?_
        refine lv_iload_n hx hb d_PP_atFirst_20 rfl (lv_at hl 2 rfl) ?_
        refine oc h (fun hc1 h => ?_)
        refine va_iald hx hb hK hw.1 6 0 rfl rfl hc1 d_PP_atFirst_21 ?_
        refine lv_iconst (v := (-1)) hx hb d_PP_atFirst_22 (by decide) ?_
        refine lv_icmp_ne (tgt := 37) hx hb d_PP_atFirst_23 (by decide) (fun hc => ?_) (fun hc => ?_)
        · have h := oe h hc
          refine lv_aload_n hx hb d_PP_atFirst_37 rfl (lv_at hl 0 rfl) ?_
          refine va_get (ci := 0) (v := .ref (ad kk)) (C := R_PP) (T := F_PP) (N := 8) hx hb hg in_PP hown hK hw.1 0 rfl rfl 5 (by decide) (hg _ q_352) (fun _ h9 => h9) rfl d_PP_atFirst_38 ?_
          refine lv_iload_n hx hb d_PP_atFirst_41 rfl (lv_at hl 2 rfl) ?_
          refine lv_aload_n hx hb d_PP_atFirst_42 rfl (lv_at hl 0 rfl) ?_
          refine va_get (ci := 0) (v := .ref (ad 6)) (C := R_PP) (T := F_PP) (N := 8) hx hb hg in_PP hown hK hw.1 0 rfl rfl 4 (by decide) (hg _ q_351) (fun _ h9 => h9) rfl d_PP_atFirst_43 ?_
          refine lv_iload_n hx hb d_PP_atFirst_46 rfl (lv_at hl 2 rfl) ?_
          refine va_iald hx hb hK hw.1 6 0 rfl rfl hc1 d_PP_atFirst_47 ?_
          refine ob h (fun r48 h48 h => ?_)
          refine fw_callK (As := [.int x4.2, .int (gv x4.2.toNatClampNeg)]) (rest := [.long x4.1]) (st1 := [.long r48, .long x4.1]) S (ct_KD_bit l D ad cI cL N kk hk_kk kk kn le ff fo ct fx gv pg cu co sg ru nu tg sc sr wy x4.2 (gv x4.2.toNatClampNeg) r48 h48) hk_kk q_346 q_1024 q_1025 q_1026 q_1027 q_243 q_2 k_KD_bit hd_KD_bit rfl ⟨by rw [hR]; decide, by rw [hR]; decide⟩ rfl rfl hX hw hA rfl rfl rfl hl.1 rfl rfl (Nat.le_of_ble_eq_true rfl) d_PP_atFirst_48 ⟨Nat.zero_le _, Nat.zero_le _⟩ rfl (fun H locs hw => ?_)
          refine lv_lor hx hb d_PP_atFirst_51 ?_
          refine lv_lstore_n (lv' := [(1, .long (x4.1 ||| r48)), (0, .ref (ad 0)), (3, .int x4.2)]) hx hb d_PP_atFirst_52 rfl hl (by decide) rfl (fun ls hl => ?_)
          refine lv_iinc (k := 2) (v := x4.2 + 1) (lv' := [(3, .int (x4.2 + 1)), (1, .long (x4.1 ||| r48)), (0, .ref (ad 0))]) hx hb d_PP_atFirst_53 hl rfl (by rw [lit1]) (by decide) rfl (fun ls hl => ?_)
          refine lv_goto (tgt := 4) hx hb d_PP_atFirst_56 (by decide) ?_
          have q := Option.some.inj h
          subst q
          exact ih4 (x4.1 ||| r48, x4.2 + 1) e4 hk4 hr4 _ _ _ (lv_sub hl [2, 1, 0] rfl) hw
        · have h := oi h hc
          refine lv_aload_n hx hb d_PP_atFirst_26 rfl (lv_at hl 0 rfl) ?_
          refine va_get (ci := 0) (v := .ref (ad kk)) (C := R_PP) (T := F_PP) (N := 8) hx hb hg in_PP hown hK hw.1 0 rfl rfl 5 (by decide) (hg _ q_352) (fun _ h9 => h9) rfl d_PP_atFirst_27 ?_
          refine lv_iload_n hx hb d_PP_atFirst_30 rfl (lv_at hl 2 rfl) ?_
          refine ob h (fun r31 h31 h => ?_)
          refine fw_callK (As := [.int x4.2]) (rest := [.long x4.1]) (st1 := [.long r31, .long x4.1]) S (ct_KD_allOf l D ad cI cL N kk hk_kk kk kn le ff fo ct fx gv pg cu co sg ru nu tg sc sr wy x4.2 r31 h31) hk_kk q_345 q_207 q_208 q_209 q_210 q_206 q_2 k_KD_allOf hd_KD_allOf rfl ⟨by rw [hR]; decide, by rw [hR]; decide⟩ rfl rfl hX hw hA rfl rfl rfl hl.1 rfl rfl (Nat.le_of_ble_eq_true rfl) d_PP_atFirst_31 ⟨Nat.zero_le _, Nat.zero_le _⟩ rfl (fun H locs hw => ?_)
          refine lv_goto (tgt := 51) hx hb d_PP_atFirst_34 (by decide) ?_
          refine lv_lor hx hb d_PP_atFirst_51 ?_
          refine lv_lstore_n (lv' := [(1, .long (x4.1 ||| r31)), (0, .ref (ad 0)), (3, .int x4.2)]) hx hb d_PP_atFirst_52 rfl hl (by decide) rfl (fun ls hl => ?_)
          refine lv_iinc (k := 2) (v := x4.2 + 1) (lv' := [(3, .int (x4.2 + 1)), (1, .long (x4.1 ||| r31)), (0, .ref (ad 0))]) hx hb d_PP_atFirst_53 hl rfl (by rw [lit1]) (by decide) rfl (fun ls hl => ?_)
          refine lv_goto (tgt := 4) hx hb d_PP_atFirst_56 (by decide) ?_
          have q := Option.some.inj h
          subst q
          exact ih4 (x4.1 ||| r31, x4.2 + 1) e4 hk4 hr4 _ _ _ (lv_sub hl [2, 1, 0] rfl) hw
  refine ob h (fun e4 h1 h2 => ?_)
  exact L4 N ((0 : Int64), (0 : Int32)) e4 h1 h2 _ _ _ (lv_sub hl [2, 1, 0] rfl) hw
set_option maxHeartbeats 4000000 in
set_option maxRecDepth 100000 in
theorem ct_PP_renewUnits (l : Launch) (D : va_G) (ad : Nat → Nat) (cI cL : ClassId) (N : Nat) (kk : Nat) (kn : Int32) (le : Int64) (ff : Int64) (fo : Int32) (ct : Int32) (fx : Int32) (gv : Nat → Int32) (pg : Nat → Int32) (cu : Nat → Int32) (co : Nat → Int32) (sg : Nat → Int32) (ru : Nat → Int32) (nu : Nat → Int32) (tg : Nat → Int32) (sc : Nat → Int64) (sr : Nat → Int32) (wy : Nat → Int64)  (out : Int64 × Int32 × (Nat → Int64) × (Nat → Int32) × (Nat → Int64)) (h : mi_PP_renewUnits N kk le ct fx gv cu co sg ru nu tg sc sr wy = some out) : fw_C l y_PP_renewUnits (.code y_PP_renewUnits b_PP_renewUnits 1 (none) :: Gw) (fr 11 289) D vwCl (tyA cI cL) [.ref (ad 0)] (wC ad cI cL kk kn le ff fo ct fx gv pg cu co sg ru nu tg sc sr wy) none (wC ad cI cL kk kn out.1 ff fo out.2.1 fx gv pg cu co sg ru nu tg out.2.2.1 out.2.2.2.1 out.2.2.2.2) := by
  refine fw_of (by decide) (Nat.le_of_ble_eq_true rfl) ?_
  intro p e s m args below meth c ls A R Q hR hQ S hr hlk hX hA hl hw
  have hK := hX.1
  have hx := S.1
  have hb := S.2.1
  have hown := S.2.2.2.1
  have hg := S.2.2.2.2
  have hl : lv_has ls 1 [(0, .ref (ad 0))] := hl
  unfold mi_PP_renewUnits at h
  refine lv_aload_n hx hb d_PP_renewUnits_0 rfl (lv_at hl 0 rfl) ?_
  refine va_get (ci := 0) (v := .ref (ad 4)) (C := R_PP) (T := F_PP) (N := 8) hx hb hg in_PP hown hK hw.1 0 rfl rfl 3 (by decide) (hg _ q_350) (fun _ h9 => h9) rfl d_PP_renewUnits_1 ?_
  refine va_get (ci := 4) (v := .ref (ad 5)) (C := R_RE) (T := F_RE) (N := 3) hx hb hg in_RE hown hK hw.1 4 rfl rfl 0 (by decide) (hg _ q_149) (fun _ h9 => h9) rfl d_PP_renewUnits_4 ?_
  refine ob h (fun r7 h7 h => ?_)
  refine fw_callV (As := []) (rest := []) (st1 := []) S (ct_UN_dropUnfixed l D ad cI cL N kk kn le ff fo ct fx gv pg cu co sg ru nu tg sc sr wy r7 h7) q_298 q_299 q_300 q_7 k_UN_dropUnfixed hd_UN_dropUnfixed ⟨by rw [hR]; decide, by rw [hR]; decide⟩ rfl rfl hX hw hA 5 (ci := 5) rfl rfl hl.1 rfl rfl (Nat.le_of_ble_eq_true rfl) d_PP_renewUnits_7 ⟨Nat.zero_le _, Nat.zero_le _⟩ rfl (fun H locs hw => ?_)
  refine lv_aload_n hx hb d_PP_renewUnits_10 rfl (lv_at hl 0 rfl) ?_
  refine va_get (ci := 0) (v := .ref (ad kk)) (C := R_PP) (T := F_PP) (N := 8) hx hb hg in_PP hown hK hw.1 0 rfl rfl 5 (by decide) (hg _ q_352) (fun _ h9 => h9) rfl d_PP_renewUnits_11 ?_
  by_cases hk : kk = 1
  · have h := oi h hk
    subst hk
    refine lv_aload_n hx hb d_PP_renewUnits_14 rfl (lv_at hl 0 rfl) ?_
    refine va_get (ci := 0) (v := .ref (ad 4)) (C := R_PP) (T := F_PP) (N := 8) hx hb hg in_PP hown hK hw.1 0 rfl rfl 3 (by decide) (hg _ q_350) (fun _ h9 => h9) rfl d_PP_renewUnits_15 ?_
    refine va_get (ci := 4) (v := .ref (ad 5)) (C := R_RE) (T := F_RE) (N := 3) hx hb hg in_RE hown hK hw.1 4 rfl rfl 0 (by decide) (hg _ q_149) (fun _ h9 => h9) rfl d_PP_renewUnits_18 ?_
    refine ob h (fun r21 h21 h => ?_)
    refine fw_callA (As := [.ref (ad 5)]) (rest := []) (st1 := []) S (ct_PI_addOtherUnits l D ad cI cL N 1 kn le ff fo r7 fx gv pg cu co sg ru nu tg sc sr wy r21 h21) dc_addOtherUnits q_302 q_304 q_305 q_306 q_3 k_PI_addOtherUnits hd_KD_addOtherUnits.2 ⟨by rw [hR]; decide, by rw [hR]; decide⟩ rfl rfl hX hw hA 1 (ci := 1) rfl rfl hl.1 rfl rfl (Nat.le_of_ble_eq_true rfl) d_PP_renewUnits_21 ⟨Nat.zero_le _, Nat.zero_le _⟩ rfl (fun H locs hw => ?_)
    refine lv_aload_n hx hb d_PP_renewUnits_24 rfl (lv_at hl 0 rfl) ?_
    refine lv_aload_n hx hb d_PP_renewUnits_25 rfl (lv_at hl 0 rfl) ?_
    refine ob h (fun r26 h26 h => ?_)
    refine fw_callV (As := []) (rest := [.ref (ad 0)]) (st1 := [.long r26, .ref (ad 0)]) S (ct_PP_atFirst l D ad cI cL N 1 kn le ff fo r21.1 fx gv pg cu co sg ru nu tg r21.2.1 r21.2.2.1 r21.2.2.2 r26 h26) q_341 q_343 s_9 q_1 k_PP_atFirst hd_PP_atFirst ⟨by rw [hR]; decide, by rw [hR]; decide⟩ rfl rfl hX hw hA 0 (ci := 0) rfl rfl hl.1 rfl rfl (Nat.le_of_ble_eq_true rfl) d_PP_renewUnits_26 ⟨Nat.zero_le _, Nat.zero_le _⟩ rfl (fun H locs hw => ?_)
    refine va_put (ci := 0) (v := .long r26) (ty := .long) (C := R_PP) (T := F_PP) (N := 8) hx hb hg in_PP t_PP t_PP_ok n_PP hown hK hw.1 hw.2.1 hw.2.2 0 rfl rfl 7 (by decide) (hg _ q_354) (fun _ h9 => h9) rfl (by decide +kernel) rfl rfl (Nat.le_of_ble_eq_true rfl) d_PP_renewUnits_29 (fun H locs hP hD hS => ?_)
    have hw : fw_H D vwCl A s.heap (wC ad cI cL 1 kn r26 ff fo r21.1 fx gv pg cu co sg ru nu tg r21.2.1 r21.2.2.1 r21.2.2.2) H locs := ⟨hP, hD, hS⟩
    have q := Option.some.inj h
    subst q
    exact fw_vret hQ S hr hlk hX hw d_PP_renewUnits_32
  have h := oe h hk
  by_cases hk : kk = 2
  · have h := oi h hk
    subst hk
    refine lv_aload_n hx hb d_PP_renewUnits_14 rfl (lv_at hl 0 rfl) ?_
    refine va_get (ci := 0) (v := .ref (ad 4)) (C := R_PP) (T := F_PP) (N := 8) hx hb hg in_PP hown hK hw.1 0 rfl rfl 3 (by decide) (hg _ q_350) (fun _ h9 => h9) rfl d_PP_renewUnits_15 ?_
    refine va_get (ci := 4) (v := .ref (ad 5)) (C := R_RE) (T := F_RE) (N := 3) hx hb hg in_RE hown hK hw.1 4 rfl rfl 0 (by decide) (hg _ q_149) (fun _ h9 => h9) rfl d_PP_renewUnits_18 ?_
    refine ob h (fun r21' h21 h => ?_)
    refine fw_callA (As := [.ref (ad 5)]) (rest := []) (st1 := []) S (ct_SQ_addOtherUnits l D ad cI cL N 2 kn le ff fo r7 fx gv pg cu co sg ru nu tg sc sr wy r21' h21) dc_addOtherUnits q_302 q_304 q_326 q_327 q_4 k_SQ_addOtherUnits hd_KD_addOtherUnits.2 ⟨by rw [hR]; decide, by rw [hR]; decide⟩ rfl rfl hX hw hA 2 (ci := 2) rfl rfl hl.1 rfl rfl (Nat.le_of_ble_eq_true rfl) d_PP_renewUnits_21 ⟨Nat.zero_le _, Nat.zero_le _⟩ rfl (fun H locs hw => ?_)
    refine lv_aload_n hx hb d_PP_renewUnits_24 rfl (lv_at hl 0 rfl) ?_
    refine lv_aload_n hx hb d_PP_renewUnits_25 rfl (lv_at hl 0 rfl) ?_
    refine ob h (fun r26' h26 h => ?_)
    refine fw_callV (As := []) (rest := [.ref (ad 0)]) (st1 := [.long r26', .ref (ad 0)]) S (ct_PP_atFirst l D ad cI cL N 2 kn le ff fo r21'.1 fx gv pg cu co sg ru nu tg r21'.2.1 r21'.2.2.1 r21'.2.2.2 r26' h26) q_341 q_343 s_9 q_1 k_PP_atFirst hd_PP_atFirst ⟨by rw [hR]; decide, by rw [hR]; decide⟩ rfl rfl hX hw hA 0 (ci := 0) rfl rfl hl.1 rfl rfl (Nat.le_of_ble_eq_true rfl) d_PP_renewUnits_26 ⟨Nat.zero_le _, Nat.zero_le _⟩ rfl (fun H locs hw => ?_)
    refine va_put (ci := 0) (v := .long r26') (ty := .long) (C := R_PP) (T := F_PP) (N := 8) hx hb hg in_PP t_PP t_PP_ok n_PP hown hK hw.1 hw.2.1 hw.2.2 0 rfl rfl 7 (by decide) (hg _ q_354) (fun _ h9 => h9) rfl (by decide +kernel) rfl rfl (Nat.le_of_ble_eq_true rfl) d_PP_renewUnits_29 (fun H locs hP hD hS => ?_)
    have hw : fw_H D vwCl A s.heap (wC ad cI cL 2 kn r26' ff fo r21'.1 fx gv pg cu co sg ru nu tg r21'.2.1 r21'.2.2.1 r21'.2.2.2) H locs := ⟨hP, hD, hS⟩
    have q := Option.some.inj h
    subst q
    exact fw_vret hQ S hr hlk hX hw d_PP_renewUnits_32
  have h := oe h hk
  by_cases hk : kk = 3
  · have h := oi h hk
    subst hk
    refine lv_aload_n hx hb d_PP_renewUnits_14 rfl (lv_at hl 0 rfl) ?_
    refine va_get (ci := 0) (v := .ref (ad 4)) (C := R_PP) (T := F_PP) (N := 8) hx hb hg in_PP hown hK hw.1 0 rfl rfl 3 (by decide) (hg _ q_350) (fun _ h9 => h9) rfl d_PP_renewUnits_15 ?_
    refine va_get (ci := 4) (v := .ref (ad 5)) (C := R_RE) (T := F_RE) (N := 3) hx hb hg in_RE hown hK hw.1 4 rfl rfl 0 (by decide) (hg _ q_149) (fun _ h9 => h9) rfl d_PP_renewUnits_18 ?_
    refine ob h (fun r21'' h21 h => ?_)
    refine fw_callA (As := [.ref (ad 5)]) (rest := []) (st1 := []) S (ct_ST_addOtherUnits l D ad cI cL N 3 kn le ff fo r7 fx gv pg cu co sg ru nu tg sc sr wy r21'' h21) dc_addOtherUnits q_302 q_304 q_335 q_336 q_5 k_ST_addOtherUnits hd_KD_addOtherUnits.2 ⟨by rw [hR]; decide, by rw [hR]; decide⟩ rfl rfl hX hw hA 3 (ci := 3) rfl rfl hl.1 rfl rfl (Nat.le_of_ble_eq_true rfl) d_PP_renewUnits_21 ⟨Nat.zero_le _, Nat.zero_le _⟩ rfl (fun H locs hw => ?_)
    refine lv_aload_n hx hb d_PP_renewUnits_24 rfl (lv_at hl 0 rfl) ?_
    refine lv_aload_n hx hb d_PP_renewUnits_25 rfl (lv_at hl 0 rfl) ?_
    refine ob h (fun r26'' h26 h => ?_)
    refine fw_callV (As := []) (rest := [.ref (ad 0)]) (st1 := [.long r26'', .ref (ad 0)]) S (ct_PP_atFirst l D ad cI cL N 3 kn le ff fo r21''.1 fx gv pg cu co sg ru nu tg r21''.2.1 r21''.2.2.1 r21''.2.2.2 r26'' h26) q_341 q_343 s_9 q_1 k_PP_atFirst hd_PP_atFirst ⟨by rw [hR]; decide, by rw [hR]; decide⟩ rfl rfl hX hw hA 0 (ci := 0) rfl rfl hl.1 rfl rfl (Nat.le_of_ble_eq_true rfl) d_PP_renewUnits_26 ⟨Nat.zero_le _, Nat.zero_le _⟩ rfl (fun H locs hw => ?_)
    refine va_put (ci := 0) (v := .long r26'') (ty := .long) (C := R_PP) (T := F_PP) (N := 8) hx hb hg in_PP t_PP t_PP_ok n_PP hown hK hw.1 hw.2.1 hw.2.2 0 rfl rfl 7 (by decide) (hg _ q_354) (fun _ h9 => h9) rfl (by decide +kernel) rfl rfl (Nat.le_of_ble_eq_true rfl) d_PP_renewUnits_29 (fun H locs hP hD hS => ?_)
    have hw : fw_H D vwCl A s.heap (wC ad cI cL 3 kn r26'' ff fo r21''.1 fx gv pg cu co sg ru nu tg r21''.2.1 r21''.2.2.1 r21''.2.2.2) H locs := ⟨hP, hD, hS⟩
    have q := Option.some.inj h
    subst q
    exact fw_vret hQ S hr hlk hX hw d_PP_renewUnits_32
  have h := oe h hk
  exact absurd h on
set_option maxHeartbeats 4000000 in
set_option maxRecDepth 100000 in
theorem ct_PP_startNew (l : Launch) (D : va_G) (ad : Nat → Nat) (cI cL : ClassId) (N : Nat) (kk : Nat) (kn : Int32) (le : Int64) (ff : Int64) (fo : Int32) (ct : Int32) (fx : Int32) (gv : Nat → Int32) (pg : Nat → Int32) (cu : Nat → Int32) (co : Nat → Int32) (sg : Nat → Int32) (ru : Nat → Int32) (nu : Nat → Int32) (tg : Nat → Int32) (sc : Nat → Int64) (sr : Nat → Int32) (wy : Nat → Int64) (u1 : Int32) (out : Nat × Int32 × Int64 × Int32 × Int32 × (Nat → Int32) × (Nat → Int32) × (Nat → Int32) × (Nat → Int32) × (Nat → Int32) × (Nat → Int32) × (Nat → Int64) × (Nat → Int32) × (Nat → Int64)) (h : mi_PP_startNew N kk kn le ct fx gv cu co sg ru nu tg sc sr wy u1 = some out) : fw_C l y_PP_startNew (.code y_PP_startNew b_PP_startNew 3 (none) :: Gw) (fr 12 309) D vwCl (tyA cI cL) [.ref (ad 0), .int u1] (wC ad cI cL kk kn le ff fo ct fx gv pg cu co sg ru nu tg sc sr wy) none (wC ad cI cL out.1 out.2.1 out.2.2.1 ff fo out.2.2.2.1 out.2.2.2.2.1 out.2.2.2.2.2.1 pg out.2.2.2.2.2.2.1 co out.2.2.2.2.2.2.2.1 out.2.2.2.2.2.2.2.2.1 out.2.2.2.2.2.2.2.2.2.1 out.2.2.2.2.2.2.2.2.2.2.1 out.2.2.2.2.2.2.2.2.2.2.2.1 out.2.2.2.2.2.2.2.2.2.2.2.2.1 out.2.2.2.2.2.2.2.2.2.2.2.2.2) := by
  refine fw_of (by decide) (Nat.le_of_ble_eq_true rfl) ?_
  intro p e s m args below meth c ls A R Q hR hQ S hr hlk hX hA hl hw
  have hK := hX.1
  have hx := S.1
  have hb := S.2.1
  have hown := S.2.2.2.1
  have hg := S.2.2.2.2
  have hl : lv_has ls 3 [(0, .ref (ad 0)), (1, .int u1)] := hl
  unfold mi_PP_startNew at h
  refine lv_aload_n hx hb d_PP_startNew_0 rfl (lv_at hl 0 rfl) ?_
  refine lv_iload_n hx hb d_PP_startNew_1 rfl (lv_at hl 1 rfl) ?_
  refine va_put (ci := 0) (v := .int u1) (ty := .int) (C := R_PP) (T := F_PP) (N := 8) hx hb hg in_PP t_PP t_PP_ok n_PP hown hK hw.1 hw.2.1 hw.2.2 0 rfl rfl 6 (by decide) (hg _ q_353) (fun _ h9 => h9) rfl (by decide +kernel) rfl rfl (Nat.le_of_ble_eq_true rfl) d_PP_startNew_2 (fun H locs hP hD hS => ?_)
  have hw : fw_H D vwCl A s.heap (wC ad cI cL kk u1 le ff fo ct fx gv pg cu co sg ru nu tg sc sr wy) H locs := ⟨hP, hD, hS⟩
  refine lv_aload_n hx hb d_PP_startNew_5 rfl (lv_at hl 0 rfl) ?_
  refine lv_iload_n hx hb d_PP_startNew_6 rfl (lv_at hl 1 rfl) ?_
  refine lv_if_ne (tgt := 17) hx hb d_PP_startNew_7 (by decide) (fun hc => ?_) (fun hc => ?_)
  · have h := oe h hc
    refine lv_iload_n hx hb d_PP_startNew_17 rfl (lv_at hl 1 rfl) ?_
    refine lv_iconst (v := 1) hx hb d_PP_startNew_18 (by decide) ?_
    refine lv_icmp_ne (tgt := 29) hx hb d_PP_startNew_19 (by decide) (fun hc => ?_) (fun hc => ?_)
    · have h := oe h hc
      refine lv_aload_n hx hb d_PP_startNew_29 rfl (lv_at hl 0 rfl) ?_
      refine va_get (ci := 0) (v := .ref (ad 3)) (C := R_PP) (T := F_PP) (N := 8) hx hb hg in_PP hown hK hw.1 0 rfl rfl 2 (by decide) (hg _ q_349) (fun _ h9 => h9) rfl d_PP_startNew_30 ?_
      refine va_put (ci := 0) (v := .ref (ad 3)) (ty := .object "PuzzlePress$Kind") (C := R_PP) (T := F_PP) (N := 8) hx hb hg in_PP t_PP t_PP_ok n_PP hown hK hw.1 hw.2.1 hw.2.2 0 rfl rfl 5 (by decide) (hg _ q_352) (fun _ h9 => h9) rfl (by decide +kernel) rfl rfl (Nat.le_of_ble_eq_true rfl) d_PP_startNew_33 (fun H locs hP hD hS => ?_)
      have hw : fw_H D vwCl A s.heap (wC ad cI cL 3 u1 le ff fo ct fx gv pg cu co sg ru nu tg sc sr wy) H locs := ⟨hP, hD, hS⟩
      refine lv_aload_n hx hb d_PP_startNew_36 rfl (lv_at hl 0 rfl) ?_
      refine va_get (ci := 0) (v := .ref (ad 3)) (C := R_PP) (T := F_PP) (N := 8) hx hb hg in_PP hown hK hw.1 0 rfl rfl 5 (by decide) (hg _ q_352) (fun _ h9 => h9) rfl d_PP_startNew_37 ?_
      refine ob h (fun r40 h40 h => ?_)
      refine fw_callA (As := []) (rest := []) (st1 := []) S (ct_ST_makeNew l D ad cI cL N 3 u1 le ff fo ct fx gv pg cu co sg ru nu tg sc sr wy r40 h40) dc_makeNew q_164 q_166 q_173 q_174 q_5 k_ST_makeNew hd_KD_makeNew.2 ⟨by rw [hR]; decide, by rw [hR]; decide⟩ rfl rfl hX hw hA 3 (ci := 3) rfl rfl hl.1 rfl rfl (Nat.le_of_ble_eq_true rfl) d_PP_startNew_40 ⟨Nat.zero_le _, Nat.zero_le _⟩ rfl (fun H locs hw => ?_)
      refine lv_iconst (v := 0) hx hb d_PP_startNew_43 (by decide) ?_
      refine lv_istore_n (lv' := [(2, .int (0 : Int32)), (0, .ref (ad 0)), (1, .int u1)]) hx hb d_PP_startNew_44 rfl hl (by decide) rfl (fun ls hl => ?_)
      have X45 : ∀ (y45 : Int32 × (Nat → Int32)), mr_PP_startNew_45 N le ct fx cu co sg ru nu sc sr wy u1 r40 y45 = some out → ∀ (ls : Array Slot) (H : Heap) (locs : List Loc), lv_has ls 3 [(0, .ref (ad 0))] → fw_H D vwCl A s.heap (wC ad cI cL 3 u1 le ff fo ct fx y45.2 pg cu co sg ru nu r40 sc sr wy) H locs → W p l e R s m args below meth c H locs 0 0 Q (F0 m 64 ls []) := by
        intro y45 h ls H locs hl hw
        unfold mr_PP_startNew_45 at h
        refine lv_aload_n hx hb d_PP_startNew_64 rfl (lv_at hl 0 rfl) ?_
        refine va_get (ci := 0) (v := .ref (ad 4)) (C := R_PP) (T := F_PP) (N := 8) hx hb hg in_PP hown hK hw.1 0 rfl rfl 3 (by decide) (hg _ q_350) (fun _ h9 => h9) rfl d_PP_startNew_65 ?_
        refine va_get (ci := 4) (v := .ref (ad 5)) (C := R_RE) (T := F_RE) (N := 3) hx hb hg in_RE hown hK hw.1 4 rfl rfl 0 (by decide) (hg _ q_149) (fun _ h9 => h9) rfl d_PP_startNew_68 ?_
        refine ob h (fun r71 h71 h => ?_)
        refine fw_callV (As := []) (rest := []) (st1 := []) S (ct_UN_dropAll l D ad cI cL N 3 u1 le ff fo ct fx y45.2 pg cu co sg ru nu r40 sc sr wy r71 h71) q_176 q_177 q_178 q_7 k_UN_dropAll hd_UN_dropAll ⟨by rw [hR]; decide, by rw [hR]; decide⟩ rfl rfl hX hw hA 5 (ci := 5) rfl rfl hl.1 rfl rfl (Nat.le_of_ble_eq_true rfl) d_PP_startNew_71 ⟨Nat.zero_le _, Nat.zero_le _⟩ rfl (fun H locs hw => ?_)
        refine lv_aload_n hx hb d_PP_startNew_74 rfl (lv_at hl 0 rfl) ?_
        refine va_get (ci := 0) (v := .ref (ad 3)) (C := R_PP) (T := F_PP) (N := 8) hx hb hg in_PP hown hK hw.1 0 rfl rfl 5 (by decide) (hg _ q_352) (fun _ h9 => h9) rfl d_PP_startNew_75 ?_
        refine lv_aload_n hx hb d_PP_startNew_78 rfl (lv_at hl 0 rfl) ?_
        refine va_get (ci := 0) (v := .ref (ad 4)) (C := R_PP) (T := F_PP) (N := 8) hx hb hg in_PP hown hK hw.1 0 rfl rfl 3 (by decide) (hg _ q_350) (fun _ h9 => h9) rfl d_PP_startNew_79 ?_
        refine va_get (ci := 4) (v := .ref (ad 5)) (C := R_RE) (T := F_RE) (N := 3) hx hb hg in_RE hown hK hw.1 4 rfl rfl 0 (by decide) (hg _ q_149) (fun _ h9 => h9) rfl d_PP_startNew_82 ?_
        refine ob h (fun r85 h85 h => ?_)
        refine fw_callA (As := [.ref (ad 5)]) (rest := []) (st1 := []) S (ct_ST_addFixedUnits l D ad cI cL N 3 u1 le ff fo r71.1 r71.2 y45.2 pg cu co sg ru nu r40 sc sr wy r85 h85) dc_addFixedUnits q_180 q_182 q_251 q_252 q_5 k_ST_addFixedUnits hd_KD_addFixedUnits.2 ⟨by rw [hR]; decide, by rw [hR]; decide⟩ rfl rfl hX hw hA 3 (ci := 3) rfl rfl hl.1 rfl rfl (Nat.le_of_ble_eq_true rfl) d_PP_startNew_85 ⟨Nat.zero_le _, Nat.zero_le _⟩ rfl (fun H locs hw => ?_)
        refine lv_aload_n hx hb d_PP_startNew_88 rfl (lv_at hl 0 rfl) ?_
        refine va_get (ci := 0) (v := .ref (ad 4)) (C := R_PP) (T := F_PP) (N := 8) hx hb hg in_PP hown hK hw.1 0 rfl rfl 3 (by decide) (hg _ q_350) (fun _ h9 => h9) rfl d_PP_startNew_89 ?_
        refine va_get (ci := 4) (v := .ref (ad 5)) (C := R_RE) (T := F_RE) (N := 3) hx hb hg in_RE hown hK hw.1 4 rfl rfl 0 (by decide) (hg _ q_149) (fun _ h9 => h9) rfl d_PP_startNew_92 ?_
        refine ob h (fun r95 h95 h => ?_)
        refine fw_callV (As := []) (rest := []) (st1 := []) S (ct_UN_fixAll l D ad cI cL N 3 u1 le ff fo r85.1 r71.2 y45.2 pg cu co sg ru nu r40 r85.2.1 r85.2.2.1 r85.2.2.2 r95 h95) q_290 q_291 q_292 q_7 k_UN_fixAll hd_UN_fixAll ⟨by rw [hR]; decide, by rw [hR]; decide⟩ rfl rfl hX hw hA 5 (ci := 5) rfl rfl hl.1 rfl rfl (Nat.le_of_ble_eq_true rfl) d_PP_startNew_95 ⟨Nat.zero_le _, Nat.zero_le _⟩ rfl (fun H locs hw => ?_)
        refine lv_aload_n hx hb d_PP_startNew_98 rfl (lv_at hl 0 rfl) ?_
        refine ob h (fun r99 h99 h => ?_)
        refine fw_callV (As := []) (rest := []) (st1 := []) S (ct_PP_renewUnits l D ad cI cL N 3 u1 le ff fo r85.1 r95 y45.2 pg cu co sg ru nu r40 r85.2.1 r85.2.2.1 r85.2.2.2 r99 h99) q_294 q_296 s_7 q_1 k_PP_renewUnits hd_PP_renewUnits ⟨by rw [hR]; decide, by rw [hR]; decide⟩ rfl rfl hX hw hA 0 (ci := 0) rfl rfl hl.1 rfl rfl (Nat.le_of_ble_eq_true rfl) d_PP_startNew_99 ⟨Nat.zero_le _, Nat.zero_le _⟩ rfl (fun H locs hw => ?_)
        have q := Option.some.inj h
        subst q
        exact fw_vret hQ S hr hlk hX hw d_PP_startNew_102
      have L45 : ∀ (n45 : Nat) (x45 : Int32 × (Nat → Int32)) (e45 : Int32 × (Nat → Int32)), lp (mb_PP_startNew_45) n45 x45 = some e45 → (mr_PP_startNew_45 N le ct fx cu co sg ru nu sc sr wy u1 r40) e45 = some out → ∀ (ls : Array Slot) (H : Heap) (locs : List Loc), lv_has ls 3 [(0, .ref (ad 0)), (2, .int x45.1)] → fw_H D vwCl A s.heap (wC ad cI cL 3 u1 le ff fo ct fx x45.2 pg cu co sg ru nu r40 sc sr wy) H locs → W p l e R s m args below meth c H locs 0 0 Q (F0 m 45 ls []) := by
        intro n45
        induction n45 with
        | zero => intro x45 e45 h1; exact absurd h1 lp_0
        | succ n45 ih45 =>
          intro x45 e45 h1 hr45 ls H locs hl hw
          rw [lp_s] at h1
          refine ob h1 (fun r45 h hk45 => ?_)
          unfold mb_PP_startNew_45 at h
          refine lv_iload_n hx hb d_PP_startNew_45 rfl (lv_at hl 1 rfl) ?_
          refine lv_bipush (v := 25) hx hb d_PP_startNew_46 (by decide) ?_
          refine lv_icmp_ge (tgt := 64) hx hb d_PP_startNew_48 (by decide) (fun hc => ?_) (fun hc => ?_)
          · have h := oi h hc
            have q := Option.some.inj h
            subst q
            have q := Option.some.inj hk45
            subst q
            exact X45 (x45.1, x45.2) hr45 _ _ _ (lv_sub hl [0] rfl) hw
          · have h := oe h hc
            refine lv_aload_n hx hb d_PP_startNew_51 rfl (lv_at hl 0 rfl) ?_
            refine va_get (ci := 0) (v := .ref (ad 6)) (C := R_PP) (T := F_PP) (N := 8) hx hb hg in_PP hown hK hw.1 0 rfl rfl 4 (by decide) (hg _ q_351) (fun _ h9 => h9) rfl d_PP_startNew_52 ?_
            refine lv_iload_n hx hb d_PP_startNew_55 rfl (lv_at hl 1 rfl) ?_
            refine lv_iconst (v := (-1)) hx hb d_PP_startNew_56 (by decide) ?_
            refine oc h (fun hc1 h => ?_)
            refine va_iast hx hb hK hw.1 hw.2.1 hw.2.2 6 0 rfl rfl hc1 d_PP_startNew_57 (fun H locs hP hD hS => ?_)
            have hw : fw_H D vwCl A s.heap (wC ad cI cL 3 u1 le ff fo ct fx (upd x45.2 x45.1.toNatClampNeg (-1 : Int32)) pg cu co sg ru nu r40 sc sr wy) H locs := ⟨hP, hD, hS⟩
            refine lv_iinc (k := 1) (v := x45.1 + 1) (lv' := [(2, .int (x45.1 + 1)), (0, .ref (ad 0))]) hx hb d_PP_startNew_58 hl rfl (by rw [lit1]) (by decide) rfl (fun ls hl => ?_)
            refine lv_goto (tgt := 45) hx hb d_PP_startNew_61 (by decide) ?_
            have q := Option.some.inj h
            subst q
            exact ih45 (x45.1 + 1, upd x45.2 x45.1.toNatClampNeg (-1 : Int32)) e45 hk45 hr45 _ _ _ (lv_sub hl [1, 0] rfl) hw
      refine ob h (fun e45 h1 h2 => ?_)
      exact L45 N ((0 : Int32), gv) e45 h1 h2 _ _ _ (lv_sub hl [1, 0] rfl) hw
    · have h := oi h hc
      refine lv_aload_n hx hb d_PP_startNew_22 rfl (lv_at hl 0 rfl) ?_
      refine va_get (ci := 0) (v := .ref (ad 2)) (C := R_PP) (T := F_PP) (N := 8) hx hb hg in_PP hown hK hw.1 0 rfl rfl 1 (by decide) (hg _ q_348) (fun _ h9 => h9) rfl d_PP_startNew_23 ?_
      refine lv_goto (tgt := 33) hx hb d_PP_startNew_26 (by decide) ?_
      refine va_put (ci := 0) (v := .ref (ad 2)) (ty := .object "PuzzlePress$Kind") (C := R_PP) (T := F_PP) (N := 8) hx hb hg in_PP t_PP t_PP_ok n_PP hown hK hw.1 hw.2.1 hw.2.2 0 rfl rfl 5 (by decide) (hg _ q_352) (fun _ h9 => h9) rfl (by decide +kernel) rfl rfl (Nat.le_of_ble_eq_true rfl) d_PP_startNew_33 (fun H locs hP hD hS => ?_)
      have hw : fw_H D vwCl A s.heap (wC ad cI cL 2 u1 le ff fo ct fx gv pg cu co sg ru nu tg sc sr wy) H locs := ⟨hP, hD, hS⟩
      refine lv_aload_n hx hb d_PP_startNew_36 rfl (lv_at hl 0 rfl) ?_
      refine va_get (ci := 0) (v := .ref (ad 2)) (C := R_PP) (T := F_PP) (N := 8) hx hb hg in_PP hown hK hw.1 0 rfl rfl 5 (by decide) (hg _ q_352) (fun _ h9 => h9) rfl d_PP_startNew_37 ?_
      refine ob h (fun r40' h40 h => ?_)
      refine fw_callA (As := []) (rest := []) (st1 := []) S (ct_SQ_makeNew l D ad cI cL N 2 u1 le ff fo ct fx gv pg cu co sg ru nu tg sc sr wy r40' h40) dc_makeNew q_164 q_166 q_170 q_171 q_4 k_SQ_makeNew hd_KD_makeNew.2 ⟨by rw [hR]; decide, by rw [hR]; decide⟩ rfl rfl hX hw hA 2 (ci := 2) rfl rfl hl.1 rfl rfl (Nat.le_of_ble_eq_true rfl) d_PP_startNew_40 ⟨Nat.zero_le _, Nat.zero_le _⟩ rfl (fun H locs hw => ?_)
      refine lv_iconst (v := 0) hx hb d_PP_startNew_43 (by decide) ?_
      refine lv_istore_n (lv' := [(2, .int (0 : Int32)), (0, .ref (ad 0)), (1, .int u1)]) hx hb d_PP_startNew_44 rfl hl (by decide) rfl (fun ls hl => ?_)
      have X45 : ∀ (y45 : Int32 × (Nat → Int32)), mr_PP_startNew_45' N le ct fx cu co tg sc sr wy u1 r40' y45 = some out → ∀ (ls : Array Slot) (H : Heap) (locs : List Loc), lv_has ls 3 [(0, .ref (ad 0))] → fw_H D vwCl A s.heap (wC ad cI cL 2 u1 le ff fo ct fx y45.2 pg cu co r40'.1 r40'.2.1 r40'.2.2 tg sc sr wy) H locs → W p l e R s m args below meth c H locs 0 0 Q (F0 m 64 ls []) := by
        intro y45 h ls H locs hl hw
        unfold mr_PP_startNew_45' at h
        refine lv_aload_n hx hb d_PP_startNew_64 rfl (lv_at hl 0 rfl) ?_
        refine va_get (ci := 0) (v := .ref (ad 4)) (C := R_PP) (T := F_PP) (N := 8) hx hb hg in_PP hown hK hw.1 0 rfl rfl 3 (by decide) (hg _ q_350) (fun _ h9 => h9) rfl d_PP_startNew_65 ?_
        refine va_get (ci := 4) (v := .ref (ad 5)) (C := R_RE) (T := F_RE) (N := 3) hx hb hg in_RE hown hK hw.1 4 rfl rfl 0 (by decide) (hg _ q_149) (fun _ h9 => h9) rfl d_PP_startNew_68 ?_
        refine ob h (fun r71' h71 h => ?_)
        refine fw_callV (As := []) (rest := []) (st1 := []) S (ct_UN_dropAll l D ad cI cL N 2 u1 le ff fo ct fx y45.2 pg cu co r40'.1 r40'.2.1 r40'.2.2 tg sc sr wy r71' h71) q_176 q_177 q_178 q_7 k_UN_dropAll hd_UN_dropAll ⟨by rw [hR]; decide, by rw [hR]; decide⟩ rfl rfl hX hw hA 5 (ci := 5) rfl rfl hl.1 rfl rfl (Nat.le_of_ble_eq_true rfl) d_PP_startNew_71 ⟨Nat.zero_le _, Nat.zero_le _⟩ rfl (fun H locs hw => ?_)
        refine lv_aload_n hx hb d_PP_startNew_74 rfl (lv_at hl 0 rfl) ?_
        refine va_get (ci := 0) (v := .ref (ad 2)) (C := R_PP) (T := F_PP) (N := 8) hx hb hg in_PP hown hK hw.1 0 rfl rfl 5 (by decide) (hg _ q_352) (fun _ h9 => h9) rfl d_PP_startNew_75 ?_
        refine lv_aload_n hx hb d_PP_startNew_78 rfl (lv_at hl 0 rfl) ?_
        refine va_get (ci := 0) (v := .ref (ad 4)) (C := R_PP) (T := F_PP) (N := 8) hx hb hg in_PP hown hK hw.1 0 rfl rfl 3 (by decide) (hg _ q_350) (fun _ h9 => h9) rfl d_PP_startNew_79 ?_
        refine va_get (ci := 4) (v := .ref (ad 5)) (C := R_RE) (T := F_RE) (N := 3) hx hb hg in_RE hown hK hw.1 4 rfl rfl 0 (by decide) (hg _ q_149) (fun _ h9 => h9) rfl d_PP_startNew_82 ?_
        refine ob h (fun r85' h85 h => ?_)
        refine fw_callA (As := [.ref (ad 5)]) (rest := []) (st1 := []) S (ct_SQ_addFixedUnits l D ad cI cL N 2 u1 le ff fo r71'.1 r71'.2 y45.2 pg cu co r40'.1 r40'.2.1 r40'.2.2 tg sc sr wy r85' h85) dc_addFixedUnits q_180 q_182 q_186 q_187 q_4 k_SQ_addFixedUnits hd_KD_addFixedUnits.2 ⟨by rw [hR]; decide, by rw [hR]; decide⟩ rfl rfl hX hw hA 2 (ci := 2) rfl rfl hl.1 rfl rfl (Nat.le_of_ble_eq_true rfl) d_PP_startNew_85 ⟨Nat.zero_le _, Nat.zero_le _⟩ rfl (fun H locs hw => ?_)
        refine lv_aload_n hx hb d_PP_startNew_88 rfl (lv_at hl 0 rfl) ?_
        refine va_get (ci := 0) (v := .ref (ad 4)) (C := R_PP) (T := F_PP) (N := 8) hx hb hg in_PP hown hK hw.1 0 rfl rfl 3 (by decide) (hg _ q_350) (fun _ h9 => h9) rfl d_PP_startNew_89 ?_
        refine va_get (ci := 4) (v := .ref (ad 5)) (C := R_RE) (T := F_RE) (N := 3) hx hb hg in_RE hown hK hw.1 4 rfl rfl 0 (by decide) (hg _ q_149) (fun _ h9 => h9) rfl d_PP_startNew_92 ?_
        refine ob h (fun r95' h95 h => ?_)
        refine fw_callV (As := []) (rest := []) (st1 := []) S (ct_UN_fixAll l D ad cI cL N 2 u1 le ff fo r85'.1 r71'.2 y45.2 pg cu co r40'.1 r40'.2.1 r40'.2.2 tg r85'.2.1 r85'.2.2.1 r85'.2.2.2 r95' h95) q_290 q_291 q_292 q_7 k_UN_fixAll hd_UN_fixAll ⟨by rw [hR]; decide, by rw [hR]; decide⟩ rfl rfl hX hw hA 5 (ci := 5) rfl rfl hl.1 rfl rfl (Nat.le_of_ble_eq_true rfl) d_PP_startNew_95 ⟨Nat.zero_le _, Nat.zero_le _⟩ rfl (fun H locs hw => ?_)
        refine lv_aload_n hx hb d_PP_startNew_98 rfl (lv_at hl 0 rfl) ?_
        refine ob h (fun r99' h99 h => ?_)
        refine fw_callV (As := []) (rest := []) (st1 := []) S (ct_PP_renewUnits l D ad cI cL N 2 u1 le ff fo r85'.1 r95' y45.2 pg cu co r40'.1 r40'.2.1 r40'.2.2 tg r85'.2.1 r85'.2.2.1 r85'.2.2.2 r99' h99) q_294 q_296 s_7 q_1 k_PP_renewUnits hd_PP_renewUnits ⟨by rw [hR]; decide, by rw [hR]; decide⟩ rfl rfl hX hw hA 0 (ci := 0) rfl rfl hl.1 rfl rfl (Nat.le_of_ble_eq_true rfl) d_PP_startNew_99 ⟨Nat.zero_le _, Nat.zero_le _⟩ rfl (fun H locs hw => ?_)
        have q := Option.some.inj h
        subst q
        exact fw_vret hQ S hr hlk hX hw d_PP_startNew_102
      have L45 : ∀ (n45 : Nat) (x45 : Int32 × (Nat → Int32)) (e45 : Int32 × (Nat → Int32)), lp (mb_PP_startNew_45') n45 x45 = some e45 → (mr_PP_startNew_45' N le ct fx cu co tg sc sr wy u1 r40') e45 = some out → ∀ (ls : Array Slot) (H : Heap) (locs : List Loc), lv_has ls 3 [(0, .ref (ad 0)), (2, .int x45.1)] → fw_H D vwCl A s.heap (wC ad cI cL 2 u1 le ff fo ct fx x45.2 pg cu co r40'.1 r40'.2.1 r40'.2.2 tg sc sr wy) H locs → W p l e R s m args below meth c H locs 0 0 Q (F0 m 45 ls []) := by
        intro n45
        induction n45 with
        | zero => intro x45 e45 h1; exact absurd h1 lp_0
        | succ n45 ih45 =>
          intro x45 e45 h1 hr45 ls H locs hl hw
          rw [lp_s] at h1
          refine ob h1 (fun r45 h hk45 => ?_)
          unfold mb_PP_startNew_45' at h
          refine lv_iload_n hx hb d_PP_startNew_45 rfl (lv_at hl 1 rfl) ?_
          refine lv_bipush (v := 25) hx hb d_PP_startNew_46 (by decide) ?_
          refine lv_icmp_ge (tgt := 64) hx hb d_PP_startNew_48 (by decide) (fun hc => ?_) (fun hc => ?_)
          · have h := oi h hc
            have q := Option.some.inj h
            subst q
            have q := Option.some.inj hk45
            subst q
            exact X45 (x45.1, x45.2) hr45 _ _ _ (lv_sub hl [0] rfl) hw
          · have h := oe h hc
            refine lv_aload_n hx hb d_PP_startNew_51 rfl (lv_at hl 0 rfl) ?_
            refine va_get (ci := 0) (v := .ref (ad 6)) (C := R_PP) (T := F_PP) (N := 8) hx hb hg in_PP hown hK hw.1 0 rfl rfl 4 (by decide) (hg _ q_351) (fun _ h9 => h9) rfl d_PP_startNew_52 ?_
            refine lv_iload_n hx hb d_PP_startNew_55 rfl (lv_at hl 1 rfl) ?_
            refine lv_iconst (v := (-1)) hx hb d_PP_startNew_56 (by decide) ?_
            refine oc h (fun hc2 h => ?_)
            refine va_iast hx hb hK hw.1 hw.2.1 hw.2.2 6 0 rfl rfl hc2 d_PP_startNew_57 (fun H locs hP hD hS => ?_)
            have hw : fw_H D vwCl A s.heap (wC ad cI cL 2 u1 le ff fo ct fx (upd x45.2 x45.1.toNatClampNeg (-1 : Int32)) pg cu co r40'.1 r40'.2.1 r40'.2.2 tg sc sr wy) H locs := ⟨hP, hD, hS⟩
            refine lv_iinc (k := 1) (v := x45.1 + 1) (lv' := [(2, .int (x45.1 + 1)), (0, .ref (ad 0))]) hx hb d_PP_startNew_58 hl rfl (by rw [lit1]) (by decide) rfl (fun ls hl => ?_)
            refine lv_goto (tgt := 45) hx hb d_PP_startNew_61 (by decide) ?_
            have q := Option.some.inj h
            subst q
            exact ih45 (x45.1 + 1, upd x45.2 x45.1.toNatClampNeg (-1 : Int32)) e45 hk45 hr45 _ _ _ (lv_sub hl [1, 0] rfl) hw
      refine ob h (fun e45 h1 h2 => ?_)
      exact L45 N ((0 : Int32), gv) e45 h1 h2 _ _ _ (lv_sub hl [1, 0] rfl) hw
  · have h := oi h hc
    refine lv_aload_n hx hb d_PP_startNew_10 rfl (lv_at hl 0 rfl) ?_
    refine va_get (ci := 0) (v := .ref (ad 1)) (C := R_PP) (T := F_PP) (N := 8) hx hb hg in_PP hown hK hw.1 0 rfl rfl 0 (by decide) (hg _ q_347) (fun _ h9 => h9) rfl d_PP_startNew_11 ?_
    refine lv_goto (tgt := 33) hx hb d_PP_startNew_14 (by decide) ?_
    refine va_put (ci := 0) (v := .ref (ad 1)) (ty := .object "PuzzlePress$Kind") (C := R_PP) (T := F_PP) (N := 8) hx hb hg in_PP t_PP t_PP_ok n_PP hown hK hw.1 hw.2.1 hw.2.2 0 rfl rfl 5 (by decide) (hg _ q_352) (fun _ h9 => h9) rfl (by decide +kernel) rfl rfl (Nat.le_of_ble_eq_true rfl) d_PP_startNew_33 (fun H locs hP hD hS => ?_)
    have hw : fw_H D vwCl A s.heap (wC ad cI cL 1 u1 le ff fo ct fx gv pg cu co sg ru nu tg sc sr wy) H locs := ⟨hP, hD, hS⟩
    refine lv_aload_n hx hb d_PP_startNew_36 rfl (lv_at hl 0 rfl) ?_
    refine va_get (ci := 0) (v := .ref (ad 1)) (C := R_PP) (T := F_PP) (N := 8) hx hb hg in_PP hown hK hw.1 0 rfl rfl 5 (by decide) (hg _ q_352) (fun _ h9 => h9) rfl d_PP_startNew_37 ?_
    refine ob h (fun r40'' h40 h => ?_)
    refine fw_callA (As := []) (rest := []) (st1 := []) S (ct_PI_makeNew l D ad cI cL N 1 u1 le ff fo ct fx gv pg cu co sg ru nu tg sc sr wy r40'' h40) dc_makeNew q_164 q_166 q_167 q_168 q_3 k_PI_makeNew hd_KD_makeNew.2 ⟨by rw [hR]; decide, by rw [hR]; decide⟩ rfl rfl hX hw hA 1 (ci := 1) rfl rfl hl.1 rfl rfl (Nat.le_of_ble_eq_true rfl) d_PP_startNew_40 ⟨Nat.zero_le _, Nat.zero_le _⟩ rfl (fun H locs hw => ?_)
    refine lv_iconst (v := 0) hx hb d_PP_startNew_43 (by decide) ?_
    refine lv_istore_n (lv' := [(2, .int (0 : Int32)), (0, .ref (ad 0)), (1, .int u1)]) hx hb d_PP_startNew_44 rfl hl (by decide) rfl (fun ls hl => ?_)
    have X45 : ∀ (y45 : Int32 × (Nat → Int32)), mr_PP_startNew_45'' N le ct fx co sg ru nu tg sc sr wy u1 r40'' y45 = some out → ∀ (ls : Array Slot) (H : Heap) (locs : List Loc), lv_has ls 3 [(0, .ref (ad 0))] → fw_H D vwCl A s.heap (wC ad cI cL 1 u1 le ff fo ct fx y45.2 pg r40'' co sg ru nu tg sc sr wy) H locs → W p l e R s m args below meth c H locs 0 0 Q (F0 m 64 ls []) := by
      intro y45 h ls H locs hl hw
      unfold mr_PP_startNew_45'' at h
      refine lv_aload_n hx hb d_PP_startNew_64 rfl (lv_at hl 0 rfl) ?_
      refine va_get (ci := 0) (v := .ref (ad 4)) (C := R_PP) (T := F_PP) (N := 8) hx hb hg in_PP hown hK hw.1 0 rfl rfl 3 (by decide) (hg _ q_350) (fun _ h9 => h9) rfl d_PP_startNew_65 ?_
      refine va_get (ci := 4) (v := .ref (ad 5)) (C := R_RE) (T := F_RE) (N := 3) hx hb hg in_RE hown hK hw.1 4 rfl rfl 0 (by decide) (hg _ q_149) (fun _ h9 => h9) rfl d_PP_startNew_68 ?_
      refine ob h (fun r71'' h71 h => ?_)
      refine fw_callV (As := []) (rest := []) (st1 := []) S (ct_UN_dropAll l D ad cI cL N 1 u1 le ff fo ct fx y45.2 pg r40'' co sg ru nu tg sc sr wy r71'' h71) q_176 q_177 q_178 q_7 k_UN_dropAll hd_UN_dropAll ⟨by rw [hR]; decide, by rw [hR]; decide⟩ rfl rfl hX hw hA 5 (ci := 5) rfl rfl hl.1 rfl rfl (Nat.le_of_ble_eq_true rfl) d_PP_startNew_71 ⟨Nat.zero_le _, Nat.zero_le _⟩ rfl (fun H locs hw => ?_)
      refine lv_aload_n hx hb d_PP_startNew_74 rfl (lv_at hl 0 rfl) ?_
      refine va_get (ci := 0) (v := .ref (ad 1)) (C := R_PP) (T := F_PP) (N := 8) hx hb hg in_PP hown hK hw.1 0 rfl rfl 5 (by decide) (hg _ q_352) (fun _ h9 => h9) rfl d_PP_startNew_75 ?_
      refine lv_aload_n hx hb d_PP_startNew_78 rfl (lv_at hl 0 rfl) ?_
      refine va_get (ci := 0) (v := .ref (ad 4)) (C := R_PP) (T := F_PP) (N := 8) hx hb hg in_PP hown hK hw.1 0 rfl rfl 3 (by decide) (hg _ q_350) (fun _ h9 => h9) rfl d_PP_startNew_79 ?_
      refine va_get (ci := 4) (v := .ref (ad 5)) (C := R_RE) (T := F_RE) (N := 3) hx hb hg in_RE hown hK hw.1 4 rfl rfl 0 (by decide) (hg _ q_149) (fun _ h9 => h9) rfl d_PP_startNew_82 ?_
      refine ob h (fun r85'' h85 h => ?_)
      refine fw_callA (As := [.ref (ad 5)]) (rest := []) (st1 := []) S (ct_PI_addFixedUnits l D ad cI cL N 1 u1 le ff fo r71''.1 r71''.2 y45.2 pg r40'' co sg ru nu tg sc sr wy r85'' h85) dc_addFixedUnits q_180 q_182 q_183 q_184 q_3 k_PI_addFixedUnits hd_KD_addFixedUnits.2 ⟨by rw [hR]; decide, by rw [hR]; decide⟩ rfl rfl hX hw hA 1 (ci := 1) rfl rfl hl.1 rfl rfl (Nat.le_of_ble_eq_true rfl) d_PP_startNew_85 ⟨Nat.zero_le _, Nat.zero_le _⟩ rfl (fun H locs hw => ?_)
      refine lv_aload_n hx hb d_PP_startNew_88 rfl (lv_at hl 0 rfl) ?_
      refine va_get (ci := 0) (v := .ref (ad 4)) (C := R_PP) (T := F_PP) (N := 8) hx hb hg in_PP hown hK hw.1 0 rfl rfl 3 (by decide) (hg _ q_350) (fun _ h9 => h9) rfl d_PP_startNew_89 ?_
      refine va_get (ci := 4) (v := .ref (ad 5)) (C := R_RE) (T := F_RE) (N := 3) hx hb hg in_RE hown hK hw.1 4 rfl rfl 0 (by decide) (hg _ q_149) (fun _ h9 => h9) rfl d_PP_startNew_92 ?_
      refine ob h (fun r95'' h95 h => ?_)
      refine fw_callV (As := []) (rest := []) (st1 := []) S (ct_UN_fixAll l D ad cI cL N 1 u1 le ff fo r71''.1 r71''.2 y45.2 pg r40'' co sg ru nu tg sc sr wy r95'' h95) q_290 q_291 q_292 q_7 k_UN_fixAll hd_UN_fixAll ⟨by rw [hR]; decide, by rw [hR]; decide⟩ rfl rfl hX hw hA 5 (ci := 5) rfl rfl hl.1 rfl rfl (Nat.le_of_ble_eq_true rfl) d_PP_startNew_95 ⟨Nat.zero_le _, Nat.zero_le _⟩ rfl (fun H locs hw => ?_)
      refine lv_aload_n hx hb d_PP_startNew_98 rfl (lv_at hl 0 rfl) ?_
      refine ob h (fun r99'' h99 h => ?_)
      refine fw_callV (As := []) (rest := []) (st1 := []) S (ct_PP_renewUnits l D ad cI cL N 1 u1 le ff fo r71''.1 r95'' y45.2 pg r40'' co sg ru nu tg sc sr wy r99'' h99) q_294 q_296 s_7 q_1 k_PP_renewUnits hd_PP_renewUnits ⟨by rw [hR]; decide, by rw [hR]; decide⟩ rfl rfl hX hw hA 0 (ci := 0) rfl rfl hl.1 rfl rfl (Nat.le_of_ble_eq_true rfl) d_PP_startNew_99 ⟨Nat.zero_le _, Nat.zero_le _⟩ rfl (fun H locs hw => ?_)
      have q := Option.some.inj h
      subst q
      exact fw_vret hQ S hr hlk hX hw d_PP_startNew_102
    have L45 : ∀ (n45 : Nat) (x45 : Int32 × (Nat → Int32)) (e45 : Int32 × (Nat → Int32)), lp (mb_PP_startNew_45'') n45 x45 = some e45 → (mr_PP_startNew_45'' N le ct fx co sg ru nu tg sc sr wy u1 r40'') e45 = some out → ∀ (ls : Array Slot) (H : Heap) (locs : List Loc), lv_has ls 3 [(0, .ref (ad 0)), (2, .int x45.1)] → fw_H D vwCl A s.heap (wC ad cI cL 1 u1 le ff fo ct fx x45.2 pg r40'' co sg ru nu tg sc sr wy) H locs → W p l e R s m args below meth c H locs 0 0 Q (F0 m 45 ls []) := by
      intro n45
      induction n45 with
      | zero => intro x45 e45 h1; exact absurd h1 lp_0
      | succ n45 ih45 =>
        intro x45 e45 h1 hr45 ls H locs hl hw
        rw [lp_s] at h1
        refine ob h1 (fun r45 h hk45 => ?_)
        unfold mb_PP_startNew_45'' at h
        refine lv_iload_n hx hb d_PP_startNew_45 rfl (lv_at hl 1 rfl) ?_
        refine lv_bipush (v := 25) hx hb d_PP_startNew_46 (by decide) ?_
        refine lv_icmp_ge (tgt := 64) hx hb d_PP_startNew_48 (by decide) (fun hc => ?_) (fun hc => ?_)
        · have h := oi h hc
          have q := Option.some.inj h
          subst q
          have q := Option.some.inj hk45
          subst q
          exact X45 (x45.1, x45.2) hr45 _ _ _ (lv_sub hl [0] rfl) hw
        · have h := oe h hc
          refine lv_aload_n hx hb d_PP_startNew_51 rfl (lv_at hl 0 rfl) ?_
          refine va_get (ci := 0) (v := .ref (ad 6)) (C := R_PP) (T := F_PP) (N := 8) hx hb hg in_PP hown hK hw.1 0 rfl rfl 4 (by decide) (hg _ q_351) (fun _ h9 => h9) rfl d_PP_startNew_52 ?_
          refine lv_iload_n hx hb d_PP_startNew_55 rfl (lv_at hl 1 rfl) ?_
          refine lv_iconst (v := (-1)) hx hb d_PP_startNew_56 (by decide) ?_
          refine oc h (fun hc3 h => ?_)
          refine va_iast hx hb hK hw.1 hw.2.1 hw.2.2 6 0 rfl rfl hc3 d_PP_startNew_57 (fun H locs hP hD hS => ?_)
          have hw : fw_H D vwCl A s.heap (wC ad cI cL 1 u1 le ff fo ct fx (upd x45.2 x45.1.toNatClampNeg (-1 : Int32)) pg r40'' co sg ru nu tg sc sr wy) H locs := ⟨hP, hD, hS⟩
          refine lv_iinc (k := 1) (v := x45.1 + 1) (lv' := [(2, .int (x45.1 + 1)), (0, .ref (ad 0))]) hx hb d_PP_startNew_58 hl rfl (by rw [lit1]) (by decide) rfl (fun ls hl => ?_)
          refine lv_goto (tgt := 45) hx hb d_PP_startNew_61 (by decide) ?_
          have q := Option.some.inj h
          subst q
          exact ih45 (x45.1 + 1, upd x45.2 x45.1.toNatClampNeg (-1 : Int32)) e45 hk45 hr45 _ _ _ (lv_sub hl [1, 0] rfl) hw
    refine ob h (fun e45 h1 h2 => ?_)
    exact L45 N ((0 : Int32), gv) e45 h1 h2 _ _ _ (lv_sub hl [1, 0] rfl) hw
set_option maxHeartbeats 4000000 in
set_option maxRecDepth 100000 in
theorem ct_PP_kind (l : Launch) (D : va_G) (ad : Nat → Nat) (cI cL : ClassId) (N : Nat) (kk : Nat) (kn : Int32) (le : Int64) (ff : Int64) (fo : Int32) (ct : Int32) (fx : Int32) (gv : Nat → Int32) (pg : Nat → Int32) (cu : Nat → Int32) (co : Nat → Int32) (sg : Nat → Int32) (ru : Nat → Int32) (nu : Nat → Int32) (tg : Nat → Int32) (sc : Nat → Int64) (sr : Nat → Int32) (wy : Nat → Int64)  (out : Int32) (h : mi_PP_kind N kn = some out) : fw_C l y_PP_kind (.code y_PP_kind b_PP_kind 1 (some .int) :: Gw) (fr 0 0) D vwCl (tyA cI cL) [.ref (ad 0)] (wC ad cI cL kk kn le ff fo ct fx gv pg cu co sg ru nu tg sc sr wy) (some (.int out)) (wC ad cI cL kk kn le ff fo ct fx gv pg cu co sg ru nu tg sc sr wy) := by
  refine fw_of (by decide) (Nat.le_of_ble_eq_true rfl) ?_
  intro p e s m args below meth c ls A R Q hR hQ S hr hlk hX hA hl hw
  have hK := hX.1
  have hx := S.1
  have hb := S.2.1
  have hown := S.2.2.2.1
  have hg := S.2.2.2.2
  have hl : lv_has ls 1 [(0, .ref (ad 0))] := hl
  unfold mi_PP_kind at h
  refine lv_aload_n hx hb d_PP_kind_0 rfl (lv_at hl 0 rfl) ?_
  refine va_get (ci := 0) (v := .int kn) (C := R_PP) (T := F_PP) (N := 8) hx hb hg in_PP hown hK hw.1 0 rfl rfl 6 (by decide) (hg _ q_353) (fun _ h9 => h9) rfl d_PP_kind_1 ?_
  have q := Option.some.inj h
  subst q
  exact fw_iret hQ S hr hlk hX hw d_PP_kind_4
set_option maxHeartbeats 4000000 in
set_option maxRecDepth 100000 in
theorem ct_PP_fillings (l : Launch) (D : va_G) (ad : Nat → Nat) (cI cL : ClassId) (N : Nat) (kk : Nat) (kn : Int32) (le : Int64) (ff : Int64) (fo : Int32) (ct : Int32) (fx : Int32) (gv : Nat → Int32) (pg : Nat → Int32) (cu : Nat → Int32) (co : Nat → Int32) (sg : Nat → Int32) (ru : Nat → Int32) (nu : Nat → Int32) (tg : Nat → Int32) (sc : Nat → Int64) (sr : Nat → Int32) (wy : Nat → Int64)  (out : Int32 × Int64 × Int32) (h : mi_PP_fillings N kk ff fo ct gv sc sr wy = some out) : fw_C l y_PP_fillings (.code y_PP_fillings b_PP_fillings 1 (some .int) :: Gw) (fr 31 1064) D vwCl (tyA cI cL) [.ref (ad 0)] (wC ad cI cL kk kn le ff fo ct fx gv pg cu co sg ru nu tg sc sr wy) (some (.int out.1)) (wC ad cI cL kk kn le out.2.1 out.2.2 ct fx gv pg cu co sg ru nu tg sc sr wy) := by
  refine fw_of (by decide) (Nat.le_of_ble_eq_true rfl) ?_
  intro p e s m args below meth c ls A R Q hR hQ S hr hlk hX hA hl hw
  have hK := hX.1
  have hx := S.1
  have hb := S.2.1
  have hown := S.2.2.2.1
  have hg := S.2.2.2.2
  have hl : lv_has ls 1 [(0, .ref (ad 0))] := hl
  unfold mi_PP_fillings at h
  refine lv_aload_n hx hb d_PP_fillings_0 rfl (lv_at hl 0 rfl) ?_
  refine va_get (ci := 0) (v := .ref (ad 4)) (C := R_PP) (T := F_PP) (N := 8) hx hb hg in_PP hown hK hw.1 0 rfl rfl 3 (by decide) (hg _ q_350) (fun _ h9 => h9) rfl d_PP_fillings_1 ?_
  refine lv_aload_n hx hb d_PP_fillings_4 rfl (lv_at hl 0 rfl) ?_
  refine va_get (ci := 0) (v := .ref (ad kk)) (C := R_PP) (T := F_PP) (N := 8) hx hb hg in_PP hown hK hw.1 0 rfl rfl 5 (by decide) (hg _ q_352) (fun _ h9 => h9) rfl d_PP_fillings_5 ?_
  refine oc h (fun hc h => ?_)
  have hk_kk := Decidable.not_not.mp hc
  refine lv_aload_n hx hb d_PP_fillings_8 rfl (lv_at hl 0 rfl) ?_
  refine ob h (fun r9 h9 h => ?_)
  refine fw_callV (As := []) (rest := [.ref (ad kk), .ref (ad 4)]) (st1 := [.long r9, .ref (ad kk), .ref (ad 4)]) S (ct_PP_atFirst l D ad cI cL N kk kn le ff fo ct fx gv pg cu co sg ru nu tg sc sr wy r9 h9) q_341 q_343 s_9 q_1 k_PP_atFirst hd_PP_atFirst ⟨by rw [hR]; decide, by rw [hR]; decide⟩ rfl rfl hX hw hA 0 (ci := 0) rfl rfl hl.1 rfl rfl (Nat.le_of_ble_eq_true rfl) d_PP_fillings_9 ⟨Nat.zero_le _, Nat.zero_le _⟩ rfl (fun H locs hw => ?_)
  refine lv_iconst (v := 2) hx hb d_PP_fillings_12 (by decide) ?_
  refine ob h (fun r13 h13 h => ?_)
  refine fw_callV (As := [.ref (ad kk), .long r9, .int (2 : Int32)]) (rest := []) (st1 := [.int r13.1]) S (ct_RE_countFillings l D ad cI cL N kk hk_kk kk kn le ff fo ct fx gv pg cu co sg ru nu tg sc sr wy r9 (2 : Int32) r13 h13) q_380 q_381 q_382 q_6 k_RE_countFillings hd_RE_countFillings ⟨by rw [hR]; decide, by rw [hR]; decide⟩ rfl rfl hX hw hA 4 (ci := 4) rfl rfl hl.1 rfl rfl (Nat.le_of_ble_eq_true rfl) d_PP_fillings_13 ⟨Nat.zero_le _, Nat.zero_le _⟩ rfl (fun H locs hw => ?_)
  have q := Option.some.inj h
  subst q
  exact fw_iret hQ S hr hlk hX hw d_PP_fillings_16
set_option maxHeartbeats 4000000 in
set_option maxRecDepth 100000 in
theorem ct_PP_fresh (l : Launch) (D : va_G) (ad : Nat → Nat) (cI cL : ClassId) (N : Nat) (kk : Nat) (kn : Int32) (le : Int64) (ff : Int64) (fo : Int32) (ct : Int32) (fx : Int32) (gv : Nat → Int32) (pg : Nat → Int32) (cu : Nat → Int32) (co : Nat → Int32) (sg : Nat → Int32) (ru : Nat → Int32) (nu : Nat → Int32) (tg : Nat → Int32) (sc : Nat → Int64) (sr : Nat → Int32) (wy : Nat → Int64)  (out : Int32 × Int64) (h : mi_PP_fresh N kk le gv = some out) : fw_C l y_PP_fresh (.code y_PP_fresh b_PP_fresh 1 (some .int) :: Gw) (fr 2 45) D vwCl (tyA cI cL) [.ref (ad 0)] (wC ad cI cL kk kn le ff fo ct fx gv pg cu co sg ru nu tg sc sr wy) (some (.int out.1)) (wC ad cI cL kk kn out.2 ff fo ct fx gv pg cu co sg ru nu tg sc sr wy) := by
  refine fw_of (by decide) (Nat.le_of_ble_eq_true rfl) ?_
  intro p e s m args below meth c ls A R Q hR hQ S hr hlk hX hA hl hw
  have hK := hX.1
  have hx := S.1
  have hb := S.2.1
  have hown := S.2.2.2.1
  have hg := S.2.2.2.2
  have hl : lv_has ls 1 [(0, .ref (ad 0))] := hl
  unfold mi_PP_fresh at h
  refine lv_aload_n hx hb d_PP_fresh_0 rfl (lv_at hl 0 rfl) ?_
  refine lv_aload_n hx hb d_PP_fresh_1 rfl (lv_at hl 0 rfl) ?_
  refine ob h (fun r2 h2 h => ?_)
  refine fw_callV (As := []) (rest := [.ref (ad 0)]) (st1 := [.long r2, .ref (ad 0)]) S (ct_PP_atFirst l D ad cI cL N kk kn le ff fo ct fx gv pg cu co sg ru nu tg sc sr wy r2 h2) q_341 q_343 s_9 q_1 k_PP_atFirst hd_PP_atFirst ⟨by rw [hR]; decide, by rw [hR]; decide⟩ rfl rfl hX hw hA 0 (ci := 0) rfl rfl hl.1 rfl rfl (Nat.le_of_ble_eq_true rfl) d_PP_fresh_2 ⟨Nat.zero_le _, Nat.zero_le _⟩ rfl (fun H locs hw => ?_)
  refine va_put (ci := 0) (v := .long r2) (ty := .long) (C := R_PP) (T := F_PP) (N := 8) hx hb hg in_PP t_PP t_PP_ok n_PP hown hK hw.1 hw.2.1 hw.2.2 0 rfl rfl 7 (by decide) (hg _ q_354) (fun _ h9 => h9) rfl (by decide +kernel) rfl rfl (Nat.le_of_ble_eq_true rfl) d_PP_fresh_5 (fun H locs hP hD hS => ?_)
  have hw : fw_H D vwCl A s.heap (wC ad cI cL kk kn r2 ff fo ct fx gv pg cu co sg ru nu tg sc sr wy) H locs := ⟨hP, hD, hS⟩
  refine lv_aload_n hx hb d_PP_fresh_8 rfl (lv_at hl 0 rfl) ?_
  refine va_get (ci := 0) (v := .long r2) (C := R_PP) (T := F_PP) (N := 8) hx hb hg in_PP hown hK hw.1 0 rfl rfl 7 (by decide) (hg _ q_354) (fun _ h9 => h9) rfl d_PP_fresh_9 ?_
  refine ob h (fun r12 h12 h => ?_)
  refine fw_callS (As := [.long r2]) (rest := []) (st1 := [.int r12]) S (ct_JL_bitCount l D (tyA cI cL) (wC ad cI cL kk kn r2 ff fo ct fx gv pg cu co sg ru nu tg sc sr wy) N r2 r12 h12) q_417 q_407 q_18 k_JL_bitCount hd_JL_bitCount ⟨by rw [hR]; decide, by rw [hR]; decide⟩ rfl rfl hX hw hA hl.1 rfl rfl (Nat.le_of_ble_eq_true rfl) d_PP_fresh_12 ⟨Nat.zero_le _, Nat.zero_le _⟩ rfl (fun H locs hw => ?_)
  have q := Option.some.inj h
  subst q
  exact fw_iret hQ S hr hlk hX hw d_PP_fresh_15
set_option maxHeartbeats 4000000 in
set_option maxRecDepth 100000 in
theorem ct_PP_step (l : Launch) (D : va_G) (ad : Nat → Nat) (cI cL : ClassId) (N : Nat) (kk : Nat) (kn : Int32) (le : Int64) (ff : Int64) (fo : Int32) (ct : Int32) (fx : Int32) (gv : Nat → Int32) (pg : Nat → Int32) (cu : Nat → Int32) (co : Nat → Int32) (sg : Nat → Int32) (ru : Nat → Int32) (nu : Nat → Int32) (tg : Nat → Int32) (sc : Nat → Int64) (sr : Nat → Int32) (wy : Nat → Int64)  (out : Int32 × Int64) (h : mi_PP_step N kk le ct sc sr wy = some out) : fw_C l y_PP_step (.code y_PP_step b_PP_step 5 (some .int) :: Gw) (fr 4 114) D vwCl (tyA cI cL) [.ref (ad 0)] (wC ad cI cL kk kn le ff fo ct fx gv pg cu co sg ru nu tg sc sr wy) (some (.int out.1)) (wC ad cI cL kk kn out.2 ff fo ct fx gv pg cu co sg ru nu tg sc sr wy) := by
  refine fw_of (by decide) (Nat.le_of_ble_eq_true rfl) ?_
  intro p e s m args below meth c ls A R Q hR hQ S hr hlk hX hA hl hw
  have hK := hX.1
  have hx := S.1
  have hb := S.2.1
  have hown := S.2.2.2.1
  have hg := S.2.2.2.2
  have hl : lv_has ls 5 [(0, .ref (ad 0))] := hl
  unfold mi_PP_step at h
  refine lv_iconst (v := 1) hx hb d_PP_step_0 (by decide) ?_
  refine lv_istore_n (lv' := [(1, .int (1 : Int32)), (0, .ref (ad 0))]) hx hb d_PP_step_1 rfl hl (by decide) rfl (fun ls hl => ?_)
  refine lv_aload_n hx hb d_PP_step_2 rfl (lv_at hl 1 rfl) ?_
  refine va_get (ci := 0) (v := .ref (ad 4)) (C := R_PP) (T := F_PP) (N := 8) hx hb hg in_PP hown hK hw.1 0 rfl rfl 3 (by decide) (hg _ q_350) (fun _ h9 => h9) rfl d_PP_step_3 ?_
  refine lv_aload_n hx hb d_PP_step_6 rfl (lv_at hl 1 rfl) ?_
  refine va_get (ci := 0) (v := .long le) (C := R_PP) (T := F_PP) (N := 8) hx hb hg in_PP hown hK hw.1 0 rfl rfl 7 (by decide) (hg _ q_354) (fun _ h9 => h9) rfl d_PP_step_7 ?_
  refine ob h (fun r10 h10 h => ?_)
  refine fw_callV (As := [.long le]) (rest := []) (st1 := [.long r10]) S (ct_RE_firstByLines l D ad cI cL N kk kn le ff fo ct fx gv pg cu co sg ru nu tg sc sr wy le r10 h10) q_422 q_423 q_424 q_6 k_RE_firstByLines hd_RE_firstByLines ⟨by rw [hR]; decide, by rw [hR]; decide⟩ rfl rfl hX hw hA 4 (ci := 4) rfl rfl hl.1 rfl rfl (Nat.le_of_ble_eq_true rfl) d_PP_step_10 ⟨Nat.zero_le _, Nat.zero_le _⟩ rfl (fun H locs hw => ?_)
  refine lv_lstore_n (lv' := [(2, .long r10), (1, .int (1 : Int32)), (0, .ref (ad 0))]) hx hb d_PP_step_13 rfl hl (by decide) rfl (fun ls hl => ?_)
  refine lv_lload_n hx hb d_PP_step_14 rfl (lv_at hl 0 rfl) ?_
  refine lv_lconst (v := 0) hx hb d_PP_step_15 (by decide) ?_
  have J38 : ∀ (j38l1 : Int32) (j38l2 : Int64), mj_PP_step_38 N kk le j38l1 j38l2 = some out → ∀ (ls : Array Slot) (H : Heap) (locs : List Loc), lv_has ls 5 [(0, .ref (ad 0)), (1, .int j38l1), (2, .long j38l2)] → fw_H D vwCl A s.heap (wC ad cI cL kk kn le ff fo ct fx gv pg cu co sg ru nu tg sc sr wy) H locs → W p l e R s m args below meth c H locs 0 0 Q (F0 m 38 ls []) := by
    intro j38l1 j38l2 h ls H locs hl hw
    unfold mj_PP_step_38 at h
    refine lv_lload_n hx hb d_PP_step_38 rfl (lv_at hl 2 rfl) ?_
    refine lv_lconst (v := 0) hx hb d_PP_step_39 (by decide) ?_
    refine fw_lcmpN (tgt := 46) hx hb d_PP_step_40 d_PP_step_41 (by decide) (fun hc => ?_) (fun hc => ?_)
    · have h := oe h hc
      refine lv_aload_n hx hb d_PP_step_46 rfl (lv_at hl 0 rfl) ?_
      refine lv_dup hx hb d_PP_step_47 rfl ?_
      refine va_get (ci := 0) (v := .long le) (C := R_PP) (T := F_PP) (N := 8) hx hb hg in_PP hown hK hw.1 0 rfl rfl 7 (by decide) (hg _ q_354) (fun _ h9 => h9) rfl d_PP_step_48 ?_
      refine lv_lload_n hx hb d_PP_step_51 rfl (lv_at hl 2 rfl) ?_
      refine lv_ldc2 (v := (-1)) hx hb hown (hg _ q_438) d_PP_step_52 ?_
      refine lv_lxor hx hb d_PP_step_55 ?_
      refine lv_land hx hb d_PP_step_56 ?_
      refine va_put (ci := 0) (v := .long (le &&& (j38l2 ^^^ (-1 : Int64)))) (ty := .long) (C := R_PP) (T := F_PP) (N := 8) hx hb hg in_PP t_PP t_PP_ok n_PP hown hK hw.1 hw.2.1 hw.2.2 0 rfl rfl 7 (by decide) (hg _ q_354) (fun _ h9 => h9) rfl (by decide +kernel) rfl rfl (Nat.le_of_ble_eq_true rfl) d_PP_step_57 (fun H locs hP hD hS => ?_)
      have hw : fw_H D vwCl A s.heap (wC ad cI cL kk kn (le &&& (j38l2 ^^^ (-1 : Int64))) ff fo ct fx gv pg cu co sg ru nu tg sc sr wy) H locs := ⟨hP, hD, hS⟩
      refine lv_aload_n hx hb d_PP_step_60 rfl (lv_at hl 0 rfl) ?_
      refine va_get (ci := 0) (v := .ref (ad kk)) (C := R_PP) (T := F_PP) (N := 8) hx hb hg in_PP hown hK hw.1 0 rfl rfl 5 (by decide) (hg _ q_352) (fun _ h9 => h9) rfl d_PP_step_61 ?_
      refine oc h (fun hc h => ?_)
      have hk_kk := Decidable.not_not.mp hc
      refine lv_lload_n hx hb d_PP_step_64 rfl (lv_at hl 2 rfl) ?_
      refine ob h (fun r65 h65 h => ?_)
      refine fw_callK (As := [.long j38l2]) (rest := []) (st1 := [.int r65]) S (ct_KD_cellOf l D ad cI cL N kk hk_kk kk kn (le &&& (j38l2 ^^^ (-1 : Int64))) ff fo ct fx gv pg cu co sg ru nu tg sc sr wy j38l2 r65 h65) hk_kk q_439 q_441 q_442 q_443 q_444 q_440 q_2 k_KD_cellOf hd_KD_cellOf rfl ⟨by rw [hR]; decide, by rw [hR]; decide⟩ rfl rfl hX hw hA rfl rfl rfl hl.1 rfl rfl (Nat.le_of_ble_eq_true rfl) d_PP_step_65 ⟨Nat.zero_le _, Nat.zero_le _⟩ rfl (fun H locs hw => ?_)
      refine lv_istore (lv' := [(4, .int r65), (0, .ref (ad 0)), (1, .int j38l1), (2, .long j38l2)]) hx hb d_PP_step_68 hl (by decide) rfl (fun ls hl => ?_)
      refine lv_sipush (v := 1000) hx hb d_PP_step_70 (by decide) ?_
      refine lv_iload_n hx hb d_PP_step_73 rfl (lv_at hl 2 rfl) ?_
      refine lv_imul hx hb d_PP_step_74 ?_
      refine lv_bipush (v := 10) hx hb d_PP_step_75 (by decide) ?_
      refine lv_iload hx hb d_PP_step_77 (lv_at hl 0 rfl) ?_
      refine lv_imul hx hb d_PP_step_79 ?_
      refine lv_iadd hx hb d_PP_step_80 ?_
      refine lv_aload_n hx hb d_PP_step_81 rfl (lv_at hl 1 rfl) ?_
      refine va_get (ci := 0) (v := .ref (ad kk)) (C := R_PP) (T := F_PP) (N := 8) hx hb hg in_PP hown hK hw.1 0 rfl rfl 5 (by decide) (hg _ q_352) (fun _ h9 => h9) rfl d_PP_step_82 ?_
      refine lv_lload_n hx hb d_PP_step_85 rfl (lv_at hl 3 rfl) ?_
      refine lv_iload hx hb d_PP_step_86 (lv_at hl 0 rfl) ?_
      refine ob h (fun r88 h88 h => ?_)
      refine fw_callK (As := [.long j38l2, .int r65]) (rest := [.int (((1000 : Int32) * j38l1) + ((10 : Int32) * r65))]) (st1 := [.int r88, .int (((1000 : Int32) * j38l1) + ((10 : Int32) * r65))]) S (ct_KD_valueIn l D ad cI cL N kk hk_kk kk kn (le &&& (j38l2 ^^^ (-1 : Int64))) ff fo ct fx gv pg cu co sg ru nu tg sc sr wy j38l2 r65 r88 h88) hk_kk q_446 q_448 q_449 q_450 q_451 q_447 q_2 k_KD_valueIn hd_KD_valueIn rfl ⟨by rw [hR]; decide, by rw [hR]; decide⟩ rfl rfl hX hw hA rfl rfl rfl hl.1 rfl rfl (Nat.le_of_ble_eq_true rfl) d_PP_step_88 ⟨Nat.zero_le _, Nat.zero_le _⟩ rfl (fun H locs hw => ?_)
      refine lv_iadd hx hb d_PP_step_91 ?_
      have q := Option.some.inj h
      subst q
      exact fw_iret hQ S hr hlk hX hw d_PP_step_92
    · have h := oi h hc
      refine lv_iconst (v := 0) hx hb d_PP_step_44 (by decide) ?_
      have q := Option.some.inj h
      subst q
      exact fw_iret hQ S hr hlk hX hw d_PP_step_45
  refine fw_lcmpN (tgt := 38) hx hb d_PP_step_16 d_PP_step_17 (by decide) (fun hc => ?_) (fun hc => ?_)
  · have h := oe h hc
    exact J38 (1 : Int32) r10 h _ _ _ (lv_sub hl [2, 1, 0] rfl) hw
  · have h := oi h hc
    refine lv_iconst (v := 2) hx hb d_PP_step_20 (by decide) ?_
    refine lv_istore_n (lv' := [(1, .int (2 : Int32)), (2, .long r10), (0, .ref (ad 0))]) hx hb d_PP_step_21 rfl hl (by decide) rfl (fun ls hl => ?_)
    refine lv_aload_n hx hb d_PP_step_22 rfl (lv_at hl 2 rfl) ?_
    refine va_get (ci := 0) (v := .ref (ad 4)) (C := R_PP) (T := F_PP) (N := 8) hx hb hg in_PP hown hK hw.1 0 rfl rfl 3 (by decide) (hg _ q_350) (fun _ h9 => h9) rfl d_PP_step_23 ?_
    refine lv_aload_n hx hb d_PP_step_26 rfl (lv_at hl 2 rfl) ?_
    refine va_get (ci := 0) (v := .ref (ad kk)) (C := R_PP) (T := F_PP) (N := 8) hx hb hg in_PP hown hK hw.1 0 rfl rfl 5 (by decide) (hg _ q_352) (fun _ h9 => h9) rfl d_PP_step_27 ?_
    refine oc h (fun hc h => ?_)
    have hk_kk := Decidable.not_not.mp hc
    refine lv_aload_n hx hb d_PP_step_30 rfl (lv_at hl 2 rfl) ?_
    refine va_get (ci := 0) (v := .long le) (C := R_PP) (T := F_PP) (N := 8) hx hb hg in_PP hown hK hw.1 0 rfl rfl 7 (by decide) (hg _ q_354) (fun _ h9 => h9) rfl d_PP_step_31 ?_
    refine ob h (fun r34 h34 h => ?_)
    refine fw_callV (As := [.ref (ad kk), .long le]) (rest := []) (st1 := [.long r34]) S (ct_RE_firstBySupposing l D ad cI cL N kk hk_kk kk kn le ff fo ct fx gv pg cu co sg ru nu tg sc sr wy le r34 h34) q_430 q_431 q_432 q_6 k_RE_firstBySupposing hd_RE_firstBySupposing ⟨by rw [hR]; decide, by rw [hR]; decide⟩ rfl rfl hX hw hA 4 (ci := 4) rfl rfl hl.1 rfl rfl (Nat.le_of_ble_eq_true rfl) d_PP_step_34 ⟨Nat.zero_le _, Nat.zero_le _⟩ rfl (fun H locs hw => ?_)
    refine lv_lstore_n (lv' := [(2, .long r34), (1, .int (2 : Int32)), (0, .ref (ad 0))]) hx hb d_PP_step_37 rfl hl (by decide) rfl (fun ls hl => ?_)
    exact J38 (2 : Int32) r34 h _ _ _ (lv_sub hl [2, 1, 0] rfl) hw
set_option maxHeartbeats 4000000 in
set_option maxRecDepth 100000 in
theorem ct_PP_grade (l : Launch) (D : va_G) (ad : Nat → Nat) (cI cL : ClassId) (N : Nat) (kk : Nat) (kn : Int32) (le : Int64) (ff : Int64) (fo : Int32) (ct : Int32) (fx : Int32) (gv : Nat → Int32) (pg : Nat → Int32) (cu : Nat → Int32) (co : Nat → Int32) (sg : Nat → Int32) (ru : Nat → Int32) (nu : Nat → Int32) (tg : Nat → Int32) (sc : Nat → Int64) (sr : Nat → Int32) (wy : Nat → Int64)  (out : Int32 × Int64 × Int32) (h : mi_PP_grade N kk ff fo ct gv sc sr wy = some out) : fw_C l y_PP_grade (.code y_PP_grade b_PP_grade 4 (some .int) :: Gw) (fr 31 1064) D vwCl (tyA cI cL) [.ref (ad 0)] (wC ad cI cL kk kn le ff fo ct fx gv pg cu co sg ru nu tg sc sr wy) (some (.int out.1)) (wC ad cI cL kk kn le out.2.1 out.2.2 ct fx gv pg cu co sg ru nu tg sc sr wy) := by
  refine fw_of (by decide) (Nat.le_of_ble_eq_true rfl) ?_
  intro p e s m args below meth c ls A R Q hR hQ S hr hlk hX hA hl hw
  have hK := hX.1
  have hx := S.1
  have hb := S.2.1
  have hown := S.2.2.2.1
  have hg := S.2.2.2.2
  have hl : lv_has ls 4 [(0, .ref (ad 0))] := hl
  unfold mi_PP_grade at h
  refine lv_aload_n hx hb d_PP_grade_0 rfl (lv_at hl 0 rfl) ?_
  refine ob h (fun r1 h1 h => ?_)
  refine fw_callV (As := []) (rest := []) (st1 := [.long r1]) S (ct_PP_atFirst l D ad cI cL N kk kn le ff fo ct fx gv pg cu co sg ru nu tg sc sr wy r1 h1) q_341 q_343 s_9 q_1 k_PP_atFirst hd_PP_atFirst ⟨by rw [hR]; decide, by rw [hR]; decide⟩ rfl rfl hX hw hA 0 (ci := 0) rfl rfl hl.1 rfl rfl (Nat.le_of_ble_eq_true rfl) d_PP_grade_1 ⟨Nat.zero_le _, Nat.zero_le _⟩ rfl (fun H locs hw => ?_)
  refine lv_lstore_n (lv' := [(1, .long r1), (0, .ref (ad 0))]) hx hb d_PP_grade_4 rfl hl (by decide) rfl (fun ls hl => ?_)
  refine lv_aload_n hx hb d_PP_grade_5 rfl (lv_at hl 1 rfl) ?_
  refine va_get (ci := 0) (v := .ref (ad 4)) (C := R_PP) (T := F_PP) (N := 8) hx hb hg in_PP hown hK hw.1 0 rfl rfl 3 (by decide) (hg _ q_350) (fun _ h9 => h9) rfl d_PP_grade_6 ?_
  refine lv_aload_n hx hb d_PP_grade_9 rfl (lv_at hl 1 rfl) ?_
  refine va_get (ci := 0) (v := .ref (ad kk)) (C := R_PP) (T := F_PP) (N := 8) hx hb hg in_PP hown hK hw.1 0 rfl rfl 5 (by decide) (hg _ q_352) (fun _ h9 => h9) rfl d_PP_grade_10 ?_
  refine oc h (fun hc h => ?_)
  have hk_kk := Decidable.not_not.mp hc
  refine lv_lload_n hx hb d_PP_grade_13 rfl (lv_at hl 0 rfl) ?_
  refine lv_iconst (v := 2) hx hb d_PP_grade_14 (by decide) ?_
  refine ob h (fun r15 h15 h => ?_)
  refine fw_callV (As := [.ref (ad kk), .long r1, .int (2 : Int32)]) (rest := []) (st1 := [.int r15.1]) S (ct_RE_countFillings l D ad cI cL N kk hk_kk kk kn le ff fo ct fx gv pg cu co sg ru nu tg sc sr wy r1 (2 : Int32) r15 h15) q_380 q_381 q_382 q_6 k_RE_countFillings hd_RE_countFillings ⟨by rw [hR]; decide, by rw [hR]; decide⟩ rfl rfl hX hw hA 4 (ci := 4) rfl rfl hl.1 rfl rfl (Nat.le_of_ble_eq_true rfl) d_PP_grade_15 ⟨Nat.zero_le _, Nat.zero_le _⟩ rfl (fun H locs hw => ?_)
  refine lv_istore_n (lv' := [(3, .int r15.1), (1, .long r1), (0, .ref (ad 0))]) hx hb d_PP_grade_18 rfl hl (by decide) rfl (fun ls hl => ?_)
  refine lv_iload_n hx hb d_PP_grade_19 rfl (lv_at hl 0 rfl) ?_
  refine lv_iconst (v := 1) hx hb d_PP_grade_20 (by decide) ?_
  refine lv_icmp_eq (tgt := 34) hx hb d_PP_grade_21 (by decide) (fun hc => ?_) (fun hc => ?_)
  · have h := oi h hc
    refine lv_aload_n hx hb d_PP_grade_34 rfl (lv_at hl 2 rfl) ?_
    refine va_get (ci := 0) (v := .ref (ad 4)) (C := R_PP) (T := F_PP) (N := 8) hx hb hg in_PP hown hK hw.1 0 rfl rfl 3 (by decide) (hg _ q_350) (fun _ h9 => h9) rfl d_PP_grade_35 ?_
    refine lv_lload_n hx hb d_PP_grade_38 rfl (lv_at hl 1 rfl) ?_
    refine ob h (fun r39 h39 h => ?_)
    refine fw_callV (As := [.long r1]) (rest := []) (st1 := [.long r39]) S (ct_RE_byLines l D ad cI cL N kk kn le r15.2.1 r15.2.2 ct fx gv pg cu co sg ru nu tg sc sr wy r1 r39 h39) q_465 q_466 q_467 q_6 k_RE_byLines hd_RE_byLines ⟨by rw [hR]; decide, by rw [hR]; decide⟩ rfl rfl hX hw hA 4 (ci := 4) rfl rfl hl.1 rfl rfl (Nat.le_of_ble_eq_true rfl) d_PP_grade_39 ⟨Nat.zero_le _, Nat.zero_le _⟩ rfl (fun H locs hw => ?_)
    refine ob h (fun r42 h42 h => ?_)
    refine fw_callS (As := [.long r39]) (rest := []) (st1 := [.int r42]) S (ct_JL_bitCount l D (tyA cI cL) (wC ad cI cL kk kn le r15.2.1 r15.2.2 ct fx gv pg cu co sg ru nu tg sc sr wy) N r39 r42 h42) q_417 q_407 q_18 k_JL_bitCount hd_JL_bitCount ⟨by rw [hR]; decide, by rw [hR]; decide⟩ rfl rfl hX hw hA hl.1 rfl rfl (Nat.le_of_ble_eq_true rfl) d_PP_grade_42 ⟨Nat.zero_le _, Nat.zero_le _⟩ rfl (fun H locs hw => ?_)
    refine lv_aload_n hx hb d_PP_grade_45 rfl (lv_at hl 2 rfl) ?_
    refine va_get (ci := 0) (v := .ref (ad kk)) (C := R_PP) (T := F_PP) (N := 8) hx hb hg in_PP hown hK hw.1 0 rfl rfl 5 (by decide) (hg _ q_352) (fun _ h9 => h9) rfl d_PP_grade_46 ?_
    refine fk_cells S hK hw hk_kk (hg _ q_47) d_PP_grade_49 ?_
    refine lv_icmp_ne (tgt := 57) hx hb d_PP_grade_52 (by decide) (fun hc => ?_) (fun hc => ?_)
    · have h := oe h hc
      refine lv_aload_n hx hb d_PP_grade_57 rfl (lv_at hl 2 rfl) ?_
      refine va_get (ci := 0) (v := .ref (ad 4)) (C := R_PP) (T := F_PP) (N := 8) hx hb hg in_PP hown hK hw.1 0 rfl rfl 3 (by decide) (hg _ q_350) (fun _ h9 => h9) rfl d_PP_grade_58 ?_
      refine lv_aload_n hx hb d_PP_grade_61 rfl (lv_at hl 2 rfl) ?_
      refine va_get (ci := 0) (v := .ref (ad kk)) (C := R_PP) (T := F_PP) (N := 8) hx hb hg in_PP hown hK hw.1 0 rfl rfl 5 (by decide) (hg _ q_352) (fun _ h9 => h9) rfl d_PP_grade_62 ?_
      refine lv_lload_n hx hb d_PP_grade_65 rfl (lv_at hl 1 rfl) ?_
      refine ob h (fun r66 h66 h => ?_)
      refine fw_callV (As := [.ref (ad kk), .long r1]) (rest := []) (st1 := [.long r66]) S (ct_RE_byBoth l D ad cI cL N kk hk_kk kk kn le r15.2.1 r15.2.2 ct fx gv pg cu co sg ru nu tg sc sr wy r1 r66 h66) q_469 q_470 q_471 q_6 k_RE_byBoth hd_RE_byBoth ⟨by rw [hR]; decide, by rw [hR]; decide⟩ rfl rfl hX hw hA 4 (ci := 4) rfl rfl hl.1 rfl rfl (Nat.le_of_ble_eq_true rfl) d_PP_grade_66 ⟨Nat.zero_le _, Nat.zero_le _⟩ rfl (fun H locs hw => ?_)
      refine ob h (fun r69 h69 h => ?_)
      refine fw_callS (As := [.long r66]) (rest := []) (st1 := [.int r69]) S (ct_JL_bitCount l D (tyA cI cL) (wC ad cI cL kk kn le r15.2.1 r15.2.2 ct fx gv pg cu co sg ru nu tg sc sr wy) N r66 r69 h69) q_417 q_407 q_18 k_JL_bitCount hd_JL_bitCount ⟨by rw [hR]; decide, by rw [hR]; decide⟩ rfl rfl hX hw hA hl.1 rfl rfl (Nat.le_of_ble_eq_true rfl) d_PP_grade_69 ⟨Nat.zero_le _, Nat.zero_le _⟩ rfl (fun H locs hw => ?_)
      refine lv_aload_n hx hb d_PP_grade_72 rfl (lv_at hl 2 rfl) ?_
      refine va_get (ci := 0) (v := .ref (ad kk)) (C := R_PP) (T := F_PP) (N := 8) hx hb hg in_PP hown hK hw.1 0 rfl rfl 5 (by decide) (hg _ q_352) (fun _ h9 => h9) rfl d_PP_grade_73 ?_
      refine fk_cells S hK hw hk_kk (hg _ q_47) d_PP_grade_76 ?_
      refine lv_icmp_ne (tgt := 86) hx hb d_PP_grade_79 (by decide) (fun hc => ?_) (fun hc => ?_)
      · have h := oe h hc
        refine lv_iconst (v := 3) hx hb d_PP_grade_86 (by decide) ?_
        have q := Option.some.inj h
        subst q
        exact fw_iret hQ S hr hlk hX hw d_PP_grade_87
      · have h := oi h hc
        refine lv_iconst (v := 2) hx hb d_PP_grade_82 (by decide) ?_
        refine lv_goto (tgt := 87) hx hb d_PP_grade_83 (by decide) ?_
        have q := Option.some.inj h
        subst q
        exact fw_iret hQ S hr hlk hX hw d_PP_grade_87
    · have h := oi h hc
      refine lv_iconst (v := 1) hx hb d_PP_grade_55 (by decide) ?_
      have q := Option.some.inj h
      subst q
      exact fw_iret hQ S hr hlk hX hw d_PP_grade_56
  · have h := oe h hc
    refine lv_iload_n hx hb d_PP_grade_24 rfl (lv_at hl 0 rfl) ?_
    refine lv_if_ne (tgt := 32) hx hb d_PP_grade_25 (by decide) (fun hc => ?_) (fun hc => ?_)
    · have h := oe h hc
      refine lv_iconst (v := 4) hx hb d_PP_grade_32 (by decide) ?_
      have q := Option.some.inj h
      subst q
      exact fw_iret hQ S hr hlk hX hw d_PP_grade_33
    · have h := oi h hc
      refine lv_iconst (v := 0) hx hb d_PP_grade_28 (by decide) ?_
      refine lv_goto (tgt := 33) hx hb d_PP_grade_29 (by decide) ?_
      have q := Option.some.inj h
      subst q
      exact fw_iret hQ S hr hlk hX hw d_PP_grade_33
