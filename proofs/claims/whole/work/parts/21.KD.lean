theorem d_JI_bitCount_0 : decode b_JI_bitCount 0 = .ok (.iload_n 0, 1) := by decide +kernel
theorem d_JI_bitCount_1 : decode b_JI_bitCount 1 = .ok (.iload_n 0, 1) := by decide +kernel
theorem d_JI_bitCount_2 : decode b_JI_bitCount 2 = .ok (.iconst 1, 1) := by decide +kernel
theorem d_JI_bitCount_3 : decode b_JI_bitCount 3 = .ok (.iushr, 1) := by decide +kernel
theorem d_JI_bitCount_4 : decode b_JI_bitCount 4 = .ok (.ldc_w 265, 3) := by decide +kernel
theorem d_JI_bitCount_7 : decode b_JI_bitCount 7 = .ok (.iand, 1) := by decide +kernel
theorem d_JI_bitCount_8 : decode b_JI_bitCount 8 = .ok (.isub, 1) := by decide +kernel
theorem d_JI_bitCount_9 : decode b_JI_bitCount 9 = .ok (.istore_n 0, 1) := by decide +kernel
theorem d_JI_bitCount_10 : decode b_JI_bitCount 10 = .ok (.iload_n 0, 1) := by decide +kernel
theorem d_JI_bitCount_11 : decode b_JI_bitCount 11 = .ok (.ldc_w 266, 3) := by decide +kernel
theorem d_JI_bitCount_14 : decode b_JI_bitCount 14 = .ok (.iand, 1) := by decide +kernel
theorem d_JI_bitCount_15 : decode b_JI_bitCount 15 = .ok (.iload_n 0, 1) := by decide +kernel
theorem d_JI_bitCount_16 : decode b_JI_bitCount 16 = .ok (.iconst 2, 1) := by decide +kernel
theorem d_JI_bitCount_17 : decode b_JI_bitCount 17 = .ok (.iushr, 1) := by decide +kernel
theorem d_JI_bitCount_18 : decode b_JI_bitCount 18 = .ok (.ldc_w 266, 3) := by decide +kernel
theorem d_JI_bitCount_21 : decode b_JI_bitCount 21 = .ok (.iand, 1) := by decide +kernel
theorem d_JI_bitCount_22 : decode b_JI_bitCount 22 = .ok (.iadd, 1) := by decide +kernel
theorem d_JI_bitCount_23 : decode b_JI_bitCount 23 = .ok (.istore_n 0, 1) := by decide +kernel
theorem d_JI_bitCount_24 : decode b_JI_bitCount 24 = .ok (.iload_n 0, 1) := by decide +kernel
theorem d_JI_bitCount_25 : decode b_JI_bitCount 25 = .ok (.iload_n 0, 1) := by decide +kernel
theorem d_JI_bitCount_26 : decode b_JI_bitCount 26 = .ok (.iconst 4, 1) := by decide +kernel
theorem d_JI_bitCount_27 : decode b_JI_bitCount 27 = .ok (.iushr, 1) := by decide +kernel
theorem d_JI_bitCount_28 : decode b_JI_bitCount 28 = .ok (.iadd, 1) := by decide +kernel
theorem d_JI_bitCount_29 : decode b_JI_bitCount 29 = .ok (.ldc_w 267, 3) := by decide +kernel
theorem d_JI_bitCount_32 : decode b_JI_bitCount 32 = .ok (.iand, 1) := by decide +kernel
theorem d_JI_bitCount_33 : decode b_JI_bitCount 33 = .ok (.istore_n 0, 1) := by decide +kernel
theorem d_JI_bitCount_34 : decode b_JI_bitCount 34 = .ok (.iload_n 0, 1) := by decide +kernel
theorem d_JI_bitCount_35 : decode b_JI_bitCount 35 = .ok (.iload_n 0, 1) := by decide +kernel
theorem d_JI_bitCount_36 : decode b_JI_bitCount 36 = .ok (.bipush 8, 2) := by decide +kernel
theorem d_JI_bitCount_38 : decode b_JI_bitCount 38 = .ok (.iushr, 1) := by decide +kernel
theorem d_JI_bitCount_39 : decode b_JI_bitCount 39 = .ok (.iadd, 1) := by decide +kernel
theorem d_JI_bitCount_40 : decode b_JI_bitCount 40 = .ok (.istore_n 0, 1) := by decide +kernel
theorem d_JI_bitCount_41 : decode b_JI_bitCount 41 = .ok (.iload_n 0, 1) := by decide +kernel
theorem d_JI_bitCount_42 : decode b_JI_bitCount 42 = .ok (.iload_n 0, 1) := by decide +kernel
theorem d_JI_bitCount_43 : decode b_JI_bitCount 43 = .ok (.bipush 16, 2) := by decide +kernel
theorem d_JI_bitCount_45 : decode b_JI_bitCount 45 = .ok (.iushr, 1) := by decide +kernel
theorem d_JI_bitCount_46 : decode b_JI_bitCount 46 = .ok (.iadd, 1) := by decide +kernel
theorem d_JI_bitCount_47 : decode b_JI_bitCount 47 = .ok (.istore_n 0, 1) := by decide +kernel
theorem d_JI_bitCount_48 : decode b_JI_bitCount 48 = .ok (.iload_n 0, 1) := by decide +kernel
theorem d_JI_bitCount_49 : decode b_JI_bitCount 49 = .ok (.bipush 63, 2) := by decide +kernel
theorem d_JI_bitCount_51 : decode b_JI_bitCount 51 = .ok (.iand, 1) := by decide +kernel
theorem d_JI_bitCount_52 : decode b_JI_bitCount 52 = .ok (.ireturn, 1) := by decide +kernel
theorem d_JL_bitCount_0 : decode b_JL_bitCount 0 = .ok (.lload_n 0, 1) := by decide +kernel
theorem d_JL_bitCount_1 : decode b_JL_bitCount 1 = .ok (.lload_n 0, 1) := by decide +kernel
theorem d_JL_bitCount_2 : decode b_JL_bitCount 2 = .ok (.iconst 1, 1) := by decide +kernel
theorem d_JL_bitCount_3 : decode b_JL_bitCount 3 = .ok (.lushr, 1) := by decide +kernel
theorem d_JL_bitCount_4 : decode b_JL_bitCount 4 = .ok (.ldc2_w 314, 3) := by decide +kernel
theorem d_JL_bitCount_7 : decode b_JL_bitCount 7 = .ok (.land, 1) := by decide +kernel
theorem d_JL_bitCount_8 : decode b_JL_bitCount 8 = .ok (.lsub, 1) := by decide +kernel
theorem d_JL_bitCount_9 : decode b_JL_bitCount 9 = .ok (.lstore_n 0, 1) := by decide +kernel
theorem d_JL_bitCount_10 : decode b_JL_bitCount 10 = .ok (.lload_n 0, 1) := by decide +kernel
theorem d_JL_bitCount_11 : decode b_JL_bitCount 11 = .ok (.ldc2_w 316, 3) := by decide +kernel
theorem d_JL_bitCount_14 : decode b_JL_bitCount 14 = .ok (.land, 1) := by decide +kernel
theorem d_JL_bitCount_15 : decode b_JL_bitCount 15 = .ok (.lload_n 0, 1) := by decide +kernel
theorem d_JL_bitCount_16 : decode b_JL_bitCount 16 = .ok (.iconst 2, 1) := by decide +kernel
theorem d_JL_bitCount_17 : decode b_JL_bitCount 17 = .ok (.lushr, 1) := by decide +kernel
theorem d_JL_bitCount_18 : decode b_JL_bitCount 18 = .ok (.ldc2_w 316, 3) := by decide +kernel
theorem d_JL_bitCount_21 : decode b_JL_bitCount 21 = .ok (.land, 1) := by decide +kernel
theorem d_JL_bitCount_22 : decode b_JL_bitCount 22 = .ok (.ladd, 1) := by decide +kernel
theorem d_JL_bitCount_23 : decode b_JL_bitCount 23 = .ok (.lstore_n 0, 1) := by decide +kernel
theorem d_JL_bitCount_24 : decode b_JL_bitCount 24 = .ok (.lload_n 0, 1) := by decide +kernel
theorem d_JL_bitCount_25 : decode b_JL_bitCount 25 = .ok (.lload_n 0, 1) := by decide +kernel
theorem d_JL_bitCount_26 : decode b_JL_bitCount 26 = .ok (.iconst 4, 1) := by decide +kernel
theorem d_JL_bitCount_27 : decode b_JL_bitCount 27 = .ok (.lushr, 1) := by decide +kernel
theorem d_JL_bitCount_28 : decode b_JL_bitCount 28 = .ok (.ladd, 1) := by decide +kernel
theorem d_JL_bitCount_29 : decode b_JL_bitCount 29 = .ok (.ldc2_w 318, 3) := by decide +kernel
theorem d_JL_bitCount_32 : decode b_JL_bitCount 32 = .ok (.land, 1) := by decide +kernel
theorem d_JL_bitCount_33 : decode b_JL_bitCount 33 = .ok (.lstore_n 0, 1) := by decide +kernel
theorem d_JL_bitCount_34 : decode b_JL_bitCount 34 = .ok (.lload_n 0, 1) := by decide +kernel
theorem d_JL_bitCount_35 : decode b_JL_bitCount 35 = .ok (.lload_n 0, 1) := by decide +kernel
theorem d_JL_bitCount_36 : decode b_JL_bitCount 36 = .ok (.bipush 8, 2) := by decide +kernel
theorem d_JL_bitCount_38 : decode b_JL_bitCount 38 = .ok (.lushr, 1) := by decide +kernel
theorem d_JL_bitCount_39 : decode b_JL_bitCount 39 = .ok (.ladd, 1) := by decide +kernel
theorem d_JL_bitCount_40 : decode b_JL_bitCount 40 = .ok (.lstore_n 0, 1) := by decide +kernel
theorem d_JL_bitCount_41 : decode b_JL_bitCount 41 = .ok (.lload_n 0, 1) := by decide +kernel
theorem d_JL_bitCount_42 : decode b_JL_bitCount 42 = .ok (.lload_n 0, 1) := by decide +kernel
theorem d_JL_bitCount_43 : decode b_JL_bitCount 43 = .ok (.bipush 16, 2) := by decide +kernel
theorem d_JL_bitCount_45 : decode b_JL_bitCount 45 = .ok (.lushr, 1) := by decide +kernel
theorem d_JL_bitCount_46 : decode b_JL_bitCount 46 = .ok (.ladd, 1) := by decide +kernel
theorem d_JL_bitCount_47 : decode b_JL_bitCount 47 = .ok (.lstore_n 0, 1) := by decide +kernel
theorem d_JL_bitCount_48 : decode b_JL_bitCount 48 = .ok (.lload_n 0, 1) := by decide +kernel
theorem d_JL_bitCount_49 : decode b_JL_bitCount 49 = .ok (.lload_n 0, 1) := by decide +kernel
theorem d_JL_bitCount_50 : decode b_JL_bitCount 50 = .ok (.bipush 32, 2) := by decide +kernel
theorem d_JL_bitCount_52 : decode b_JL_bitCount 52 = .ok (.lushr, 1) := by decide +kernel
theorem d_JL_bitCount_53 : decode b_JL_bitCount 53 = .ok (.ladd, 1) := by decide +kernel
theorem d_JL_bitCount_54 : decode b_JL_bitCount 54 = .ok (.lstore_n 0, 1) := by decide +kernel
theorem d_JL_bitCount_55 : decode b_JL_bitCount 55 = .ok (.lload_n 0, 1) := by decide +kernel
theorem d_JL_bitCount_56 : decode b_JL_bitCount 56 = .ok (.l2i, 1) := by decide +kernel
theorem d_JL_bitCount_57 : decode b_JL_bitCount 57 = .ok (.bipush 127, 2) := by decide +kernel
theorem d_JL_bitCount_59 : decode b_JL_bitCount 59 = .ok (.iand, 1) := by decide +kernel
theorem d_JL_bitCount_60 : decode b_JL_bitCount 60 = .ok (.ireturn, 1) := by decide +kernel
theorem d_KD_firstOf_0 : decode b_KD_firstOf 0 = .ok (.iload_n 0, 1) := by decide +kernel
theorem d_KD_firstOf_1 : decode b_KD_firstOf 1 = .ok (.iload_n 0, 1) := by decide +kernel
theorem d_KD_firstOf_2 : decode b_KD_firstOf 2 = .ok (.ineg, 1) := by decide +kernel
theorem d_KD_firstOf_3 : decode b_KD_firstOf 3 = .ok (.iand, 1) := by decide +kernel
theorem d_KD_firstOf_4 : decode b_KD_firstOf 4 = .ok (.iconst 1, 1) := by decide +kernel
theorem d_KD_firstOf_5 : decode b_KD_firstOf 5 = .ok (.isub, 1) := by decide +kernel
theorem d_KD_firstOf_6 : decode b_KD_firstOf 6 = .ok (.invokestatic 43, 3) := by decide +kernel
theorem d_KD_firstOf_9 : decode b_KD_firstOf 9 = .ok (.ireturn, 1) := by decide +kernel
theorem d_KD_hasCell_0 : decode b_KD_hasCell 0 = .ok (.iload_n 1, 1) := by decide +kernel
theorem d_KD_hasCell_1 : decode b_KD_hasCell 1 = .ok (.ifCond .lt 15, 3) := by decide +kernel
theorem d_KD_hasCell_4 : decode b_KD_hasCell 4 = .ok (.iload_n 1, 1) := by decide +kernel
theorem d_KD_hasCell_5 : decode b_KD_hasCell 5 = .ok (.aload_n 0, 1) := by decide +kernel
theorem d_KD_hasCell_6 : decode b_KD_hasCell 6 = .ok (.getfield 15, 3) := by decide +kernel
theorem d_KD_hasCell_9 : decode b_KD_hasCell 9 = .ok (.if_icmp .ge 7, 3) := by decide +kernel
theorem d_KD_hasCell_12 : decode b_KD_hasCell 12 = .ok (.iconst 1, 1) := by decide +kernel
theorem d_KD_hasCell_13 : decode b_KD_hasCell 13 = .ok (.goto 4, 3) := by decide +kernel
theorem d_KD_hasCell_16 : decode b_KD_hasCell 16 = .ok (.iconst 0, 1) := by decide +kernel
theorem d_KD_hasCell_17 : decode b_KD_hasCell 17 = .ok (.ireturn, 1) := by decide +kernel
theorem d_KD_hasValue_0 : decode b_KD_hasValue 0 = .ok (.iload_n 1, 1) := by decide +kernel
theorem d_KD_hasValue_1 : decode b_KD_hasValue 1 = .ok (.aload_n 0, 1) := by decide +kernel
theorem d_KD_hasValue_2 : decode b_KD_hasValue 2 = .ok (.getfield 18, 3) := by decide +kernel
theorem d_KD_hasValue_5 : decode b_KD_hasValue 5 = .ok (.if_icmp .lt 20, 3) := by decide +kernel
theorem d_KD_hasValue_8 : decode b_KD_hasValue 8 = .ok (.iload_n 1, 1) := by decide +kernel
theorem d_KD_hasValue_9 : decode b_KD_hasValue 9 = .ok (.aload_n 0, 1) := by decide +kernel
theorem d_KD_hasValue_10 : decode b_KD_hasValue 10 = .ok (.getfield 18, 3) := by decide +kernel
theorem d_KD_hasValue_13 : decode b_KD_hasValue 13 = .ok (.aload_n 0, 1) := by decide +kernel
theorem d_KD_hasValue_14 : decode b_KD_hasValue 14 = .ok (.getfield 21, 3) := by decide +kernel
theorem d_KD_hasValue_17 : decode b_KD_hasValue 17 = .ok (.iadd, 1) := by decide +kernel
theorem d_KD_hasValue_18 : decode b_KD_hasValue 18 = .ok (.if_icmp .ge 7, 3) := by decide +kernel
theorem d_KD_hasValue_21 : decode b_KD_hasValue 21 = .ok (.iconst 1, 1) := by decide +kernel
theorem d_KD_hasValue_22 : decode b_KD_hasValue 22 = .ok (.goto 4, 3) := by decide +kernel
theorem d_KD_hasValue_25 : decode b_KD_hasValue 25 = .ok (.iconst 0, 1) := by decide +kernel
theorem d_KD_hasValue_26 : decode b_KD_hasValue 26 = .ok (.ireturn, 1) := by decide +kernel
theorem d_KD_bit_0 : decode b_KD_bit 0 = .ok (.lconst 1, 1) := by decide +kernel
theorem d_KD_bit_1 : decode b_KD_bit 1 = .ok (.iload_n 1, 1) := by decide +kernel
theorem d_KD_bit_2 : decode b_KD_bit 2 = .ok (.aload_n 0, 1) := by decide +kernel
theorem d_KD_bit_3 : decode b_KD_bit 3 = .ok (.getfield 21, 3) := by decide +kernel
theorem d_KD_bit_6 : decode b_KD_bit 6 = .ok (.imul, 1) := by decide +kernel
theorem d_KD_bit_7 : decode b_KD_bit 7 = .ok (.iload_n 2, 1) := by decide +kernel
theorem d_KD_bit_8 : decode b_KD_bit 8 = .ok (.iadd, 1) := by decide +kernel
theorem d_KD_bit_9 : decode b_KD_bit 9 = .ok (.aload_n 0, 1) := by decide +kernel
theorem d_KD_bit_10 : decode b_KD_bit 10 = .ok (.getfield 18, 3) := by decide +kernel
theorem d_KD_bit_13 : decode b_KD_bit 13 = .ok (.isub, 1) := by decide +kernel
theorem d_KD_bit_14 : decode b_KD_bit 14 = .ok (.lshl, 1) := by decide +kernel
theorem d_KD_bit_15 : decode b_KD_bit 15 = .ok (.lreturn, 1) := by decide +kernel
theorem d_KD_allOf_0 : decode b_KD_allOf 0 = .ok (.lconst 1, 1) := by decide +kernel
theorem d_KD_allOf_1 : decode b_KD_allOf 1 = .ok (.aload_n 0, 1) := by decide +kernel
theorem d_KD_allOf_2 : decode b_KD_allOf 2 = .ok (.getfield 21, 3) := by decide +kernel
theorem d_KD_allOf_5 : decode b_KD_allOf 5 = .ok (.lshl, 1) := by decide +kernel
theorem d_KD_allOf_6 : decode b_KD_allOf 6 = .ok (.lconst 1, 1) := by decide +kernel
theorem d_KD_allOf_7 : decode b_KD_allOf 7 = .ok (.lsub, 1) := by decide +kernel
theorem d_KD_allOf_8 : decode b_KD_allOf 8 = .ok (.iload_n 1, 1) := by decide +kernel
theorem d_KD_allOf_9 : decode b_KD_allOf 9 = .ok (.aload_n 0, 1) := by decide +kernel
theorem d_KD_allOf_10 : decode b_KD_allOf 10 = .ok (.getfield 21, 3) := by decide +kernel
theorem d_KD_allOf_13 : decode b_KD_allOf 13 = .ok (.imul, 1) := by decide +kernel
theorem d_KD_allOf_14 : decode b_KD_allOf 14 = .ok (.lshl, 1) := by decide +kernel
theorem d_KD_allOf_15 : decode b_KD_allOf 15 = .ok (.lreturn, 1) := by decide +kernel
theorem d_KD_cellOf_0 : decode b_KD_cellOf 0 = .ok (.iconst 0, 1) := by decide +kernel
theorem d_KD_cellOf_1 : decode b_KD_cellOf 1 = .ok (.istore_n 3, 1) := by decide +kernel
theorem d_KD_cellOf_2 : decode b_KD_cellOf 2 = .ok (.iload_n 3, 1) := by decide +kernel
theorem d_KD_cellOf_3 : decode b_KD_cellOf 3 = .ok (.aload_n 0, 1) := by decide +kernel
theorem d_KD_cellOf_4 : decode b_KD_cellOf 4 = .ok (.getfield 15, 3) := by decide +kernel
theorem d_KD_cellOf_7 : decode b_KD_cellOf 7 = .ok (.if_icmp .ge 23, 3) := by decide +kernel
theorem d_KD_cellOf_10 : decode b_KD_cellOf 10 = .ok (.lload_n 1, 1) := by decide +kernel
theorem d_KD_cellOf_11 : decode b_KD_cellOf 11 = .ok (.aload_n 0, 1) := by decide +kernel
theorem d_KD_cellOf_12 : decode b_KD_cellOf 12 = .ok (.iload_n 3, 1) := by decide +kernel
theorem d_KD_cellOf_13 : decode b_KD_cellOf 13 = .ok (.invokevirtual 31, 3) := by decide +kernel
theorem d_KD_cellOf_16 : decode b_KD_cellOf 16 = .ok (.land, 1) := by decide +kernel
theorem d_KD_cellOf_17 : decode b_KD_cellOf 17 = .ok (.lconst 0, 1) := by decide +kernel
theorem d_KD_cellOf_18 : decode b_KD_cellOf 18 = .ok (.lcmp, 1) := by decide +kernel
theorem d_KD_cellOf_19 : decode b_KD_cellOf 19 = .ok (.ifCond .eq 5, 3) := by decide +kernel
theorem d_KD_cellOf_22 : decode b_KD_cellOf 22 = .ok (.iload_n 3, 1) := by decide +kernel
theorem d_KD_cellOf_23 : decode b_KD_cellOf 23 = .ok (.ireturn, 1) := by decide +kernel
theorem d_KD_cellOf_24 : decode b_KD_cellOf 24 = .ok (.iinc 3 1, 3) := by decide +kernel
theorem d_KD_cellOf_27 : decode b_KD_cellOf 27 = .ok (.goto (-25), 3) := by decide +kernel
theorem d_KD_cellOf_30 : decode b_KD_cellOf 30 = .ok (.iconst (-1), 1) := by decide +kernel
theorem d_KD_cellOf_31 : decode b_KD_cellOf 31 = .ok (.ireturn, 1) := by decide +kernel
theorem d_KD_valuesIn_0 : decode b_KD_valuesIn 0 = .ok (.lload_n 1, 1) := by decide +kernel
theorem d_KD_valuesIn_1 : decode b_KD_valuesIn 1 = .ok (.aload_n 0, 1) := by decide +kernel
theorem d_KD_valuesIn_2 : decode b_KD_valuesIn 2 = .ok (.iload_n 3, 1) := by decide +kernel
theorem d_KD_valuesIn_3 : decode b_KD_valuesIn 3 = .ok (.invokevirtual 31, 3) := by decide +kernel
theorem d_KD_valuesIn_6 : decode b_KD_valuesIn 6 = .ok (.land, 1) := by decide +kernel
theorem d_KD_valuesIn_7 : decode b_KD_valuesIn 7 = .ok (.iload_n 3, 1) := by decide +kernel
theorem d_KD_valuesIn_8 : decode b_KD_valuesIn 8 = .ok (.aload_n 0, 1) := by decide +kernel
theorem d_KD_valuesIn_9 : decode b_KD_valuesIn 9 = .ok (.getfield 21, 3) := by decide +kernel
theorem d_KD_valuesIn_12 : decode b_KD_valuesIn 12 = .ok (.imul, 1) := by decide +kernel
theorem d_KD_valuesIn_13 : decode b_KD_valuesIn 13 = .ok (.lushr, 1) := by decide +kernel
theorem d_KD_valuesIn_14 : decode b_KD_valuesIn 14 = .ok (.l2i, 1) := by decide +kernel
theorem d_KD_valuesIn_15 : decode b_KD_valuesIn 15 = .ok (.aload_n 0, 1) := by decide +kernel
theorem d_KD_valuesIn_16 : decode b_KD_valuesIn 16 = .ok (.getfield 18, 3) := by decide +kernel
theorem d_KD_valuesIn_19 : decode b_KD_valuesIn 19 = .ok (.ishl, 1) := by decide +kernel
theorem d_KD_valuesIn_20 : decode b_KD_valuesIn 20 = .ok (.ireturn, 1) := by decide +kernel
theorem d_KD_valueIn_0 : decode b_KD_valueIn 0 = .ok (.aload_n 0, 1) := by decide +kernel
theorem d_KD_valueIn_1 : decode b_KD_valueIn 1 = .ok (.lload_n 1, 1) := by decide +kernel
theorem d_KD_valueIn_2 : decode b_KD_valueIn 2 = .ok (.iload_n 3, 1) := by decide +kernel
theorem d_KD_valueIn_3 : decode b_KD_valueIn 3 = .ok (.invokevirtual 35, 3) := by decide +kernel
theorem d_KD_valueIn_6 : decode b_KD_valueIn 6 = .ok (.invokestatic 39, 3) := by decide +kernel
theorem d_KD_valueIn_9 : decode b_KD_valueIn 9 = .ok (.ireturn, 1) := by decide +kernel
theorem d_KD_rowCells_0 : decode b_KD_rowCells 0 = .ok (.iconst 0, 1) := by decide +kernel
theorem d_KD_rowCells_1 : decode b_KD_rowCells 1 = .ok (.istore_n 2, 1) := by decide +kernel
theorem d_KD_rowCells_2 : decode b_KD_rowCells 2 = .ok (.iconst 0, 1) := by decide +kernel
theorem d_KD_rowCells_3 : decode b_KD_rowCells 3 = .ok (.istore_n 3, 1) := by decide +kernel
theorem d_KD_rowCells_4 : decode b_KD_rowCells 4 = .ok (.iload_n 3, 1) := by decide +kernel
theorem d_KD_rowCells_5 : decode b_KD_rowCells 5 = .ok (.aload_n 0, 1) := by decide +kernel
theorem d_KD_rowCells_6 : decode b_KD_rowCells 6 = .ok (.getfield 9, 3) := by decide +kernel
theorem d_KD_rowCells_9 : decode b_KD_rowCells 9 = .ok (.if_icmp .ge 22, 3) := by decide +kernel
theorem d_KD_rowCells_12 : decode b_KD_rowCells 12 = .ok (.iload_n 2, 1) := by decide +kernel
theorem d_KD_rowCells_13 : decode b_KD_rowCells 13 = .ok (.iconst 1, 1) := by decide +kernel
theorem d_KD_rowCells_14 : decode b_KD_rowCells 14 = .ok (.iload_n 1, 1) := by decide +kernel
theorem d_KD_rowCells_15 : decode b_KD_rowCells 15 = .ok (.aload_n 0, 1) := by decide +kernel
theorem d_KD_rowCells_16 : decode b_KD_rowCells 16 = .ok (.getfield 9, 3) := by decide +kernel
theorem d_KD_rowCells_19 : decode b_KD_rowCells 19 = .ok (.imul, 1) := by decide +kernel
theorem d_KD_rowCells_20 : decode b_KD_rowCells 20 = .ok (.iload_n 3, 1) := by decide +kernel
theorem d_KD_rowCells_21 : decode b_KD_rowCells 21 = .ok (.iadd, 1) := by decide +kernel
theorem d_KD_rowCells_22 : decode b_KD_rowCells 22 = .ok (.ishl, 1) := by decide +kernel
theorem d_KD_rowCells_23 : decode b_KD_rowCells 23 = .ok (.ior, 1) := by decide +kernel
theorem d_KD_rowCells_24 : decode b_KD_rowCells 24 = .ok (.istore_n 2, 1) := by decide +kernel
theorem d_KD_rowCells_25 : decode b_KD_rowCells 25 = .ok (.iinc 3 1, 3) := by decide +kernel
theorem d_KD_rowCells_28 : decode b_KD_rowCells 28 = .ok (.goto (-24), 3) := by decide +kernel
theorem d_KD_rowCells_31 : decode b_KD_rowCells 31 = .ok (.iload_n 2, 1) := by decide +kernel
theorem d_KD_rowCells_32 : decode b_KD_rowCells 32 = .ok (.ireturn, 1) := by decide +kernel
theorem d_KD_columnCells_0 : decode b_KD_columnCells 0 = .ok (.iconst 0, 1) := by decide +kernel
theorem d_KD_columnCells_1 : decode b_KD_columnCells 1 = .ok (.istore_n 2, 1) := by decide +kernel
theorem d_KD_columnCells_2 : decode b_KD_columnCells 2 = .ok (.iconst 0, 1) := by decide +kernel
theorem d_KD_columnCells_3 : decode b_KD_columnCells 3 = .ok (.istore_n 3, 1) := by decide +kernel
theorem d_KD_columnCells_4 : decode b_KD_columnCells 4 = .ok (.iload_n 3, 1) := by decide +kernel
theorem d_KD_columnCells_5 : decode b_KD_columnCells 5 = .ok (.aload_n 0, 1) := by decide +kernel
theorem d_KD_columnCells_6 : decode b_KD_columnCells 6 = .ok (.getfield 9, 3) := by decide +kernel
theorem d_KD_columnCells_9 : decode b_KD_columnCells 9 = .ok (.if_icmp .ge 22, 3) := by decide +kernel
theorem d_KD_columnCells_12 : decode b_KD_columnCells 12 = .ok (.iload_n 2, 1) := by decide +kernel
theorem d_KD_columnCells_13 : decode b_KD_columnCells 13 = .ok (.iconst 1, 1) := by decide +kernel
theorem d_KD_columnCells_14 : decode b_KD_columnCells 14 = .ok (.iload_n 3, 1) := by decide +kernel
theorem d_KD_columnCells_15 : decode b_KD_columnCells 15 = .ok (.aload_n 0, 1) := by decide +kernel
theorem d_KD_columnCells_16 : decode b_KD_columnCells 16 = .ok (.getfield 9, 3) := by decide +kernel
theorem d_KD_columnCells_19 : decode b_KD_columnCells 19 = .ok (.imul, 1) := by decide +kernel
theorem d_KD_columnCells_20 : decode b_KD_columnCells 20 = .ok (.iload_n 1, 1) := by decide +kernel
theorem d_KD_columnCells_21 : decode b_KD_columnCells 21 = .ok (.iadd, 1) := by decide +kernel
theorem d_KD_columnCells_22 : decode b_KD_columnCells 22 = .ok (.ishl, 1) := by decide +kernel
theorem d_KD_columnCells_23 : decode b_KD_columnCells 23 = .ok (.ior, 1) := by decide +kernel
theorem d_KD_columnCells_24 : decode b_KD_columnCells 24 = .ok (.istore_n 2, 1) := by decide +kernel
theorem d_KD_columnCells_25 : decode b_KD_columnCells 25 = .ok (.iinc 3 1, 3) := by decide +kernel
theorem d_KD_columnCells_28 : decode b_KD_columnCells 28 = .ok (.goto (-24), 3) := by decide +kernel
theorem d_KD_columnCells_31 : decode b_KD_columnCells 31 = .ok (.iload_n 2, 1) := by decide +kernel
theorem d_KD_columnCells_32 : decode b_KD_columnCells 32 = .ok (.ireturn, 1) := by decide +kernel
theorem d_KD_scopeOf_0 : decode b_KD_scopeOf 0 = .ok (.lconst 0, 1) := by decide +kernel
theorem d_KD_scopeOf_1 : decode b_KD_scopeOf 1 = .ok (.lstore_n 2, 1) := by decide +kernel
theorem d_KD_scopeOf_2 : decode b_KD_scopeOf 2 = .ok (.iconst 0, 1) := by decide +kernel
theorem d_KD_scopeOf_3 : decode b_KD_scopeOf 3 = .ok (.istore 4, 2) := by decide +kernel
theorem d_KD_scopeOf_5 : decode b_KD_scopeOf 5 = .ok (.iload 4, 2) := by decide +kernel
theorem d_KD_scopeOf_7 : decode b_KD_scopeOf 7 = .ok (.aload_n 0, 1) := by decide +kernel
theorem d_KD_scopeOf_8 : decode b_KD_scopeOf 8 = .ok (.getfield 15, 3) := by decide +kernel
theorem d_KD_scopeOf_11 : decode b_KD_scopeOf 11 = .ok (.if_icmp .ge 28, 3) := by decide +kernel
theorem d_KD_scopeOf_14 : decode b_KD_scopeOf 14 = .ok (.iload_n 1, 1) := by decide +kernel
theorem d_KD_scopeOf_15 : decode b_KD_scopeOf 15 = .ok (.iload 4, 2) := by decide +kernel
theorem d_KD_scopeOf_17 : decode b_KD_scopeOf 17 = .ok (.ishr, 1) := by decide +kernel
theorem d_KD_scopeOf_18 : decode b_KD_scopeOf 18 = .ok (.iconst 1, 1) := by decide +kernel
theorem d_KD_scopeOf_19 : decode b_KD_scopeOf 19 = .ok (.iand, 1) := by decide +kernel
theorem d_KD_scopeOf_20 : decode b_KD_scopeOf 20 = .ok (.iconst 1, 1) := by decide +kernel
theorem d_KD_scopeOf_21 : decode b_KD_scopeOf 21 = .ok (.if_icmp .ne 12, 3) := by decide +kernel
theorem d_KD_scopeOf_24 : decode b_KD_scopeOf 24 = .ok (.lload_n 2, 1) := by decide +kernel
theorem d_KD_scopeOf_25 : decode b_KD_scopeOf 25 = .ok (.aload_n 0, 1) := by decide +kernel
theorem d_KD_scopeOf_26 : decode b_KD_scopeOf 26 = .ok (.iload 4, 2) := by decide +kernel
theorem d_KD_scopeOf_28 : decode b_KD_scopeOf 28 = .ok (.invokevirtual 31, 3) := by decide +kernel
theorem d_KD_scopeOf_31 : decode b_KD_scopeOf 31 = .ok (.lor, 1) := by decide +kernel
theorem d_KD_scopeOf_32 : decode b_KD_scopeOf 32 = .ok (.lstore_n 2, 1) := by decide +kernel
theorem d_KD_scopeOf_33 : decode b_KD_scopeOf 33 = .ok (.iinc 4 1, 3) := by decide +kernel
theorem d_KD_scopeOf_36 : decode b_KD_scopeOf 36 = .ok (.goto (-31), 3) := by decide +kernel
theorem d_KD_scopeOf_39 : decode b_KD_scopeOf 39 = .ok (.lload_n 2, 1) := by decide +kernel
theorem d_KD_scopeOf_40 : decode b_KD_scopeOf 40 = .ok (.lreturn, 1) := by decide +kernel
theorem d_KD_membersOf_0 : decode b_KD_membersOf 0 = .ok (.iconst 0, 1) := by decide +kernel
theorem d_KD_membersOf_1 : decode b_KD_membersOf 1 = .ok (.istore_n 2, 1) := by decide +kernel
theorem d_KD_membersOf_2 : decode b_KD_membersOf 2 = .ok (.iconst 0, 1) := by decide +kernel
theorem d_KD_membersOf_3 : decode b_KD_membersOf 3 = .ok (.istore_n 3, 1) := by decide +kernel
theorem d_KD_membersOf_4 : decode b_KD_membersOf 4 = .ok (.iload_n 3, 1) := by decide +kernel
theorem d_KD_membersOf_5 : decode b_KD_membersOf 5 = .ok (.aload_n 0, 1) := by decide +kernel
theorem d_KD_membersOf_6 : decode b_KD_membersOf 6 = .ok (.getfield 15, 3) := by decide +kernel
theorem d_KD_membersOf_9 : decode b_KD_membersOf 9 = .ok (.if_icmp .ge 25, 3) := by decide +kernel
theorem d_KD_membersOf_12 : decode b_KD_membersOf 12 = .ok (.aload_n 0, 1) := by decide +kernel
theorem d_KD_membersOf_13 : decode b_KD_membersOf 13 = .ok (.getfield 27, 3) := by decide +kernel
theorem d_KD_membersOf_16 : decode b_KD_membersOf 16 = .ok (.iload_n 3, 1) := by decide +kernel
theorem d_KD_membersOf_17 : decode b_KD_membersOf 17 = .ok (.iaload, 1) := by decide +kernel
theorem d_KD_membersOf_18 : decode b_KD_membersOf 18 = .ok (.iload_n 1, 1) := by decide +kernel
theorem d_KD_membersOf_19 : decode b_KD_membersOf 19 = .ok (.if_icmp .ne 9, 3) := by decide +kernel
theorem d_KD_membersOf_22 : decode b_KD_membersOf 22 = .ok (.iload_n 2, 1) := by decide +kernel
theorem d_KD_membersOf_23 : decode b_KD_membersOf 23 = .ok (.iconst 1, 1) := by decide +kernel
theorem d_KD_membersOf_24 : decode b_KD_membersOf 24 = .ok (.iload_n 3, 1) := by decide +kernel
theorem d_KD_membersOf_25 : decode b_KD_membersOf 25 = .ok (.ishl, 1) := by decide +kernel
theorem d_KD_membersOf_26 : decode b_KD_membersOf 26 = .ok (.ior, 1) := by decide +kernel
theorem d_KD_membersOf_27 : decode b_KD_membersOf 27 = .ok (.istore_n 2, 1) := by decide +kernel
theorem d_KD_membersOf_28 : decode b_KD_membersOf 28 = .ok (.iinc 3 1, 3) := by decide +kernel
theorem d_KD_membersOf_31 : decode b_KD_membersOf 31 = .ok (.goto (-27), 3) := by decide +kernel
theorem d_KD_membersOf_34 : decode b_KD_membersOf 34 = .ok (.iload_n 2, 1) := by decide +kernel
theorem d_KD_membersOf_35 : decode b_KD_membersOf 35 = .ok (.ireturn, 1) := by decide +kernel
set_option maxHeartbeats 4000000 in
set_option maxRecDepth 100000 in
theorem ct_JI_bitCount (l : Launch) (D : va_G) (tys : List (ClassId × FieldType)) (w0 : va_W) (N : Nat)  (u0 : Int32) (out : Int32) (h : mi_JI_bitCount N u0 = some out) : fw_C l y_JI_bitCount (.code y_JI_bitCount b_JI_bitCount 1 (some .int) :: Gw) (fr 0 0) D vwCl tys [.int u0] (w0) (some (.int out)) (w0) := by
  refine fw_of (by decide) (Nat.le_of_ble_eq_true rfl) ?_
  intro p e s m args below meth c ls A R Q hR hQ S hr hlk hX hA hl hw
  have hK := hX.1
  have hx := S.1
  have hb := S.2.1
  have hown := S.2.2.2.1
  have hg := S.2.2.2.2
  have hl : lv_has ls 1 [(0, .int u0)] := hl
  unfold mi_JI_bitCount at h
  refine lv_iload_n hx hb d_JI_bitCount_0 rfl (lv_at hl 0 rfl) ?_
  refine lv_iload_n hx hb d_JI_bitCount_1 rfl (lv_at hl 0 rfl) ?_
  refine lv_iconst (v := 1) hx hb d_JI_bitCount_2 (by decide) ?_
  refine lv_iushr hx hb d_JI_bitCount_3 rfl ?_
  refine lv_ldcw (v := (1431655765)) hx hb hown (hg _ q_236) d_JI_bitCount_4 ?_
  refine lv_iand hx hb d_JI_bitCount_7 ?_
  refine lv_isub hx hb d_JI_bitCount_8 ?_
  refine lv_istore_n (lv' := [(0, .int (u0 - (((u0.toUInt32 >>> ((1 : Int32).toUInt32 &&& Int32.toUInt32 31)).toInt32) &&& (1431655765 : Int32))))]) hx hb d_JI_bitCount_9 rfl hl (by decide) rfl (fun ls hl => ?_)
  refine lv_iload_n hx hb d_JI_bitCount_10 rfl (lv_at hl 0 rfl) ?_
  refine lv_ldcw (v := (858993459)) hx hb hown (hg _ q_237) d_JI_bitCount_11 ?_
  refine lv_iand hx hb d_JI_bitCount_14 ?_
  refine lv_iload_n hx hb d_JI_bitCount_15 rfl (lv_at hl 0 rfl) ?_
  refine lv_iconst (v := 2) hx hb d_JI_bitCount_16 (by decide) ?_
  refine lv_iushr hx hb d_JI_bitCount_17 rfl ?_
  refine lv_ldcw (v := (858993459)) hx hb hown (hg _ q_237) d_JI_bitCount_18 ?_
  refine lv_iand hx hb d_JI_bitCount_21 ?_
  refine lv_iadd hx hb d_JI_bitCount_22 ?_
  refine lv_istore_n (lv' := [(0, .int (((u0 - (((u0.toUInt32 >>> ((1 : Int32).toUInt32 &&& Int32.toUInt32 31)).toInt32) &&& (1431655765 : Int32))) &&& (858993459 : Int32)) + ((((u0 - (((u0.toUInt32 >>> ((1 : Int32).toUInt32 &&& Int32.toUInt32 31)).toInt32) &&& (1431655765 : Int32))).toUInt32 >>> ((2 : Int32).toUInt32 &&& Int32.toUInt32 31)).toInt32) &&& (858993459 : Int32))))]) hx hb d_JI_bitCount_23 rfl hl (by decide) rfl (fun ls hl => ?_)
  refine lv_iload_n hx hb d_JI_bitCount_24 rfl (lv_at hl 0 rfl) ?_
  refine lv_iload_n hx hb d_JI_bitCount_25 rfl (lv_at hl 0 rfl) ?_
  refine lv_iconst (v := 4) hx hb d_JI_bitCount_26 (by decide) ?_
  refine lv_iushr hx hb d_JI_bitCount_27 rfl ?_
  refine lv_iadd hx hb d_JI_bitCount_28 ?_
  refine lv_ldcw (v := (252645135)) hx hb hown (hg _ q_238) d_JI_bitCount_29 ?_
  refine lv_iand hx hb d_JI_bitCount_32 ?_
  refine lv_istore_n (lv' := [(0, .int (((((u0 - (((u0.toUInt32 >>> ((1 : Int32).toUInt32 &&& Int32.toUInt32 31)).toInt32) &&& (1431655765 : Int32))) &&& (858993459 : Int32)) + ((((u0 - (((u0.toUInt32 >>> ((1 : Int32).toUInt32 &&& Int32.toUInt32 31)).toInt32) &&& (1431655765 : Int32))).toUInt32 >>> ((2 : Int32).toUInt32 &&& Int32.toUInt32 31)).toInt32) &&& (858993459 : Int32))) + (((((u0 - (((u0.toUInt32 >>> ((1 : Int32).toUInt32 &&& Int32.toUInt32 31)).toInt32) &&& (1431655765 : Int32))) &&& (858993459 : Int32)) + ((((u0 - (((u0.toUInt32 >>> ((1 : Int32).toUInt32 &&& Int32.toUInt32 31)).toInt32) &&& (1431655765 : Int32))).toUInt32 >>> ((2 : Int32).toUInt32 &&& Int32.toUInt32 31)).toInt32) &&& (858993459 : Int32))).toUInt32 >>> ((4 : Int32).toUInt32 &&& Int32.toUInt32 31)).toInt32)) &&& (252645135 : Int32)))]) hx hb d_JI_bitCount_33 rfl hl (by decide) rfl (fun ls hl => ?_)
  refine lv_iload_n hx hb d_JI_bitCount_34 rfl (lv_at hl 0 rfl) ?_
  refine lv_iload_n hx hb d_JI_bitCount_35 rfl (lv_at hl 0 rfl) ?_
  refine lv_bipush (v := 8) hx hb d_JI_bitCount_36 (by decide) ?_
  refine lv_iushr hx hb d_JI_bitCount_38 rfl ?_
  refine lv_iadd hx hb d_JI_bitCount_39 ?_
  refine lv_istore_n (lv' := [(0, .int ((((((u0 - (((u0.toUInt32 >>> ((1 : Int32).toUInt32 &&& Int32.toUInt32 31)).toInt32) &&& (1431655765 : Int32))) &&& (858993459 : Int32)) + ((((u0 - (((u0.toUInt32 >>> ((1 : Int32).toUInt32 &&& Int32.toUInt32 31)).toInt32) &&& (1431655765 : Int32))).toUInt32 >>> ((2 : Int32).toUInt32 &&& Int32.toUInt32 31)).toInt32) &&& (858993459 : Int32))) + (((((u0 - (((u0.toUInt32 >>> ((1 : Int32).toUInt32 &&& Int32.toUInt32 31)).toInt32) &&& (1431655765 : Int32))) &&& (858993459 : Int32)) + ((((u0 - (((u0.toUInt32 >>> ((1 : Int32).toUInt32 &&& Int32.toUInt32 31)).toInt32) &&& (1431655765 : Int32))).toUInt32 >>> ((2 : Int32).toUInt32 &&& Int32.toUInt32 31)).toInt32) &&& (858993459 : Int32))).toUInt32 >>> ((4 : Int32).toUInt32 &&& Int32.toUInt32 31)).toInt32)) &&& (252645135 : Int32)) + (((((((u0 - (((u0.toUInt32 >>> ((1 : Int32).toUInt32 &&& Int32.toUInt32 31)).toInt32) &&& (1431655765 : Int32))) &&& (858993459 : Int32)) + ((((u0 - (((u0.toUInt32 >>> ((1 : Int32).toUInt32 &&& Int32.toUInt32 31)).toInt32) &&& (1431655765 : Int32))).toUInt32 >>> ((2 : Int32).toUInt32 &&& Int32.toUInt32 31)).toInt32) &&& (858993459 : Int32))) + (((((u0 - (((u0.toUInt32 >>> ((1 : Int32).toUInt32 &&& Int32.toUInt32 31)).toInt32) &&& (1431655765 : Int32))) &&& (858993459 : Int32)) + ((((u0 - (((u0.toUInt32 >>> ((1 : Int32).toUInt32 &&& Int32.toUInt32 31)).toInt32) &&& (1431655765 : Int32))).toUInt32 >>> ((2 : Int32).toUInt32 &&& Int32.toUInt32 31)).toInt32) &&& (858993459 : Int32))).toUInt32 >>> ((4 : Int32).toUInt32 &&& Int32.toUInt32 31)).toInt32)) &&& (252645135 : Int32)).toUInt32 >>> ((8 : Int32).toUInt32 &&& Int32.toUInt32 31)).toInt32)))]) hx hb d_JI_bitCount_40 rfl hl (by decide) rfl (fun ls hl => ?_)
  refine lv_iload_n hx hb d_JI_bitCount_41 rfl (lv_at hl 0 rfl) ?_
  refine lv_iload_n hx hb d_JI_bitCount_42 rfl (lv_at hl 0 rfl) ?_
  refine lv_bipush (v := 16) hx hb d_JI_bitCount_43 (by decide) ?_
  refine lv_iushr hx hb d_JI_bitCount_45 rfl ?_
  refine lv_iadd hx hb d_JI_bitCount_46 ?_
  refine lv_istore_n (lv' := [(0, .int (((((((u0 - (((u0.toUInt32 >>> ((1 : Int32).toUInt32 &&& Int32.toUInt32 31)).toInt32) &&& (1431655765 : Int32))) &&& (858993459 : Int32)) + ((((u0 - (((u0.toUInt32 >>> ((1 : Int32).toUInt32 &&& Int32.toUInt32 31)).toInt32) &&& (1431655765 : Int32))).toUInt32 >>> ((2 : Int32).toUInt32 &&& Int32.toUInt32 31)).toInt32) &&& (858993459 : Int32))) + (((((u0 - (((u0.toUInt32 >>> ((1 : Int32).toUInt32 &&& Int32.toUInt32 31)).toInt32) &&& (1431655765 : Int32))) &&& (858993459 : Int32)) + ((((u0 - (((u0.toUInt32 >>> ((1 : Int32).toUInt32 &&& Int32.toUInt32 31)).toInt32) &&& (1431655765 : Int32))).toUInt32 >>> ((2 : Int32).toUInt32 &&& Int32.toUInt32 31)).toInt32) &&& (858993459 : Int32))).toUInt32 >>> ((4 : Int32).toUInt32 &&& Int32.toUInt32 31)).toInt32)) &&& (252645135 : Int32)) + (((((((u0 - (((u0.toUInt32 >>> ((1 : Int32).toUInt32 &&& Int32.toUInt32 31)).toInt32) &&& (1431655765 : Int32))) &&& (858993459 : Int32)) + ((((u0 - (((u0.toUInt32 >>> ((1 : Int32).toUInt32 &&& Int32.toUInt32 31)).toInt32) &&& (1431655765 : Int32))).toUInt32 >>> ((2 : Int32).toUInt32 &&& Int32.toUInt32 31)).toInt32) &&& (858993459 : Int32))) + (((((u0 - (((u0.toUInt32 >>> ((1 : Int32).toUInt32 &&& Int32.toUInt32 31)).toInt32) &&& (1431655765 : Int32))) &&& (858993459 : Int32)) + ((((u0 - (((u0.toUInt32 >>> ((1 : Int32).toUInt32 &&& Int32.toUInt32 31)).toInt32) &&& (1431655765 : Int32))).toUInt32 >>> ((2 : Int32).toUInt32 &&& Int32.toUInt32 31)).toInt32) &&& (858993459 : Int32))).toUInt32 >>> ((4 : Int32).toUInt32 &&& Int32.toUInt32 31)).toInt32)) &&& (252645135 : Int32)).toUInt32 >>> ((8 : Int32).toUInt32 &&& Int32.toUInt32 31)).toInt32)) + ((((((((u0 - (((u0.toUInt32 >>> ((1 : Int32).toUInt32 &&& Int32.toUInt32 31)).toInt32) &&& (1431655765 : Int32))) &&& (858993459 : Int32)) + ((((u0 - (((u0.toUInt32 >>> ((1 : Int32).toUInt32 &&& Int32.toUInt32 31)).toInt32) &&& (1431655765 : Int32))).toUInt32 >>> ((2 : Int32).toUInt32 &&& Int32.toUInt32 31)).toInt32) &&& (858993459 : Int32))) + (((((u0 - (((u0.toUInt32 >>> ((1 : Int32).toUInt32 &&& Int32.toUInt32 31)).toInt32) &&& (1431655765 : Int32))) &&& (858993459 : Int32)) + ((((u0 - (((u0.toUInt32 >>> ((1 : Int32).toUInt32 &&& Int32.toUInt32 31)).toInt32) &&& (1431655765 : Int32))).toUInt32 >>> ((2 : Int32).toUInt32 &&& Int32.toUInt32 31)).toInt32) &&& (858993459 : Int32))).toUInt32 >>> ((4 : Int32).toUInt32 &&& Int32.toUInt32 31)).toInt32)) &&& (252645135 : Int32)) + (((((((u0 - (((u0.toUInt32 >>> ((1 : Int32).toUInt32 &&& Int32.toUInt32 31)).toInt32) &&& (1431655765 : Int32))) &&& (858993459 : Int32)) + ((((u0 - (((u0.toUInt32 >>> ((1 : Int32).toUInt32 &&& Int32.toUInt32 31)).toInt32) &&& (1431655765 : Int32))).toUInt32 >>> ((2 : Int32).toUInt32 &&& Int32.toUInt32 31)).toInt32) &&& (858993459 : Int32))) + (((((u0 - (((u0.toUInt32 >>> ((1 : Int32).toUInt32 &&& Int32.toUInt32 31)).toInt32) &&& (1431655765 : Int32))) &&& (858993459 : Int32)) + ((((u0 - (((u0.toUInt32 >>> ((1 : Int32).toUInt32 &&& Int32.toUInt32 31)).toInt32) &&& (1431655765 : Int32))).toUInt32 >>> ((2 : Int32).toUInt32 &&& Int32.toUInt32 31)).toInt32) &&& (858993459 : Int32))).toUInt32 >>> ((4 : Int32).toUInt32 &&& Int32.toUInt32 31)).toInt32)) &&& (252645135 : Int32)).toUInt32 >>> ((8 : Int32).toUInt32 &&& Int32.toUInt32 31)).toInt32)).toUInt32 >>> ((16 : Int32).toUInt32 &&& Int32.toUInt32 31)).toInt32)))]) hx hb d_JI_bitCount_47 rfl hl (by decide) rfl (fun ls hl => ?_)
  refine lv_iload_n hx hb d_JI_bitCount_48 rfl (lv_at hl 0 rfl) ?_
  refine lv_bipush (v := 63) hx hb d_JI_bitCount_49 (by decide) ?_
  refine lv_iand hx hb d_JI_bitCount_51 ?_
  have q := Option.some.inj h
  subst q
  exact fw_iret hQ S hr hlk hX hw d_JI_bitCount_52
set_option maxHeartbeats 4000000 in
set_option maxRecDepth 100000 in
theorem ct_JL_bitCount (l : Launch) (D : va_G) (tys : List (ClassId × FieldType)) (w0 : va_W) (N : Nat)  (u0 : Int64) (out : Int32) (h : mi_JL_bitCount N u0 = some out) : fw_C l y_JL_bitCount (.code y_JL_bitCount b_JL_bitCount 2 (some .int) :: Gw) (fr 0 0) D vwCl tys [.long u0] (w0) (some (.int out)) (w0) := by
  refine fw_of (by decide) (Nat.le_of_ble_eq_true rfl) ?_
  intro p e s m args below meth c ls A R Q hR hQ S hr hlk hX hA hl hw
  have hK := hX.1
  have hx := S.1
  have hb := S.2.1
  have hown := S.2.2.2.1
  have hg := S.2.2.2.2
  have hl : lv_has ls 2 [(0, .long u0)] := hl
  unfold mi_JL_bitCount at h
  refine lv_lload_n hx hb d_JL_bitCount_0 rfl (lv_at hl 0 rfl) ?_
  refine lv_lload_n hx hb d_JL_bitCount_1 rfl (lv_at hl 0 rfl) ?_
  refine lv_iconst (v := 1) hx hb d_JL_bitCount_2 (by decide) ?_
  refine lv_lushr hx hb d_JL_bitCount_3 rfl ?_
  refine lv_ldc2 (v := (6148914691236517205)) hx hb hown (hg _ q_409) d_JL_bitCount_4 ?_
  refine lv_land hx hb d_JL_bitCount_7 ?_
  refine lv_lsub hx hb d_JL_bitCount_8 ?_
  refine lv_lstore_n (lv' := [(0, .long (u0 - (((u0.toUInt64 >>> ((1 : Int32).toInt64.toUInt64 &&& Int64.toUInt64 63)).toInt64) &&& (6148914691236517205 : Int64))))]) hx hb d_JL_bitCount_9 rfl hl (by decide) rfl (fun ls hl => ?_)
  refine lv_lload_n hx hb d_JL_bitCount_10 rfl (lv_at hl 0 rfl) ?_
  refine lv_ldc2 (v := (3689348814741910323)) hx hb hown (hg _ q_410) d_JL_bitCount_11 ?_
  refine lv_land hx hb d_JL_bitCount_14 ?_
  refine lv_lload_n hx hb d_JL_bitCount_15 rfl (lv_at hl 0 rfl) ?_
  refine lv_iconst (v := 2) hx hb d_JL_bitCount_16 (by decide) ?_
  refine lv_lushr hx hb d_JL_bitCount_17 rfl ?_
  refine lv_ldc2 (v := (3689348814741910323)) hx hb hown (hg _ q_410) d_JL_bitCount_18 ?_
  refine lv_land hx hb d_JL_bitCount_21 ?_
  refine lv_ladd hx hb d_JL_bitCount_22 ?_
  refine lv_lstore_n (lv' := [(0, .long (((u0 - (((u0.toUInt64 >>> ((1 : Int32).toInt64.toUInt64 &&& Int64.toUInt64 63)).toInt64) &&& (6148914691236517205 : Int64))) &&& (3689348814741910323 : Int64)) + ((((u0 - (((u0.toUInt64 >>> ((1 : Int32).toInt64.toUInt64 &&& Int64.toUInt64 63)).toInt64) &&& (6148914691236517205 : Int64))).toUInt64 >>> ((2 : Int32).toInt64.toUInt64 &&& Int64.toUInt64 63)).toInt64) &&& (3689348814741910323 : Int64))))]) hx hb d_JL_bitCount_23 rfl hl (by decide) rfl (fun ls hl => ?_)
  refine lv_lload_n hx hb d_JL_bitCount_24 rfl (lv_at hl 0 rfl) ?_
  refine lv_lload_n hx hb d_JL_bitCount_25 rfl (lv_at hl 0 rfl) ?_
  refine lv_iconst (v := 4) hx hb d_JL_bitCount_26 (by decide) ?_
  refine lv_lushr hx hb d_JL_bitCount_27 rfl ?_
  refine lv_ladd hx hb d_JL_bitCount_28 ?_
  refine lv_ldc2 (v := (1085102592571150095)) hx hb hown (hg _ q_411) d_JL_bitCount_29 ?_
  refine lv_land hx hb d_JL_bitCount_32 ?_
  refine lv_lstore_n (lv' := [(0, .long (((((u0 - (((u0.toUInt64 >>> ((1 : Int32).toInt64.toUInt64 &&& Int64.toUInt64 63)).toInt64) &&& (6148914691236517205 : Int64))) &&& (3689348814741910323 : Int64)) + ((((u0 - (((u0.toUInt64 >>> ((1 : Int32).toInt64.toUInt64 &&& Int64.toUInt64 63)).toInt64) &&& (6148914691236517205 : Int64))).toUInt64 >>> ((2 : Int32).toInt64.toUInt64 &&& Int64.toUInt64 63)).toInt64) &&& (3689348814741910323 : Int64))) + (((((u0 - (((u0.toUInt64 >>> ((1 : Int32).toInt64.toUInt64 &&& Int64.toUInt64 63)).toInt64) &&& (6148914691236517205 : Int64))) &&& (3689348814741910323 : Int64)) + ((((u0 - (((u0.toUInt64 >>> ((1 : Int32).toInt64.toUInt64 &&& Int64.toUInt64 63)).toInt64) &&& (6148914691236517205 : Int64))).toUInt64 >>> ((2 : Int32).toInt64.toUInt64 &&& Int64.toUInt64 63)).toInt64) &&& (3689348814741910323 : Int64))).toUInt64 >>> ((4 : Int32).toInt64.toUInt64 &&& Int64.toUInt64 63)).toInt64)) &&& (1085102592571150095 : Int64)))]) hx hb d_JL_bitCount_33 rfl hl (by decide) rfl (fun ls hl => ?_)
  refine lv_lload_n hx hb d_JL_bitCount_34 rfl (lv_at hl 0 rfl) ?_
  refine lv_lload_n hx hb d_JL_bitCount_35 rfl (lv_at hl 0 rfl) ?_
  refine lv_bipush (v := 8) hx hb d_JL_bitCount_36 (by decide) ?_
  refine lv_lushr hx hb d_JL_bitCount_38 rfl ?_
  refine lv_ladd hx hb d_JL_bitCount_39 ?_
  refine lv_lstore_n (lv' := [(0, .long ((((((u0 - (((u0.toUInt64 >>> ((1 : Int32).toInt64.toUInt64 &&& Int64.toUInt64 63)).toInt64) &&& (6148914691236517205 : Int64))) &&& (3689348814741910323 : Int64)) + ((((u0 - (((u0.toUInt64 >>> ((1 : Int32).toInt64.toUInt64 &&& Int64.toUInt64 63)).toInt64) &&& (6148914691236517205 : Int64))).toUInt64 >>> ((2 : Int32).toInt64.toUInt64 &&& Int64.toUInt64 63)).toInt64) &&& (3689348814741910323 : Int64))) + (((((u0 - (((u0.toUInt64 >>> ((1 : Int32).toInt64.toUInt64 &&& Int64.toUInt64 63)).toInt64) &&& (6148914691236517205 : Int64))) &&& (3689348814741910323 : Int64)) + ((((u0 - (((u0.toUInt64 >>> ((1 : Int32).toInt64.toUInt64 &&& Int64.toUInt64 63)).toInt64) &&& (6148914691236517205 : Int64))).toUInt64 >>> ((2 : Int32).toInt64.toUInt64 &&& Int64.toUInt64 63)).toInt64) &&& (3689348814741910323 : Int64))).toUInt64 >>> ((4 : Int32).toInt64.toUInt64 &&& Int64.toUInt64 63)).toInt64)) &&& (1085102592571150095 : Int64)) + (((((((u0 - (((u0.toUInt64 >>> ((1 : Int32).toInt64.toUInt64 &&& Int64.toUInt64 63)).toInt64) &&& (6148914691236517205 : Int64))) &&& (3689348814741910323 : Int64)) + ((((u0 - (((u0.toUInt64 >>> ((1 : Int32).toInt64.toUInt64 &&& Int64.toUInt64 63)).toInt64) &&& (6148914691236517205 : Int64))).toUInt64 >>> ((2 : Int32).toInt64.toUInt64 &&& Int64.toUInt64 63)).toInt64) &&& (3689348814741910323 : Int64))) + (((((u0 - (((u0.toUInt64 >>> ((1 : Int32).toInt64.toUInt64 &&& Int64.toUInt64 63)).toInt64) &&& (6148914691236517205 : Int64))) &&& (3689348814741910323 : Int64)) + ((((u0 - (((u0.toUInt64 >>> ((1 : Int32).toInt64.toUInt64 &&& Int64.toUInt64 63)).toInt64) &&& (6148914691236517205 : Int64))).toUInt64 >>> ((2 : Int32).toInt64.toUInt64 &&& Int64.toUInt64 63)).toInt64) &&& (3689348814741910323 : Int64))).toUInt64 >>> ((4 : Int32).toInt64.toUInt64 &&& Int64.toUInt64 63)).toInt64)) &&& (1085102592571150095 : Int64)).toUInt64 >>> ((8 : Int32).toInt64.toUInt64 &&& Int64.toUInt64 63)).toInt64)))]) hx hb d_JL_bitCount_40 rfl hl (by decide) rfl (fun ls hl => ?_)
  refine lv_lload_n hx hb d_JL_bitCount_41 rfl (lv_at hl 0 rfl) ?_
  refine lv_lload_n hx hb d_JL_bitCount_42 rfl (lv_at hl 0 rfl) ?_
  refine lv_bipush (v := 16) hx hb d_JL_bitCount_43 (by decide) ?_
  refine lv_lushr hx hb d_JL_bitCount_45 rfl ?_
  refine lv_ladd hx hb d_JL_bitCount_46 ?_
  refine lv_lstore_n (lv' := [(0, .long (((((((u0 - (((u0.toUInt64 >>> ((1 : Int32).toInt64.toUInt64 &&& Int64.toUInt64 63)).toInt64) &&& (6148914691236517205 : Int64))) &&& (3689348814741910323 : Int64)) + ((((u0 - (((u0.toUInt64 >>> ((1 : Int32).toInt64.toUInt64 &&& Int64.toUInt64 63)).toInt64) &&& (6148914691236517205 : Int64))).toUInt64 >>> ((2 : Int32).toInt64.toUInt64 &&& Int64.toUInt64 63)).toInt64) &&& (3689348814741910323 : Int64))) + (((((u0 - (((u0.toUInt64 >>> ((1 : Int32).toInt64.toUInt64 &&& Int64.toUInt64 63)).toInt64) &&& (6148914691236517205 : Int64))) &&& (3689348814741910323 : Int64)) + ((((u0 - (((u0.toUInt64 >>> ((1 : Int32).toInt64.toUInt64 &&& Int64.toUInt64 63)).toInt64) &&& (6148914691236517205 : Int64))).toUInt64 >>> ((2 : Int32).toInt64.toUInt64 &&& Int64.toUInt64 63)).toInt64) &&& (3689348814741910323 : Int64))).toUInt64 >>> ((4 : Int32).toInt64.toUInt64 &&& Int64.toUInt64 63)).toInt64)) &&& (1085102592571150095 : Int64)) + (((((((u0 - (((u0.toUInt64 >>> ((1 : Int32).toInt64.toUInt64 &&& Int64.toUInt64 63)).toInt64) &&& (6148914691236517205 : Int64))) &&& (3689348814741910323 : Int64)) + ((((u0 - (((u0.toUInt64 >>> ((1 : Int32).toInt64.toUInt64 &&& Int64.toUInt64 63)).toInt64) &&& (6148914691236517205 : Int64))).toUInt64 >>> ((2 : Int32).toInt64.toUInt64 &&& Int64.toUInt64 63)).toInt64) &&& (3689348814741910323 : Int64))) + (((((u0 - (((u0.toUInt64 >>> ((1 : Int32).toInt64.toUInt64 &&& Int64.toUInt64 63)).toInt64) &&& (6148914691236517205 : Int64))) &&& (3689348814741910323 : Int64)) + ((((u0 - (((u0.toUInt64 >>> ((1 : Int32).toInt64.toUInt64 &&& Int64.toUInt64 63)).toInt64) &&& (6148914691236517205 : Int64))).toUInt64 >>> ((2 : Int32).toInt64.toUInt64 &&& Int64.toUInt64 63)).toInt64) &&& (3689348814741910323 : Int64))).toUInt64 >>> ((4 : Int32).toInt64.toUInt64 &&& Int64.toUInt64 63)).toInt64)) &&& (1085102592571150095 : Int64)).toUInt64 >>> ((8 : Int32).toInt64.toUInt64 &&& Int64.toUInt64 63)).toInt64)) + ((((((((u0 - (((u0.toUInt64 >>> ((1 : Int32).toInt64.toUInt64 &&& Int64.toUInt64 63)).toInt64) &&& (6148914691236517205 : Int64))) &&& (3689348814741910323 : Int64)) + ((((u0 - (((u0.toUInt64 >>> ((1 : Int32).toInt64.toUInt64 &&& Int64.toUInt64 63)).toInt64) &&& (6148914691236517205 : Int64))).toUInt64 >>> ((2 : Int32).toInt64.toUInt64 &&& Int64.toUInt64 63)).toInt64) &&& (3689348814741910323 : Int64))) + (((((u0 - (((u0.toUInt64 >>> ((1 : Int32).toInt64.toUInt64 &&& Int64.toUInt64 63)).toInt64) &&& (6148914691236517205 : Int64))) &&& (3689348814741910323 : Int64)) + ((((u0 - (((u0.toUInt64 >>> ((1 : Int32).toInt64.toUInt64 &&& Int64.toUInt64 63)).toInt64) &&& (6148914691236517205 : Int64))).toUInt64 >>> ((2 : Int32).toInt64.toUInt64 &&& Int64.toUInt64 63)).toInt64) &&& (3689348814741910323 : Int64))).toUInt64 >>> ((4 : Int32).toInt64.toUInt64 &&& Int64.toUInt64 63)).toInt64)) &&& (1085102592571150095 : Int64)) + (((((((u0 - (((u0.toUInt64 >>> ((1 : Int32).toInt64.toUInt64 &&& Int64.toUInt64 63)).toInt64) &&& (6148914691236517205 : Int64))) &&& (3689348814741910323 : Int64)) + ((((u0 - (((u0.toUInt64 >>> ((1 : Int32).toInt64.toUInt64 &&& Int64.toUInt64 63)).toInt64) &&& (6148914691236517205 : Int64))).toUInt64 >>> ((2 : Int32).toInt64.toUInt64 &&& Int64.toUInt64 63)).toInt64) &&& (3689348814741910323 : Int64))) + (((((u0 - (((u0.toUInt64 >>> ((1 : Int32).toInt64.toUInt64 &&& Int64.toUInt64 63)).toInt64) &&& (6148914691236517205 : Int64))) &&& (3689348814741910323 : Int64)) + ((((u0 - (((u0.toUInt64 >>> ((1 : Int32).toInt64.toUInt64 &&& Int64.toUInt64 63)).toInt64) &&& (6148914691236517205 : Int64))).toUInt64 >>> ((2 : Int32).toInt64.toUInt64 &&& Int64.toUInt64 63)).toInt64) &&& (3689348814741910323 : Int64))).toUInt64 >>> ((4 : Int32).toInt64.toUInt64 &&& Int64.toUInt64 63)).toInt64)) &&& (1085102592571150095 : Int64)).toUInt64 >>> ((8 : Int32).toInt64.toUInt64 &&& Int64.toUInt64 63)).toInt64)).toUInt64 >>> ((16 : Int32).toInt64.toUInt64 &&& Int64.toUInt64 63)).toInt64)))]) hx hb d_JL_bitCount_47 rfl hl (by decide) rfl (fun ls hl => ?_)
  refine lv_lload_n hx hb d_JL_bitCount_48 rfl (lv_at hl 0 rfl) ?_
  refine lv_lload_n hx hb d_JL_bitCount_49 rfl (lv_at hl 0 rfl) ?_
  refine lv_bipush (v := 32) hx hb d_JL_bitCount_50 (by decide) ?_
  refine lv_lushr hx hb d_JL_bitCount_52 rfl ?_
  refine lv_ladd hx hb d_JL_bitCount_53 ?_
  refine lv_lstore_n (lv' := [(0, .long ((((((((u0 - (((u0.toUInt64 >>> ((1 : Int32).toInt64.toUInt64 &&& Int64.toUInt64 63)).toInt64) &&& (6148914691236517205 : Int64))) &&& (3689348814741910323 : Int64)) + ((((u0 - (((u0.toUInt64 >>> ((1 : Int32).toInt64.toUInt64 &&& Int64.toUInt64 63)).toInt64) &&& (6148914691236517205 : Int64))).toUInt64 >>> ((2 : Int32).toInt64.toUInt64 &&& Int64.toUInt64 63)).toInt64) &&& (3689348814741910323 : Int64))) + (((((u0 - (((u0.toUInt64 >>> ((1 : Int32).toInt64.toUInt64 &&& Int64.toUInt64 63)).toInt64) &&& (6148914691236517205 : Int64))) &&& (3689348814741910323 : Int64)) + ((((u0 - (((u0.toUInt64 >>> ((1 : Int32).toInt64.toUInt64 &&& Int64.toUInt64 63)).toInt64) &&& (6148914691236517205 : Int64))).toUInt64 >>> ((2 : Int32).toInt64.toUInt64 &&& Int64.toUInt64 63)).toInt64) &&& (3689348814741910323 : Int64))).toUInt64 >>> ((4 : Int32).toInt64.toUInt64 &&& Int64.toUInt64 63)).toInt64)) &&& (1085102592571150095 : Int64)) + (((((((u0 - (((u0.toUInt64 >>> ((1 : Int32).toInt64.toUInt64 &&& Int64.toUInt64 63)).toInt64) &&& (6148914691236517205 : Int64))) &&& (3689348814741910323 : Int64)) + ((((u0 - (((u0.toUInt64 >>> ((1 : Int32).toInt64.toUInt64 &&& Int64.toUInt64 63)).toInt64) &&& (6148914691236517205 : Int64))).toUInt64 >>> ((2 : Int32).toInt64.toUInt64 &&& Int64.toUInt64 63)).toInt64) &&& (3689348814741910323 : Int64))) + (((((u0 - (((u0.toUInt64 >>> ((1 : Int32).toInt64.toUInt64 &&& Int64.toUInt64 63)).toInt64) &&& (6148914691236517205 : Int64))) &&& (3689348814741910323 : Int64)) + ((((u0 - (((u0.toUInt64 >>> ((1 : Int32).toInt64.toUInt64 &&& Int64.toUInt64 63)).toInt64) &&& (6148914691236517205 : Int64))).toUInt64 >>> ((2 : Int32).toInt64.toUInt64 &&& Int64.toUInt64 63)).toInt64) &&& (3689348814741910323 : Int64))).toUInt64 >>> ((4 : Int32).toInt64.toUInt64 &&& Int64.toUInt64 63)).toInt64)) &&& (1085102592571150095 : Int64)).toUInt64 >>> ((8 : Int32).toInt64.toUInt64 &&& Int64.toUInt64 63)).toInt64)) + ((((((((u0 - (((u0.toUInt64 >>> ((1 : Int32).toInt64.toUInt64 &&& Int64.toUInt64 63)).toInt64) &&& (6148914691236517205 : Int64))) &&& (3689348814741910323 : Int64)) + ((((u0 - (((u0.toUInt64 >>> ((1 : Int32).toInt64.toUInt64 &&& Int64.toUInt64 63)).toInt64) &&& (6148914691236517205 : Int64))).toUInt64 >>> ((2 : Int32).toInt64.toUInt64 &&& Int64.toUInt64 63)).toInt64) &&& (3689348814741910323 : Int64))) + (((((u0 - (((u0.toUInt64 >>> ((1 : Int32).toInt64.toUInt64 &&& Int64.toUInt64 63)).toInt64) &&& (6148914691236517205 : Int64))) &&& (3689348814741910323 : Int64)) + ((((u0 - (((u0.toUInt64 >>> ((1 : Int32).toInt64.toUInt64 &&& Int64.toUInt64 63)).toInt64) &&& (6148914691236517205 : Int64))).toUInt64 >>> ((2 : Int32).toInt64.toUInt64 &&& Int64.toUInt64 63)).toInt64) &&& (3689348814741910323 : Int64))).toUInt64 >>> ((4 : Int32).toInt64.toUInt64 &&& Int64.toUInt64 63)).toInt64)) &&& (1085102592571150095 : Int64)) + (((((((u0 - (((u0.toUInt64 >>> ((1 : Int32).toInt64.toUInt64 &&& Int64.toUInt64 63)).toInt64) &&& (6148914691236517205 : Int64))) &&& (3689348814741910323 : Int64)) + ((((u0 - (((u0.toUInt64 >>> ((1 : Int32).toInt64.toUInt64 &&& Int64.toUInt64 63)).toInt64) &&& (6148914691236517205 : Int64))).toUInt64 >>> ((2 : Int32).toInt64.toUInt64 &&& Int64.toUInt64 63)).toInt64) &&& (3689348814741910323 : Int64))) + (((((u0 - (((u0.toUInt64 >>> ((1 : Int32).toInt64.toUInt64 &&& Int64.toUInt64 63)).toInt64) &&& (6148914691236517205 : Int64))) &&& (3689348814741910323 : Int64)) + ((((u0 - (((u0.toUInt64 >>> ((1 : Int32).toInt64.toUInt64 &&& Int64.toUInt64 63)).toInt64) &&& (6148914691236517205 : Int64))).toUInt64 >>> ((2 : Int32).toInt64.toUInt64 &&& Int64.toUInt64 63)).toInt64) &&& (3689348814741910323 : Int64))).toUInt64 >>> ((4 : Int32).toInt64.toUInt64 &&& Int64.toUInt64 63)).toInt64)) &&& (1085102592571150095 : Int64)).toUInt64 >>> ((8 : Int32).toInt64.toUInt64 &&& Int64.toUInt64 63)).toInt64)).toUInt64 >>> ((16 : Int32).toInt64.toUInt64 &&& Int64.toUInt64 63)).toInt64)) + (((((((((u0 - (((u0.toUInt64 >>> ((1 : Int32).toInt64.toUInt64 &&& Int64.toUInt64 63)).toInt64) &&& (6148914691236517205 : Int64))) &&& (3689348814741910323 : Int64)) + ((((u0 - (((u0.toUInt64 >>> ((1 : Int32).toInt64.toUInt64 &&& Int64.toUInt64 63)).toInt64) &&& (6148914691236517205 : Int64))).toUInt64 >>> ((2 : Int32).toInt64.toUInt64 &&& Int64.toUInt64 63)).toInt64) &&& (3689348814741910323 : Int64))) + (((((u0 - (((u0.toUInt64 >>> ((1 : Int32).toInt64.toUInt64 &&& Int64.toUInt64 63)).toInt64) &&& (6148914691236517205 : Int64))) &&& (3689348814741910323 : Int64)) + ((((u0 - (((u0.toUInt64 >>> ((1 : Int32).toInt64.toUInt64 &&& Int64.toUInt64 63)).toInt64) &&& (6148914691236517205 : Int64))).toUInt64 >>> ((2 : Int32).toInt64.toUInt64 &&& Int64.toUInt64 63)).toInt64) &&& (3689348814741910323 : Int64))).toUInt64 >>> ((4 : Int32).toInt64.toUInt64 &&& Int64.toUInt64 63)).toInt64)) &&& (1085102592571150095 : Int64)) + (((((((u0 - (((u0.toUInt64 >>> ((1 : Int32).toInt64.toUInt64 &&& Int64.toUInt64 63)).toInt64) &&& (6148914691236517205 : Int64))) &&& (3689348814741910323 : Int64)) + ((((u0 - (((u0.toUInt64 >>> ((1 : Int32).toInt64.toUInt64 &&& Int64.toUInt64 63)).toInt64) &&& (6148914691236517205 : Int64))).toUInt64 >>> ((2 : Int32).toInt64.toUInt64 &&& Int64.toUInt64 63)).toInt64) &&& (3689348814741910323 : Int64))) + (((((u0 - (((u0.toUInt64 >>> ((1 : Int32).toInt64.toUInt64 &&& Int64.toUInt64 63)).toInt64) &&& (6148914691236517205 : Int64))) &&& (3689348814741910323 : Int64)) + ((((u0 - (((u0.toUInt64 >>> ((1 : Int32).toInt64.toUInt64 &&& Int64.toUInt64 63)).toInt64) &&& (6148914691236517205 : Int64))).toUInt64 >>> ((2 : Int32).toInt64.toUInt64 &&& Int64.toUInt64 63)).toInt64) &&& (3689348814741910323 : Int64))).toUInt64 >>> ((4 : Int32).toInt64.toUInt64 &&& Int64.toUInt64 63)).toInt64)) &&& (1085102592571150095 : Int64)).toUInt64 >>> ((8 : Int32).toInt64.toUInt64 &&& Int64.toUInt64 63)).toInt64)) + ((((((((u0 - (((u0.toUInt64 >>> ((1 : Int32).toInt64.toUInt64 &&& Int64.toUInt64 63)).toInt64) &&& (6148914691236517205 : Int64))) &&& (3689348814741910323 : Int64)) + ((((u0 - (((u0.toUInt64 >>> ((1 : Int32).toInt64.toUInt64 &&& Int64.toUInt64 63)).toInt64) &&& (6148914691236517205 : Int64))).toUInt64 >>> ((2 : Int32).toInt64.toUInt64 &&& Int64.toUInt64 63)).toInt64) &&& (3689348814741910323 : Int64))) + (((((u0 - (((u0.toUInt64 >>> ((1 : Int32).toInt64.toUInt64 &&& Int64.toUInt64 63)).toInt64) &&& (6148914691236517205 : Int64))) &&& (3689348814741910323 : Int64)) + ((((u0 - (((u0.toUInt64 >>> ((1 : Int32).toInt64.toUInt64 &&& Int64.toUInt64 63)).toInt64) &&& (6148914691236517205 : Int64))).toUInt64 >>> ((2 : Int32).toInt64.toUInt64 &&& Int64.toUInt64 63)).toInt64) &&& (3689348814741910323 : Int64))).toUInt64 >>> ((4 : Int32).toInt64.toUInt64 &&& Int64.toUInt64 63)).toInt64)) &&& (1085102592571150095 : Int64)) + (((((((u0 - (((u0.toUInt64 >>> ((1 : Int32).toInt64.toUInt64 &&& Int64.toUInt64 63)).toInt64) &&& (6148914691236517205 : Int64))) &&& (3689348814741910323 : Int64)) + ((((u0 - (((u0.toUInt64 >>> ((1 : Int32).toInt64.toUInt64 &&& Int64.toUInt64 63)).toInt64) &&& (6148914691236517205 : Int64))).toUInt64 >>> ((2 : Int32).toInt64.toUInt64 &&& Int64.toUInt64 63)).toInt64) &&& (3689348814741910323 : Int64))) + (((((u0 - (((u0.toUInt64 >>> ((1 : Int32).toInt64.toUInt64 &&& Int64.toUInt64 63)).toInt64) &&& (6148914691236517205 : Int64))) &&& (3689348814741910323 : Int64)) + ((((u0 - (((u0.toUInt64 >>> ((1 : Int32).toInt64.toUInt64 &&& Int64.toUInt64 63)).toInt64) &&& (6148914691236517205 : Int64))).toUInt64 >>> ((2 : Int32).toInt64.toUInt64 &&& Int64.toUInt64 63)).toInt64) &&& (3689348814741910323 : Int64))).toUInt64 >>> ((4 : Int32).toInt64.toUInt64 &&& Int64.toUInt64 63)).toInt64)) &&& (1085102592571150095 : Int64)).toUInt64 >>> ((8 : Int32).toInt64.toUInt64 &&& Int64.toUInt64 63)).toInt64)).toUInt64 >>> ((16 : Int32).toInt64.toUInt64 &&& Int64.toUInt64 63)).toInt64)).toUInt64 >>> ((32 : Int32).toInt64.toUInt64 &&& Int64.toUInt64 63)).toInt64)))]) hx hb d_JL_bitCount_54 rfl hl (by decide) rfl (fun ls hl => ?_)
  refine lv_lload_n hx hb d_JL_bitCount_55 rfl (lv_at hl 0 rfl) ?_
  refine lv_l2i hx hb d_JL_bitCount_56 rfl ?_
  refine lv_bipush (v := 127) hx hb d_JL_bitCount_57 (by decide) ?_
  refine lv_iand hx hb d_JL_bitCount_59 ?_
  have q := Option.some.inj h
  subst q
  exact fw_iret hQ S hr hlk hX hw d_JL_bitCount_60
set_option maxHeartbeats 4000000 in
set_option maxRecDepth 100000 in
theorem ct_KD_firstOf (l : Launch) (D : va_G) (tys : List (ClassId × FieldType)) (w0 : va_W) (N : Nat)  (u0 : Int32) (out : Int32) (h : mi_KD_firstOf N u0 = some out) : fw_C l y_KD_firstOf (.code y_KD_firstOf b_KD_firstOf 1 (some .int) :: Gw) (fr 1 20) D vwCl tys [.int u0] (w0) (some (.int out)) (w0) := by
  refine fw_of (by decide) (Nat.le_of_ble_eq_true rfl) ?_
  intro p e s m args below meth c ls A R Q hR hQ S hr hlk hX hA hl hw
  have hK := hX.1
  have hx := S.1
  have hb := S.2.1
  have hown := S.2.2.2.1
  have hg := S.2.2.2.2
  have hl : lv_has ls 1 [(0, .int u0)] := hl
  unfold mi_KD_firstOf at h
  refine lv_iload_n hx hb d_KD_firstOf_0 rfl (lv_at hl 0 rfl) ?_
  refine lv_iload_n hx hb d_KD_firstOf_1 rfl (lv_at hl 0 rfl) ?_
  refine lv_ineg hx hb d_KD_firstOf_2 ?_
  refine lv_iand hx hb d_KD_firstOf_3 ?_
  refine lv_iconst (v := 1) hx hb d_KD_firstOf_4 (by decide) ?_
  refine lv_isub hx hb d_KD_firstOf_5 ?_
  refine ob h (fun r6 h6 h => ?_)
  refine fw_callS (As := [.int ((u0 &&& (-u0)) - (1 : Int32))]) (rest := []) (st1 := [.int r6]) S (ct_JI_bitCount l D tys (w0) N ((u0 &&& (-u0)) - (1 : Int32)) r6 h6) q_233 q_234 q_8 k_JI_bitCount hd_JI_bitCount ⟨by rw [hR]; decide, by rw [hR]; decide⟩ rfl rfl hX hw hA hl.1 rfl rfl (Nat.le_of_ble_eq_true rfl) d_KD_firstOf_6 ⟨Nat.zero_le _, Nat.zero_le _⟩ rfl (fun H locs hw => ?_)
  have q := Option.some.inj h
  subst q
  exact fw_iret hQ S hr hlk hX hw d_KD_firstOf_9
set_option maxHeartbeats 4000000 in
set_option maxRecDepth 100000 in
theorem ct_KD_hasCell (l : Launch) (D : va_G) (ad : Nat → Nat) (cI cL : ClassId) (N : Nat) (kr : Nat) (hkr : K3 kr) (kk : Nat) (kn : Int32) (le : Int64) (ff : Int64) (fo : Int32) (ct : Int32) (fx : Int32) (gv : Nat → Int32) (pg : Nat → Int32) (cu : Nat → Int32) (co : Nat → Int32) (sg : Nat → Int32) (ru : Nat → Int32) (nu : Nat → Int32) (tg : Nat → Int32) (sc : Nat → Int64) (sr : Nat → Int32) (wy : Nat → Int64) (u1 : Int32) (out : Int32) (h : mi_KD_hasCell N kr u1 = some out) : fw_C l y_KD_hasCell (.code y_KD_hasCell b_KD_hasCell 2 (some .boolean) :: Gw) (fr 0 0) D vwCl (tyA cI cL) [.ref (ad kr), .int u1] (wC ad cI cL kk kn le ff fo ct fx gv pg cu co sg ru nu tg sc sr wy) (some (.int out)) (wC ad cI cL kk kn le ff fo ct fx gv pg cu co sg ru nu tg sc sr wy) := by
  refine fw_of (by decide) (Nat.le_of_ble_eq_true rfl) ?_
  intro p e s m args below meth c ls A R Q hR hQ S hr hlk hX hA hl hw
  have hK := hX.1
  have hx := S.1
  have hb := S.2.1
  have hown := S.2.2.2.1
  have hg := S.2.2.2.2
  have hl : lv_has ls 2 [(0, .ref (ad kr)), (1, .int u1)] := hl
  unfold mi_KD_hasCell at h
  refine lv_iload_n hx hb d_KD_hasCell_0 rfl (lv_at hl 1 rfl) ?_
  refine lv_if_lt (tgt := 16) hx hb d_KD_hasCell_1 (by decide) (fun hc => ?_) (fun hc => ?_)
  · have h := oi h hc
    refine lv_iconst (v := 0) hx hb d_KD_hasCell_16 (by decide) ?_
    have q := Option.some.inj h
    subst q
    exact fw_zret hQ S hr rfl hlk hX hw d_KD_hasCell_17
  · have h := oe h hc
    refine lv_iload_n hx hb d_KD_hasCell_4 rfl (lv_at hl 1 rfl) ?_
    refine lv_aload_n hx hb d_KD_hasCell_5 rfl (lv_at hl 0 rfl) ?_
    refine fk_cells S hK hw hkr (hg _ q_44) d_KD_hasCell_6 ?_
    refine lv_icmp_ge (tgt := 16) hx hb d_KD_hasCell_9 (by decide) (fun hc => ?_) (fun hc => ?_)
    · have h := oi h hc
      refine lv_iconst (v := 0) hx hb d_KD_hasCell_16 (by decide) ?_
      have q := Option.some.inj h
      subst q
      exact fw_zret hQ S hr rfl hlk hX hw d_KD_hasCell_17
    · have h := oe h hc
      refine lv_iconst (v := 1) hx hb d_KD_hasCell_12 (by decide) ?_
      refine lv_goto (tgt := 17) hx hb d_KD_hasCell_13 (by decide) ?_
      have q := Option.some.inj h
      subst q
      exact fw_zret hQ S hr rfl hlk hX hw d_KD_hasCell_17
set_option maxHeartbeats 4000000 in
set_option maxRecDepth 100000 in
theorem ct_KD_hasValue (l : Launch) (D : va_G) (ad : Nat → Nat) (cI cL : ClassId) (N : Nat) (kr : Nat) (hkr : K3 kr) (kk : Nat) (kn : Int32) (le : Int64) (ff : Int64) (fo : Int32) (ct : Int32) (fx : Int32) (gv : Nat → Int32) (pg : Nat → Int32) (cu : Nat → Int32) (co : Nat → Int32) (sg : Nat → Int32) (ru : Nat → Int32) (nu : Nat → Int32) (tg : Nat → Int32) (sc : Nat → Int64) (sr : Nat → Int32) (wy : Nat → Int64) (u1 : Int32) (out : Int32) (h : mi_KD_hasValue N kr u1 = some out) : fw_C l y_KD_hasValue (.code y_KD_hasValue b_KD_hasValue 2 (some .boolean) :: Gw) (fr 0 0) D vwCl (tyA cI cL) [.ref (ad kr), .int u1] (wC ad cI cL kk kn le ff fo ct fx gv pg cu co sg ru nu tg sc sr wy) (some (.int out)) (wC ad cI cL kk kn le ff fo ct fx gv pg cu co sg ru nu tg sc sr wy) := by
  refine fw_of (by decide) (Nat.le_of_ble_eq_true rfl) ?_
  intro p e s m args below meth c ls A R Q hR hQ S hr hlk hX hA hl hw
  have hK := hX.1
  have hx := S.1
  have hb := S.2.1
  have hown := S.2.2.2.1
  have hg := S.2.2.2.2
  have hl : lv_has ls 2 [(0, .ref (ad kr)), (1, .int u1)] := hl
  unfold mi_KD_hasValue at h
  refine lv_iload_n hx hb d_KD_hasValue_0 rfl (lv_at hl 1 rfl) ?_
  refine lv_aload_n hx hb d_KD_hasValue_1 rfl (lv_at hl 0 rfl) ?_
  refine fk_least S hK hw hkr (hg _ q_49) d_KD_hasValue_2 ?_
  refine lv_icmp_lt (tgt := 25) hx hb d_KD_hasValue_5 (by decide) (fun hc => ?_) (fun hc => ?_)
  · have h := oi h hc
    refine lv_iconst (v := 0) hx hb d_KD_hasValue_25 (by decide) ?_
    have q := Option.some.inj h
    subst q
    exact fw_zret hQ S hr rfl hlk hX hw d_KD_hasValue_26
  · have h := oe h hc
    refine lv_iload_n hx hb d_KD_hasValue_8 rfl (lv_at hl 1 rfl) ?_
    refine lv_aload_n hx hb d_KD_hasValue_9 rfl (lv_at hl 0 rfl) ?_
    refine fk_least S hK hw hkr (hg _ q_49) d_KD_hasValue_10 ?_
    refine lv_aload_n hx hb d_KD_hasValue_13 rfl (lv_at hl 0 rfl) ?_
    refine fk_values S hK hw hkr (hg _ q_53) d_KD_hasValue_14 ?_
    refine lv_iadd hx hb d_KD_hasValue_17 ?_
    refine lv_icmp_ge (tgt := 25) hx hb d_KD_hasValue_18 (by decide) (fun hc => ?_) (fun hc => ?_)
    · have h := oi h hc
      refine lv_iconst (v := 0) hx hb d_KD_hasValue_25 (by decide) ?_
      have q := Option.some.inj h
      subst q
      exact fw_zret hQ S hr rfl hlk hX hw d_KD_hasValue_26
    · have h := oe h hc
      refine lv_iconst (v := 1) hx hb d_KD_hasValue_21 (by decide) ?_
      refine lv_goto (tgt := 26) hx hb d_KD_hasValue_22 (by decide) ?_
      have q := Option.some.inj h
      subst q
      exact fw_zret hQ S hr rfl hlk hX hw d_KD_hasValue_26
set_option maxHeartbeats 4000000 in
set_option maxRecDepth 100000 in
theorem ct_KD_bit (l : Launch) (D : va_G) (ad : Nat → Nat) (cI cL : ClassId) (N : Nat) (kr : Nat) (hkr : K3 kr) (kk : Nat) (kn : Int32) (le : Int64) (ff : Int64) (fo : Int32) (ct : Int32) (fx : Int32) (gv : Nat → Int32) (pg : Nat → Int32) (cu : Nat → Int32) (co : Nat → Int32) (sg : Nat → Int32) (ru : Nat → Int32) (nu : Nat → Int32) (tg : Nat → Int32) (sc : Nat → Int64) (sr : Nat → Int32) (wy : Nat → Int64) (u1 : Int32) (u2 : Int32) (out : Int64) (h : mi_KD_bit N kr u1 u2 = some out) : fw_C l y_KD_bit (.code y_KD_bit b_KD_bit 3 (some .long) :: Gw) (fr 0 0) D vwCl (tyA cI cL) [.ref (ad kr), .int u1, .int u2] (wC ad cI cL kk kn le ff fo ct fx gv pg cu co sg ru nu tg sc sr wy) (some (.long out)) (wC ad cI cL kk kn le ff fo ct fx gv pg cu co sg ru nu tg sc sr wy) := by
  refine fw_of (by decide) (Nat.le_of_ble_eq_true rfl) ?_
  intro p e s m args below meth c ls A R Q hR hQ S hr hlk hX hA hl hw
  have hK := hX.1
  have hx := S.1
  have hb := S.2.1
  have hown := S.2.2.2.1
  have hg := S.2.2.2.2
  have hl : lv_has ls 3 [(0, .ref (ad kr)), (1, .int u1), (2, .int u2)] := hl
  unfold mi_KD_bit at h
  refine lv_lconst (v := 1) hx hb d_KD_bit_0 (by decide) ?_
  refine lv_iload_n hx hb d_KD_bit_1 rfl (lv_at hl 1 rfl) ?_
  refine lv_aload_n hx hb d_KD_bit_2 rfl (lv_at hl 0 rfl) ?_
  refine fk_values S hK hw hkr (hg _ q_53) d_KD_bit_3 ?_
  refine lv_imul hx hb d_KD_bit_6 ?_
  refine lv_iload_n hx hb d_KD_bit_7 rfl (lv_at hl 2 rfl) ?_
  refine lv_iadd hx hb d_KD_bit_8 ?_
  refine lv_aload_n hx hb d_KD_bit_9 rfl (lv_at hl 0 rfl) ?_
  refine fk_least S hK hw hkr (hg _ q_49) d_KD_bit_10 ?_
  refine lv_isub hx hb d_KD_bit_13 ?_
  refine lv_lshl hx hb d_KD_bit_14 rfl ?_
  have q := Option.some.inj h
  subst q
  exact fw_lret hQ S hr hlk hX hw d_KD_bit_15
set_option maxHeartbeats 4000000 in
set_option maxRecDepth 100000 in
theorem ct_KD_allOf (l : Launch) (D : va_G) (ad : Nat → Nat) (cI cL : ClassId) (N : Nat) (kr : Nat) (hkr : K3 kr) (kk : Nat) (kn : Int32) (le : Int64) (ff : Int64) (fo : Int32) (ct : Int32) (fx : Int32) (gv : Nat → Int32) (pg : Nat → Int32) (cu : Nat → Int32) (co : Nat → Int32) (sg : Nat → Int32) (ru : Nat → Int32) (nu : Nat → Int32) (tg : Nat → Int32) (sc : Nat → Int64) (sr : Nat → Int32) (wy : Nat → Int64) (u1 : Int32) (out : Int64) (h : mi_KD_allOf N kr u1 = some out) : fw_C l y_KD_allOf (.code y_KD_allOf b_KD_allOf 2 (some .long) :: Gw) (fr 0 0) D vwCl (tyA cI cL) [.ref (ad kr), .int u1] (wC ad cI cL kk kn le ff fo ct fx gv pg cu co sg ru nu tg sc sr wy) (some (.long out)) (wC ad cI cL kk kn le ff fo ct fx gv pg cu co sg ru nu tg sc sr wy) := by
  refine fw_of (by decide) (Nat.le_of_ble_eq_true rfl) ?_
  intro p e s m args below meth c ls A R Q hR hQ S hr hlk hX hA hl hw
  have hK := hX.1
  have hx := S.1
  have hb := S.2.1
  have hown := S.2.2.2.1
  have hg := S.2.2.2.2
  have hl : lv_has ls 2 [(0, .ref (ad kr)), (1, .int u1)] := hl
  unfold mi_KD_allOf at h
  refine lv_lconst (v := 1) hx hb d_KD_allOf_0 (by decide) ?_
  refine lv_aload_n hx hb d_KD_allOf_1 rfl (lv_at hl 0 rfl) ?_
  refine fk_values S hK hw hkr (hg _ q_53) d_KD_allOf_2 ?_
  refine lv_lshl hx hb d_KD_allOf_5 rfl ?_
  refine lv_lconst (v := 1) hx hb d_KD_allOf_6 (by decide) ?_
  refine lv_lsub hx hb d_KD_allOf_7 ?_
  refine lv_iload_n hx hb d_KD_allOf_8 rfl (lv_at hl 1 rfl) ?_
  refine lv_aload_n hx hb d_KD_allOf_9 rfl (lv_at hl 0 rfl) ?_
  refine fk_values S hK hw hkr (hg _ q_53) d_KD_allOf_10 ?_
  refine lv_imul hx hb d_KD_allOf_13 ?_
  refine lv_lshl hx hb d_KD_allOf_14 rfl ?_
  have q := Option.some.inj h
  subst q
  exact fw_lret hQ S hr hlk hX hw d_KD_allOf_15
set_option maxHeartbeats 4000000 in
set_option maxRecDepth 100000 in
theorem ct_KD_cellOf (l : Launch) (D : va_G) (ad : Nat → Nat) (cI cL : ClassId) (N : Nat) (kr : Nat) (hkr : K3 kr) (kk : Nat) (kn : Int32) (le : Int64) (ff : Int64) (fo : Int32) (ct : Int32) (fx : Int32) (gv : Nat → Int32) (pg : Nat → Int32) (cu : Nat → Int32) (co : Nat → Int32) (sg : Nat → Int32) (ru : Nat → Int32) (nu : Nat → Int32) (tg : Nat → Int32) (sc : Nat → Int64) (sr : Nat → Int32) (wy : Nat → Int64) (u1 : Int64) (out : Int32) (h : mi_KD_cellOf N kr u1 = some out) : fw_C l y_KD_cellOf (.code y_KD_cellOf b_KD_cellOf 4 (some .int) :: Gw) (fr 1 21) D vwCl (tyA cI cL) [.ref (ad kr), .long u1] (wC ad cI cL kk kn le ff fo ct fx gv pg cu co sg ru nu tg sc sr wy) (some (.int out)) (wC ad cI cL kk kn le ff fo ct fx gv pg cu co sg ru nu tg sc sr wy) := by
  refine fw_of (by decide) (Nat.le_of_ble_eq_true rfl) ?_
  intro p e s m args below meth c ls A R Q hR hQ S hr hlk hX hA hl hw
  have hK := hX.1
  have hx := S.1
  have hb := S.2.1
  have hown := S.2.2.2.1
  have hg := S.2.2.2.2
  have hl : lv_has ls 4 [(0, .ref (ad kr)), (1, .long u1)] := hl
  unfold mi_KD_cellOf at h
  refine lv_iconst (v := 0) hx hb d_KD_cellOf_0 (by decide) ?_
  refine lv_istore_n (lv' := [(3, .int (0 : Int32)), (0, .ref (ad kr)), (1, .long u1)]) hx hb d_KD_cellOf_1 rfl hl (by decide) rfl (fun ls hl => ?_)
  have X2 : ∀ (y2 : Int32), mr_KD_cellOf_2 y2 = some out → ∀ (ls : Array Slot) (H : Heap) (locs : List Loc), lv_has ls 4 [] → fw_H D vwCl A s.heap (wC ad cI cL kk kn le ff fo ct fx gv pg cu co sg ru nu tg sc sr wy) H locs → W p l e R s m args below meth c H locs 0 0 Q (F0 m 30 ls []) := by
    intro y2 h ls H locs hl hw
    unfold mr_KD_cellOf_2 at h
    refine lv_iconst (v := (-1)) hx hb d_KD_cellOf_30 (by decide) ?_
    have q := Option.some.inj h
    subst q
    exact fw_iret hQ S hr hlk hX hw d_KD_cellOf_31
  have L2 : ∀ (n2 : Nat) (x2 : Int32) (e2 : (Int32) ⊕ (Int32)), lp (mb_KD_cellOf_2 N kr u1) n2 x2 = some e2 → (Sum.elim (mr_KD_cellOf_2) (fun z => some z)) e2 = some out → ∀ (ls : Array Slot) (H : Heap) (locs : List Loc), lv_has ls 4 [(0, .ref (ad kr)), (1, .long u1), (3, .int x2)] → fw_H D vwCl A s.heap (wC ad cI cL kk kn le ff fo ct fx gv pg cu co sg ru nu tg sc sr wy) H locs → W p l e R s m args below meth c H locs 0 0 Q (F0 m 2 ls []) := by
    intro n2
    induction n2 with
    | zero => intro x2 e2 h1; exact absurd h1 lp_0
    | succ n2 ih2 =>
      intro x2 e2 h1 hr2 ls H locs hl hw
      rw [lp_s] at h1
      refine ob h1 (fun r2 h hk2 => ?_)
      unfold mb_KD_cellOf_2 at h
      refine lv_iload_n hx hb d_KD_cellOf_2 rfl (lv_at hl 2 rfl) ?_
      refine lv_aload_n hx hb d_KD_cellOf_3 rfl (lv_at hl 0 rfl) ?_
      refine fk_cells S hK hw hkr (hg _ q_44) d_KD_cellOf_4 ?_
      refine lv_icmp_ge (tgt := 30) hx hb d_KD_cellOf_7 (by decide) (fun hc => ?_) (fun hc => ?_)
      · have h := oi h hc
        have q := Option.some.inj h
        subst q
        have q := Option.some.inj hk2
        subst q
        exact X2 x2 hr2 _ _ _ (lv_sub hl [] rfl) hw
      · have h := oe h hc
        refine lv_lload_n hx hb d_KD_cellOf_10 rfl (lv_at hl 1 rfl) ?_
        refine lv_aload_n hx hb d_KD_cellOf_11 rfl (lv_at hl 0 rfl) ?_
        refine lv_iload_n hx hb d_KD_cellOf_12 rfl (lv_at hl 2 rfl) ?_
        refine ob h (fun r13 h13 h => ?_)
        refine fw_callK (As := [.int x2]) (rest := [.long u1]) (st1 := [.long r13, .long u1]) S (ct_KD_allOf l D ad cI cL N kr hkr kk kn le ff fo ct fx gv pg cu co sg ru nu tg sc sr wy x2 r13 h13) hkr q_205 q_207 q_208 q_209 q_210 q_206 q_2 k_KD_allOf hd_KD_allOf rfl ⟨by rw [hR]; decide, by rw [hR]; decide⟩ rfl rfl hX hw hA rfl rfl rfl hl.1 rfl rfl (Nat.le_of_ble_eq_true rfl) d_KD_cellOf_13 ⟨Nat.zero_le _, Nat.zero_le _⟩ rfl (fun H locs hw => ?_)
        refine lv_land hx hb d_KD_cellOf_16 ?_
        refine lv_lconst (v := 0) hx hb d_KD_cellOf_17 (by decide) ?_
        refine fw_lcmpE (tgt := 24) hx hb d_KD_cellOf_18 d_KD_cellOf_19 (by decide) (fun hc => ?_) (fun hc => ?_)
        · have h := oi h hc
          refine lv_iinc (k := 2) (v := x2 + 1) (lv' := [(3, .int (x2 + 1)), (0, .ref (ad kr)), (1, .long u1)]) hx hb d_KD_cellOf_24 hl rfl (by rw [lit1]) (by decide) rfl (fun ls hl => ?_)
          refine lv_goto (tgt := 2) hx hb d_KD_cellOf_27 (by decide) ?_
          have q := Option.some.inj h
          subst q
          exact ih2 (x2 + 1) e2 hk2 hr2 _ _ _ (lv_sub hl [1, 2, 0] rfl) hw
        · have h := oe h hc
          refine lv_iload_n hx hb d_KD_cellOf_22 rfl (lv_at hl 2 rfl) ?_
          have q := Option.some.inj h
          subst q
          have q := Option.some.inj hk2
          subst q
          have q := Option.some.inj hr2
          subst q
          exact fw_iret hQ S hr hlk hX hw d_KD_cellOf_23
  refine ob h (fun e2 h1 h2 => ?_)
  exact L2 N (0 : Int32) e2 h1 h2 _ _ _ (lv_sub hl [1, 2, 0] rfl) hw
set_option maxHeartbeats 4000000 in
set_option maxRecDepth 100000 in
theorem ct_KD_valuesIn (l : Launch) (D : va_G) (ad : Nat → Nat) (cI cL : ClassId) (N : Nat) (kr : Nat) (hkr : K3 kr) (kk : Nat) (kn : Int32) (le : Int64) (ff : Int64) (fo : Int32) (ct : Int32) (fx : Int32) (gv : Nat → Int32) (pg : Nat → Int32) (cu : Nat → Int32) (co : Nat → Int32) (sg : Nat → Int32) (ru : Nat → Int32) (nu : Nat → Int32) (tg : Nat → Int32) (sc : Nat → Int64) (sr : Nat → Int32) (wy : Nat → Int64) (u1 : Int64) (u3 : Int32) (out : Int32) (h : mi_KD_valuesIn N kr u1 u3 = some out) : fw_C l y_KD_valuesIn (.code y_KD_valuesIn b_KD_valuesIn 4 (some .int) :: Gw) (fr 1 21) D vwCl (tyA cI cL) [.ref (ad kr), .long u1, .int u3] (wC ad cI cL kk kn le ff fo ct fx gv pg cu co sg ru nu tg sc sr wy) (some (.int out)) (wC ad cI cL kk kn le ff fo ct fx gv pg cu co sg ru nu tg sc sr wy) := by
  refine fw_of (by decide) (Nat.le_of_ble_eq_true rfl) ?_
  intro p e s m args below meth c ls A R Q hR hQ S hr hlk hX hA hl hw
  have hK := hX.1
  have hx := S.1
  have hb := S.2.1
  have hown := S.2.2.2.1
  have hg := S.2.2.2.2
  have hl : lv_has ls 4 [(0, .ref (ad kr)), (1, .long u1), (3, .int u3)] := hl
  unfold mi_KD_valuesIn at h
  refine lv_lload_n hx hb d_KD_valuesIn_0 rfl (lv_at hl 1 rfl) ?_
  refine lv_aload_n hx hb d_KD_valuesIn_1 rfl (lv_at hl 0 rfl) ?_
  refine lv_iload_n hx hb d_KD_valuesIn_2 rfl (lv_at hl 2 rfl) ?_
  refine ob h (fun r3 h3 h => ?_)
  refine fw_callK (As := [.int u3]) (rest := [.long u1]) (st1 := [.long r3, .long u1]) S (ct_KD_allOf l D ad cI cL N kr hkr kk kn le ff fo ct fx gv pg cu co sg ru nu tg sc sr wy u3 r3 h3) hkr q_205 q_207 q_208 q_209 q_210 q_206 q_2 k_KD_allOf hd_KD_allOf rfl ⟨by rw [hR]; decide, by rw [hR]; decide⟩ rfl rfl hX hw hA rfl rfl rfl hl.1 rfl rfl (Nat.le_of_ble_eq_true rfl) d_KD_valuesIn_3 ⟨Nat.zero_le _, Nat.zero_le _⟩ rfl (fun H locs hw => ?_)
  refine lv_land hx hb d_KD_valuesIn_6 ?_
  refine lv_iload_n hx hb d_KD_valuesIn_7 rfl (lv_at hl 2 rfl) ?_
  refine lv_aload_n hx hb d_KD_valuesIn_8 rfl (lv_at hl 0 rfl) ?_
  refine fk_values S hK hw hkr (hg _ q_53) d_KD_valuesIn_9 ?_
  refine lv_imul hx hb d_KD_valuesIn_12 ?_
  refine lv_lushr hx hb d_KD_valuesIn_13 rfl ?_
  refine lv_l2i hx hb d_KD_valuesIn_14 rfl ?_
  refine lv_aload_n hx hb d_KD_valuesIn_15 rfl (lv_at hl 0 rfl) ?_
  refine fk_least S hK hw hkr (hg _ q_49) d_KD_valuesIn_16 ?_
  refine lv_ishl hx hb d_KD_valuesIn_19 ?_
  have q := Option.some.inj h
  subst q
  exact fw_iret hQ S hr hlk hX hw d_KD_valuesIn_20
set_option maxHeartbeats 4000000 in
set_option maxRecDepth 100000 in
theorem ct_KD_valueIn (l : Launch) (D : va_G) (ad : Nat → Nat) (cI cL : ClassId) (N : Nat) (kr : Nat) (hkr : K3 kr) (kk : Nat) (kn : Int32) (le : Int64) (ff : Int64) (fo : Int32) (ct : Int32) (fx : Int32) (gv : Nat → Int32) (pg : Nat → Int32) (cu : Nat → Int32) (co : Nat → Int32) (sg : Nat → Int32) (ru : Nat → Int32) (nu : Nat → Int32) (tg : Nat → Int32) (sc : Nat → Int64) (sr : Nat → Int32) (wy : Nat → Int64) (u1 : Int64) (u3 : Int32) (out : Int32) (h : mi_KD_valueIn N kr u1 u3 = some out) : fw_C l y_KD_valueIn (.code y_KD_valueIn b_KD_valueIn 4 (some .int) :: Gw) (fr 2 44) D vwCl (tyA cI cL) [.ref (ad kr), .long u1, .int u3] (wC ad cI cL kk kn le ff fo ct fx gv pg cu co sg ru nu tg sc sr wy) (some (.int out)) (wC ad cI cL kk kn le ff fo ct fx gv pg cu co sg ru nu tg sc sr wy) := by
  refine fw_of (by decide) (Nat.le_of_ble_eq_true rfl) ?_
  intro p e s m args below meth c ls A R Q hR hQ S hr hlk hX hA hl hw
  have hK := hX.1
  have hx := S.1
  have hb := S.2.1
  have hown := S.2.2.2.1
  have hg := S.2.2.2.2
  have hl : lv_has ls 4 [(0, .ref (ad kr)), (1, .long u1), (3, .int u3)] := hl
  unfold mi_KD_valueIn at h
  refine lv_aload_n hx hb d_KD_valueIn_0 rfl (lv_at hl 0 rfl) ?_
  refine lv_lload_n hx hb d_KD_valueIn_1 rfl (lv_at hl 1 rfl) ?_
  refine lv_iload_n hx hb d_KD_valueIn_2 rfl (lv_at hl 2 rfl) ?_
  refine ob h (fun r3 h3 h => ?_)
  refine fw_callK (As := [.long u1, .int u3]) (rest := []) (st1 := [.int r3]) S (ct_KD_valuesIn l D ad cI cL N kr hkr kk kn le ff fo ct fx gv pg cu co sg ru nu tg sc sr wy u1 u3 r3 h3) hkr q_453 q_455 q_456 q_457 q_458 q_454 q_2 k_KD_valuesIn hd_KD_valuesIn rfl ⟨by rw [hR]; decide, by rw [hR]; decide⟩ rfl rfl hX hw hA rfl rfl rfl hl.1 rfl rfl (Nat.le_of_ble_eq_true rfl) d_KD_valueIn_3 ⟨Nat.zero_le _, Nat.zero_le _⟩ rfl (fun H locs hw => ?_)
  refine ob h (fun r6 h6 h => ?_)
  refine fw_callS (As := [.int r3]) (rest := []) (st1 := [.int r6]) S (ct_KD_firstOf l D (tyA cI cL) (wC ad cI cL kk kn le ff fo ct fx gv pg cu co sg ru nu tg sc sr wy) N r3 r6 h6) q_460 q_231 q_2 k_KD_firstOf hd_KD_firstOf ⟨by rw [hR]; decide, by rw [hR]; decide⟩ rfl rfl hX hw hA hl.1 rfl rfl (Nat.le_of_ble_eq_true rfl) d_KD_valueIn_6 ⟨Nat.zero_le _, Nat.zero_le _⟩ rfl (fun H locs hw => ?_)
  have q := Option.some.inj h
  subst q
  exact fw_iret hQ S hr hlk hX hw d_KD_valueIn_9
set_option maxHeartbeats 4000000 in
set_option maxRecDepth 100000 in
theorem ct_KD_rowCells (l : Launch) (D : va_G) (ad : Nat → Nat) (cI cL : ClassId) (N : Nat) (kr : Nat) (hkr : K3 kr) (kk : Nat) (kn : Int32) (le : Int64) (ff : Int64) (fo : Int32) (ct : Int32) (fx : Int32) (gv : Nat → Int32) (pg : Nat → Int32) (cu : Nat → Int32) (co : Nat → Int32) (sg : Nat → Int32) (ru : Nat → Int32) (nu : Nat → Int32) (tg : Nat → Int32) (sc : Nat → Int64) (sr : Nat → Int32) (wy : Nat → Int64) (u1 : Int32) (out : Int32) (h : mi_KD_rowCells N kr u1 = some out) : fw_C l y_KD_rowCells (.code y_KD_rowCells b_KD_rowCells 4 (some .int) :: Gw) (fr 0 0) D vwCl (tyA cI cL) [.ref (ad kr), .int u1] (wC ad cI cL kk kn le ff fo ct fx gv pg cu co sg ru nu tg sc sr wy) (some (.int out)) (wC ad cI cL kk kn le ff fo ct fx gv pg cu co sg ru nu tg sc sr wy) := by
  refine fw_of (by decide) (Nat.le_of_ble_eq_true rfl) ?_
  intro p e s m args below meth c ls A R Q hR hQ S hr hlk hX hA hl hw
  have hK := hX.1
  have hx := S.1
  have hb := S.2.1
  have hown := S.2.2.2.1
  have hg := S.2.2.2.2
  have hl : lv_has ls 4 [(0, .ref (ad kr)), (1, .int u1)] := hl
  unfold mi_KD_rowCells at h
  refine lv_iconst (v := 0) hx hb d_KD_rowCells_0 (by decide) ?_
  refine lv_istore_n (lv' := [(2, .int (0 : Int32)), (0, .ref (ad kr)), (1, .int u1)]) hx hb d_KD_rowCells_1 rfl hl (by decide) rfl (fun ls hl => ?_)
  refine lv_iconst (v := 0) hx hb d_KD_rowCells_2 (by decide) ?_
  refine lv_istore_n (lv' := [(3, .int (0 : Int32)), (2, .int (0 : Int32)), (0, .ref (ad kr)), (1, .int u1)]) hx hb d_KD_rowCells_3 rfl hl (by decide) rfl (fun ls hl => ?_)
  have X4 : ∀ (y4 : Int32 × Int32), mr_KD_rowCells_4 y4 = some out → ∀ (ls : Array Slot) (H : Heap) (locs : List Loc), lv_has ls 4 [(2, .int y4.1)] → fw_H D vwCl A s.heap (wC ad cI cL kk kn le ff fo ct fx gv pg cu co sg ru nu tg sc sr wy) H locs → W p l e R s m args below meth c H locs 0 0 Q (F0 m 31 ls []) := by
    intro y4 h ls H locs hl hw
    unfold mr_KD_rowCells_4 at h
    refine lv_iload_n hx hb d_KD_rowCells_31 rfl (lv_at hl 0 rfl) ?_
    have q := Option.some.inj h
    subst q
    exact fw_iret hQ S hr hlk hX hw d_KD_rowCells_32
  have L4 : ∀ (n4 : Nat) (x4 : Int32 × Int32) (e4 : Int32 × Int32), lp (mb_KD_rowCells_4 kr u1) n4 x4 = some e4 → (mr_KD_rowCells_4) e4 = some out → ∀ (ls : Array Slot) (H : Heap) (locs : List Loc), lv_has ls 4 [(0, .ref (ad kr)), (1, .int u1), (2, .int x4.1), (3, .int x4.2)] → fw_H D vwCl A s.heap (wC ad cI cL kk kn le ff fo ct fx gv pg cu co sg ru nu tg sc sr wy) H locs → W p l e R s m args below meth c H locs 0 0 Q (F0 m 4 ls []) := by
    intro n4
    induction n4 with
    | zero => intro x4 e4 h1; exact absurd h1 lp_0
    | succ n4 ih4 =>
      intro x4 e4 h1 hr4 ls H locs hl hw
      rw [lp_s] at h1
      refine ob h1 (fun r4 h hk4 => ?_)
      unfold mb_KD_rowCells_4 at h
      refine lv_iload_n hx hb d_KD_rowCells_4 rfl (lv_at hl 3 rfl) ?_
      refine lv_aload_n hx hb d_KD_rowCells_5 rfl (lv_at hl 0 rfl) ?_
      refine fk_side S hK hw hkr (hg _ q_43) d_KD_rowCells_6 ?_
      refine lv_icmp_ge (tgt := 31) hx hb d_KD_rowCells_9 (by decide) (fun hc => ?_) (fun hc => ?_)
      · have h := oi h hc
        have q := Option.some.inj h
        subst q
        have q := Option.some.inj hk4
        subst q
        exact X4 (x4.1, x4.2) hr4 _ _ _ (lv_sub hl [2] rfl) hw
      · have h := oe h hc
        refine lv_iload_n hx hb d_KD_rowCells_12 rfl (lv_at hl 2 rfl) ?_
        refine lv_iconst (v := 1) hx hb d_KD_rowCells_13 (by decide) ?_
        refine lv_iload_n hx hb d_KD_rowCells_14 rfl (lv_at hl 1 rfl) ?_
        refine lv_aload_n hx hb d_KD_rowCells_15 rfl (lv_at hl 0 rfl) ?_
        refine fk_side S hK hw hkr (hg _ q_43) d_KD_rowCells_16 ?_
        refine lv_imul hx hb d_KD_rowCells_19 ?_
        refine lv_iload_n hx hb d_KD_rowCells_20 rfl (lv_at hl 3 rfl) ?_
        refine lv_iadd hx hb d_KD_rowCells_21 ?_
        refine lv_ishl hx hb d_KD_rowCells_22 ?_
        refine lv_ior hx hb d_KD_rowCells_23 ?_
        refine lv_istore_n (lv' := [(2, .int (x4.1 ||| ((1 : Int32) <<< (((u1 * (k_side kr)) + x4.2) &&& 31)))), (0, .ref (ad kr)), (1, .int u1), (3, .int x4.2)]) hx hb d_KD_rowCells_24 rfl hl (by decide) rfl (fun ls hl => ?_)
        refine lv_iinc (k := 3) (v := x4.2 + 1) (lv' := [(3, .int (x4.2 + 1)), (2, .int (x4.1 ||| ((1 : Int32) <<< (((u1 * (k_side kr)) + x4.2) &&& 31)))), (0, .ref (ad kr)), (1, .int u1)]) hx hb d_KD_rowCells_25 hl rfl (by rw [lit1]) (by decide) rfl (fun ls hl => ?_)
        refine lv_goto (tgt := 4) hx hb d_KD_rowCells_28 (by decide) ?_
        have q := Option.some.inj h
        subst q
        exact ih4 (x4.1 ||| ((1 : Int32) <<< (((u1 * (k_side kr)) + x4.2) &&& 31)), x4.2 + 1) e4 hk4 hr4 _ _ _ (lv_sub hl [2, 3, 1, 0] rfl) hw
  refine ob h (fun e4 h1 h2 => ?_)
  exact L4 N ((0 : Int32), (0 : Int32)) e4 h1 h2 _ _ _ (lv_sub hl [2, 3, 1, 0] rfl) hw
set_option maxHeartbeats 4000000 in
set_option maxRecDepth 100000 in
theorem ct_KD_columnCells (l : Launch) (D : va_G) (ad : Nat → Nat) (cI cL : ClassId) (N : Nat) (kr : Nat) (hkr : K3 kr) (kk : Nat) (kn : Int32) (le : Int64) (ff : Int64) (fo : Int32) (ct : Int32) (fx : Int32) (gv : Nat → Int32) (pg : Nat → Int32) (cu : Nat → Int32) (co : Nat → Int32) (sg : Nat → Int32) (ru : Nat → Int32) (nu : Nat → Int32) (tg : Nat → Int32) (sc : Nat → Int64) (sr : Nat → Int32) (wy : Nat → Int64) (u1 : Int32) (out : Int32) (h : mi_KD_columnCells N kr u1 = some out) : fw_C l y_KD_columnCells (.code y_KD_columnCells b_KD_columnCells 4 (some .int) :: Gw) (fr 0 0) D vwCl (tyA cI cL) [.ref (ad kr), .int u1] (wC ad cI cL kk kn le ff fo ct fx gv pg cu co sg ru nu tg sc sr wy) (some (.int out)) (wC ad cI cL kk kn le ff fo ct fx gv pg cu co sg ru nu tg sc sr wy) := by
  refine fw_of (by decide) (Nat.le_of_ble_eq_true rfl) ?_
  intro p e s m args below meth c ls A R Q hR hQ S hr hlk hX hA hl hw
  have hK := hX.1
  have hx := S.1
  have hb := S.2.1
  have hown := S.2.2.2.1
  have hg := S.2.2.2.2
  have hl : lv_has ls 4 [(0, .ref (ad kr)), (1, .int u1)] := hl
  unfold mi_KD_columnCells at h
  refine lv_iconst (v := 0) hx hb d_KD_columnCells_0 (by decide) ?_
  refine lv_istore_n (lv' := [(2, .int (0 : Int32)), (0, .ref (ad kr)), (1, .int u1)]) hx hb d_KD_columnCells_1 rfl hl (by decide) rfl (fun ls hl => ?_)
  refine lv_iconst (v := 0) hx hb d_KD_columnCells_2 (by decide) ?_
  refine lv_istore_n (lv' := [(3, .int (0 : Int32)), (2, .int (0 : Int32)), (0, .ref (ad kr)), (1, .int u1)]) hx hb d_KD_columnCells_3 rfl hl (by decide) rfl (fun ls hl => ?_)
  have X4 : ∀ (y4 : Int32 × Int32), mr_KD_columnCells_4 y4 = some out → ∀ (ls : Array Slot) (H : Heap) (locs : List Loc), lv_has ls 4 [(2, .int y4.1)] → fw_H D vwCl A s.heap (wC ad cI cL kk kn le ff fo ct fx gv pg cu co sg ru nu tg sc sr wy) H locs → W p l e R s m args below meth c H locs 0 0 Q (F0 m 31 ls []) := by
    intro y4 h ls H locs hl hw
    unfold mr_KD_columnCells_4 at h
    refine lv_iload_n hx hb d_KD_columnCells_31 rfl (lv_at hl 0 rfl) ?_
    have q := Option.some.inj h
    subst q
    exact fw_iret hQ S hr hlk hX hw d_KD_columnCells_32
  have L4 : ∀ (n4 : Nat) (x4 : Int32 × Int32) (e4 : Int32 × Int32), lp (mb_KD_columnCells_4 kr u1) n4 x4 = some e4 → (mr_KD_columnCells_4) e4 = some out → ∀ (ls : Array Slot) (H : Heap) (locs : List Loc), lv_has ls 4 [(0, .ref (ad kr)), (1, .int u1), (2, .int x4.1), (3, .int x4.2)] → fw_H D vwCl A s.heap (wC ad cI cL kk kn le ff fo ct fx gv pg cu co sg ru nu tg sc sr wy) H locs → W p l e R s m args below meth c H locs 0 0 Q (F0 m 4 ls []) := by
    intro n4
    induction n4 with
    | zero => intro x4 e4 h1; exact absurd h1 lp_0
    | succ n4 ih4 =>
      intro x4 e4 h1 hr4 ls H locs hl hw
      rw [lp_s] at h1
      refine ob h1 (fun r4 h hk4 => ?_)
      unfold mb_KD_columnCells_4 at h
      refine lv_iload_n hx hb d_KD_columnCells_4 rfl (lv_at hl 3 rfl) ?_
      refine lv_aload_n hx hb d_KD_columnCells_5 rfl (lv_at hl 0 rfl) ?_
      refine fk_side S hK hw hkr (hg _ q_43) d_KD_columnCells_6 ?_
      refine lv_icmp_ge (tgt := 31) hx hb d_KD_columnCells_9 (by decide) (fun hc => ?_) (fun hc => ?_)
      · have h := oi h hc
        have q := Option.some.inj h
        subst q
        have q := Option.some.inj hk4
        subst q
        exact X4 (x4.1, x4.2) hr4 _ _ _ (lv_sub hl [2] rfl) hw
      · have h := oe h hc
        refine lv_iload_n hx hb d_KD_columnCells_12 rfl (lv_at hl 2 rfl) ?_
        refine lv_iconst (v := 1) hx hb d_KD_columnCells_13 (by decide) ?_
        refine lv_iload_n hx hb d_KD_columnCells_14 rfl (lv_at hl 3 rfl) ?_
        refine lv_aload_n hx hb d_KD_columnCells_15 rfl (lv_at hl 0 rfl) ?_
        refine fk_side S hK hw hkr (hg _ q_43) d_KD_columnCells_16 ?_
        refine lv_imul hx hb d_KD_columnCells_19 ?_
        refine lv_iload_n hx hb d_KD_columnCells_20 rfl (lv_at hl 1 rfl) ?_
        refine lv_iadd hx hb d_KD_columnCells_21 ?_
        refine lv_ishl hx hb d_KD_columnCells_22 ?_
        refine lv_ior hx hb d_KD_columnCells_23 ?_
        refine lv_istore_n (lv' := [(2, .int (x4.1 ||| ((1 : Int32) <<< (((x4.2 * (k_side kr)) + u1) &&& 31)))), (0, .ref (ad kr)), (1, .int u1), (3, .int x4.2)]) hx hb d_KD_columnCells_24 rfl hl (by decide) rfl (fun ls hl => ?_)
        refine lv_iinc (k := 3) (v := x4.2 + 1) (lv' := [(3, .int (x4.2 + 1)), (2, .int (x4.1 ||| ((1 : Int32) <<< (((x4.2 * (k_side kr)) + u1) &&& 31)))), (0, .ref (ad kr)), (1, .int u1)]) hx hb d_KD_columnCells_25 hl rfl (by rw [lit1]) (by decide) rfl (fun ls hl => ?_)
        refine lv_goto (tgt := 4) hx hb d_KD_columnCells_28 (by decide) ?_
        have q := Option.some.inj h
        subst q
        exact ih4 (x4.1 ||| ((1 : Int32) <<< (((x4.2 * (k_side kr)) + u1) &&& 31)), x4.2 + 1) e4 hk4 hr4 _ _ _ (lv_sub hl [2, 3, 1, 0] rfl) hw
  refine ob h (fun e4 h1 h2 => ?_)
  exact L4 N ((0 : Int32), (0 : Int32)) e4 h1 h2 _ _ _ (lv_sub hl [2, 3, 1, 0] rfl) hw
set_option maxHeartbeats 4000000 in
set_option maxRecDepth 100000 in
theorem ct_KD_scopeOf (l : Launch) (D : va_G) (ad : Nat → Nat) (cI cL : ClassId) (N : Nat) (kr : Nat) (hkr : K3 kr) (kk : Nat) (kn : Int32) (le : Int64) (ff : Int64) (fo : Int32) (ct : Int32) (fx : Int32) (gv : Nat → Int32) (pg : Nat → Int32) (cu : Nat → Int32) (co : Nat → Int32) (sg : Nat → Int32) (ru : Nat → Int32) (nu : Nat → Int32) (tg : Nat → Int32) (sc : Nat → Int64) (sr : Nat → Int32) (wy : Nat → Int64) (u1 : Int32) (out : Int64) (h : mi_KD_scopeOf N kr u1 = some out) : fw_C l y_KD_scopeOf (.code y_KD_scopeOf b_KD_scopeOf 5 (some .long) :: Gw) (fr 1 21) D vwCl (tyA cI cL) [.ref (ad kr), .int u1] (wC ad cI cL kk kn le ff fo ct fx gv pg cu co sg ru nu tg sc sr wy) (some (.long out)) (wC ad cI cL kk kn le ff fo ct fx gv pg cu co sg ru nu tg sc sr wy) := by
  refine fw_of (by decide) (Nat.le_of_ble_eq_true rfl) ?_
  intro p e s m args below meth c ls A R Q hR hQ S hr hlk hX hA hl hw
  have hK := hX.1
  have hx := S.1
  have hb := S.2.1
  have hown := S.2.2.2.1
  have hg := S.2.2.2.2
  have hl : lv_has ls 5 [(0, .ref (ad kr)), (1, .int u1)] := hl
  unfold mi_KD_scopeOf at h
  refine lv_lconst (v := 0) hx hb d_KD_scopeOf_0 (by decide) ?_
  refine lv_lstore_n (lv' := [(2, .long (0 : Int64)), (0, .ref (ad kr)), (1, .int u1)]) hx hb d_KD_scopeOf_1 rfl hl (by decide) rfl (fun ls hl => ?_)
  refine lv_iconst (v := 0) hx hb d_KD_scopeOf_2 (by decide) ?_
  refine lv_istore (lv' := [(4, .int (0 : Int32)), (2, .long (0 : Int64)), (0, .ref (ad kr)), (1, .int u1)]) hx hb d_KD_scopeOf_3 hl (by decide) rfl (fun ls hl => ?_)
  have X5 : ∀ (y5 : Int64 × Int32), mr_KD_scopeOf_5 y5 = some out → ∀ (ls : Array Slot) (H : Heap) (locs : List Loc), lv_has ls 5 [(2, .long y5.1)] → fw_H D vwCl A s.heap (wC ad cI cL kk kn le ff fo ct fx gv pg cu co sg ru nu tg sc sr wy) H locs → W p l e R s m args below meth c H locs 0 0 Q (F0 m 39 ls []) := by
    intro y5 h ls H locs hl hw
    unfold mr_KD_scopeOf_5 at h
    refine lv_lload_n hx hb d_KD_scopeOf_39 rfl (lv_at hl 0 rfl) ?_
    have q := Option.some.inj h
    subst q
    exact fw_lret hQ S hr hlk hX hw d_KD_scopeOf_40
  have L5 : ∀ (n5 : Nat) (x5 : Int64 × Int32) (e5 : Int64 × Int32), lp (mb_KD_scopeOf_5 N kr u1) n5 x5 = some e5 → (mr_KD_scopeOf_5) e5 = some out → ∀ (ls : Array Slot) (H : Heap) (locs : List Loc), lv_has ls 5 [(0, .ref (ad kr)), (1, .int u1), (2, .long x5.1), (4, .int x5.2)] → fw_H D vwCl A s.heap (wC ad cI cL kk kn le ff fo ct fx gv pg cu co sg ru nu tg sc sr wy) H locs → W p l e R s m args below meth c H locs 0 0 Q (F0 m 5 ls []) := by
    intro n5
    induction n5 with
    | zero => intro x5 e5 h1; exact absurd h1 lp_0
    | succ n5 ih5 =>
      intro x5 e5 h1 hr5 ls H locs hl hw
      rw [lp_s] at h1
      refine ob h1 (fun r5 h hk5 => ?_)
      unfold mb_KD_scopeOf_5 at h
      refine lv_iload hx hb d_KD_scopeOf_5 (lv_at hl 3 rfl) ?_
      refine lv_aload_n hx hb d_KD_scopeOf_7 rfl (lv_at hl 0 rfl) ?_
      refine fk_cells S hK hw hkr (hg _ q_44) d_KD_scopeOf_8 ?_
      refine lv_icmp_ge (tgt := 39) hx hb d_KD_scopeOf_11 (by decide) (fun hc => ?_) (fun hc => ?_)
      · have h := oi h hc
        have q := Option.some.inj h
        subst q
        have q := Option.some.inj hk5
        subst q
        exact X5 (x5.1, x5.2) hr5 _ _ _ (lv_sub hl [2] rfl) hw
      · have h := oe h hc
        refine lv_iload_n hx hb d_KD_scopeOf_14 rfl (lv_at hl 1 rfl) ?_
        refine lv_iload hx hb d_KD_scopeOf_15 (lv_at hl 3 rfl) ?_
        refine lv_ishr hx hb d_KD_scopeOf_17 ?_
        refine lv_iconst (v := 1) hx hb d_KD_scopeOf_18 (by decide) ?_
        refine lv_iand hx hb d_KD_scopeOf_19 ?_
        refine lv_iconst (v := 1) hx hb d_KD_scopeOf_20 (by decide) ?_
        refine lv_icmp_ne (tgt := 33) hx hb d_KD_scopeOf_21 (by decide) (fun hc => ?_) (fun hc => ?_)
        · have h := oe h hc
          refine lv_iinc (k := 3) (v := x5.2 + 1) (lv' := [(4, .int (x5.2 + 1)), (0, .ref (ad kr)), (1, .int u1), (2, .long x5.1)]) hx hb d_KD_scopeOf_33 hl rfl (by rw [lit1]) (by decide) rfl (fun ls hl => ?_)
          refine lv_goto (tgt := 5) hx hb d_KD_scopeOf_36 (by decide) ?_
          have q := Option.some.inj h
          subst q
          exact ih5 (x5.1, x5.2 + 1) e5 hk5 hr5 _ _ _ (lv_sub hl [1, 2, 3, 0] rfl) hw
        · have h := oi h hc
          refine lv_lload_n hx hb d_KD_scopeOf_24 rfl (lv_at hl 2 rfl) ?_
          refine lv_aload_n hx hb d_KD_scopeOf_25 rfl (lv_at hl 0 rfl) ?_
          refine lv_iload hx hb d_KD_scopeOf_26 (lv_at hl 3 rfl) ?_
          refine ob h (fun r28 h28 h => ?_)
          refine fw_callK (As := [.int x5.2]) (rest := [.long x5.1]) (st1 := [.long r28, .long x5.1]) S (ct_KD_allOf l D ad cI cL N kr hkr kk kn le ff fo ct fx gv pg cu co sg ru nu tg sc sr wy x5.2 r28 h28) hkr q_205 q_207 q_208 q_209 q_210 q_206 q_2 k_KD_allOf hd_KD_allOf rfl ⟨by rw [hR]; decide, by rw [hR]; decide⟩ rfl rfl hX hw hA rfl rfl rfl hl.1 rfl rfl (Nat.le_of_ble_eq_true rfl) d_KD_scopeOf_28 ⟨Nat.zero_le _, Nat.zero_le _⟩ rfl (fun H locs hw => ?_)
          refine lv_lor hx hb d_KD_scopeOf_31 ?_
          refine lv_lstore_n (lv' := [(2, .long (x5.1 ||| r28)), (0, .ref (ad kr)), (1, .int u1), (4, .int x5.2)]) hx hb d_KD_scopeOf_32 rfl hl (by decide) rfl (fun ls hl => ?_)
          refine lv_iinc (k := 3) (v := x5.2 + 1) (lv' := [(4, .int (x5.2 + 1)), (2, .long (x5.1 ||| r28)), (0, .ref (ad kr)), (1, .int u1)]) hx hb d_KD_scopeOf_33 hl rfl (by rw [lit1]) (by decide) rfl (fun ls hl => ?_)
          refine lv_goto (tgt := 5) hx hb d_KD_scopeOf_36 (by decide) ?_
          have q := Option.some.inj h
          subst q
          exact ih5 (x5.1 ||| r28, x5.2 + 1) e5 hk5 hr5 _ _ _ (lv_sub hl [2, 3, 1, 0] rfl) hw
  refine ob h (fun e5 h1 h2 => ?_)
  exact L5 N ((0 : Int64), (0 : Int32)) e5 h1 h2 _ _ _ (lv_sub hl [2, 3, 1, 0] rfl) hw
set_option maxHeartbeats 4000000 in
set_option maxRecDepth 100000 in
theorem ct_KD_membersOf_SQ (l : Launch) (D : va_G) (ad : Nat → Nat) (cI cL : ClassId) (N : Nat) (kk : Nat) (kn : Int32) (le : Int64) (ff : Int64) (fo : Int32) (ct : Int32) (fx : Int32) (gv : Nat → Int32) (pg : Nat → Int32) (cu : Nat → Int32) (co : Nat → Int32) (sg : Nat → Int32) (ru : Nat → Int32) (nu : Nat → Int32) (tg : Nat → Int32) (sc : Nat → Int64) (sr : Nat → Int32) (wy : Nat → Int64) (u1 : Int32) (out : Int32) (h : mi_KD_membersOf_SQ N sg u1 = some out) : fw_C l y_KD_membersOf (.code y_KD_membersOf b_KD_membersOf 4 (some .int) :: Gw) (fr 0 0) D vwCl (tyA cI cL) [.ref (ad 2), .int u1] (wC ad cI cL kk kn le ff fo ct fx gv pg cu co sg ru nu tg sc sr wy) (some (.int out)) (wC ad cI cL kk kn le ff fo ct fx gv pg cu co sg ru nu tg sc sr wy) := by
  refine fw_of (by decide) (Nat.le_of_ble_eq_true rfl) ?_
  intro p e s m args below meth c ls A R Q hR hQ S hr hlk hX hA hl hw
  have hK := hX.1
  have hx := S.1
  have hb := S.2.1
  have hown := S.2.2.2.1
  have hg := S.2.2.2.2
  have hl : lv_has ls 4 [(0, .ref (ad 2)), (1, .int u1)] := hl
  unfold mi_KD_membersOf_SQ at h
  refine lv_iconst (v := 0) hx hb d_KD_membersOf_0 (by decide) ?_
  refine lv_istore_n (lv' := [(2, .int (0 : Int32)), (0, .ref (ad 2)), (1, .int u1)]) hx hb d_KD_membersOf_1 rfl hl (by decide) rfl (fun ls hl => ?_)
  refine lv_iconst (v := 0) hx hb d_KD_membersOf_2 (by decide) ?_
  refine lv_istore_n (lv' := [(3, .int (0 : Int32)), (2, .int (0 : Int32)), (0, .ref (ad 2)), (1, .int u1)]) hx hb d_KD_membersOf_3 rfl hl (by decide) rfl (fun ls hl => ?_)
  have X4 : ∀ (y4 : Int32 × Int32), mr_KD_membersOf_SQ_4 y4 = some out → ∀ (ls : Array Slot) (H : Heap) (locs : List Loc), lv_has ls 4 [(2, .int y4.1)] → fw_H D vwCl A s.heap (wC ad cI cL kk kn le ff fo ct fx gv pg cu co sg ru nu tg sc sr wy) H locs → W p l e R s m args below meth c H locs 0 0 Q (F0 m 34 ls []) := by
    intro y4 h ls H locs hl hw
    unfold mr_KD_membersOf_SQ_4 at h
    refine lv_iload_n hx hb d_KD_membersOf_34 rfl (lv_at hl 0 rfl) ?_
    have q := Option.some.inj h
    subst q
    exact fw_iret hQ S hr hlk hX hw d_KD_membersOf_35
  have L4 : ∀ (n4 : Nat) (x4 : Int32 × Int32) (e4 : Int32 × Int32), lp (mb_KD_membersOf_SQ_4 sg u1) n4 x4 = some e4 → (mr_KD_membersOf_SQ_4) e4 = some out → ∀ (ls : Array Slot) (H : Heap) (locs : List Loc), lv_has ls 4 [(0, .ref (ad 2)), (1, .int u1), (2, .int x4.1), (3, .int x4.2)] → fw_H D vwCl A s.heap (wC ad cI cL kk kn le ff fo ct fx gv pg cu co sg ru nu tg sc sr wy) H locs → W p l e R s m args below meth c H locs 0 0 Q (F0 m 4 ls []) := by
    intro n4
    induction n4 with
    | zero => intro x4 e4 h1; exact absurd h1 lp_0
    | succ n4 ih4 =>
      intro x4 e4 h1 hr4 ls H locs hl hw
      rw [lp_s] at h1
      refine ob h1 (fun r4 h hk4 => ?_)
      unfold mb_KD_membersOf_SQ_4 at h
      refine lv_iload_n hx hb d_KD_membersOf_4 rfl (lv_at hl 3 rfl) ?_
      refine lv_aload_n hx hb d_KD_membersOf_5 rfl (lv_at hl 0 rfl) ?_
      refine va_get (ci := 2) (v := .int (16 : Int32)) (C := R_SQ) (T := F_SQ) (N := 8) hx hb hg in_SQ hown hK hw.1 2 rfl rfl 1 (by decide) (hg _ q_44) (fun _ h9 => h9) rfl d_KD_membersOf_6 ?_
      refine lv_icmp_ge (tgt := 34) hx hb d_KD_membersOf_9 (by decide) (fun hc => ?_) (fun hc => ?_)
      · have h := oi h hc
        have q := Option.some.inj h
        subst q
        have q := Option.some.inj hk4
        subst q
        exact X4 (x4.1, x4.2) hr4 _ _ _ (lv_sub hl [2] rfl) hw
      · have h := oe h hc
        refine lv_aload_n hx hb d_KD_membersOf_12 rfl (lv_at hl 0 rfl) ?_
        refine va_get (ci := 2) (v := .ref (ad 10)) (C := R_SQ) (T := F_SQ) (N := 8) hx hb hg in_SQ hown hK hw.1 2 rfl rfl 5 (by decide) (hg _ q_61) (fun _ h9 => h9) rfl d_KD_membersOf_13 ?_
        refine lv_iload_n hx hb d_KD_membersOf_16 rfl (lv_at hl 3 rfl) ?_
        refine oc h (fun hc1 h => ?_)
        refine va_iald hx hb hK hw.1 10 0 rfl rfl hc1 d_KD_membersOf_17 ?_
        refine lv_iload_n hx hb d_KD_membersOf_18 rfl (lv_at hl 1 rfl) ?_
        refine lv_icmp_ne (tgt := 28) hx hb d_KD_membersOf_19 (by decide) (fun hc => ?_) (fun hc => ?_)
        · have h := oe h hc
          refine lv_iinc (k := 3) (v := x4.2 + 1) (lv' := [(3, .int (x4.2 + 1)), (0, .ref (ad 2)), (1, .int u1), (2, .int x4.1)]) hx hb d_KD_membersOf_28 hl rfl (by rw [lit1]) (by decide) rfl (fun ls hl => ?_)
          refine lv_goto (tgt := 4) hx hb d_KD_membersOf_31 (by decide) ?_
          have q := Option.some.inj h
          subst q
          exact ih4 (x4.1, x4.2 + 1) e4 hk4 hr4 _ _ _ (lv_sub hl [1, 2, 3, 0] rfl) hw
        · have h := oi h hc
          refine lv_iload_n hx hb d_KD_membersOf_22 rfl (lv_at hl 2 rfl) ?_
          refine lv_iconst (v := 1) hx hb d_KD_membersOf_23 (by decide) ?_
          refine lv_iload_n hx hb d_KD_membersOf_24 rfl (lv_at hl 3 rfl) ?_
          refine lv_ishl hx hb d_KD_membersOf_25 ?_
          refine lv_ior hx hb d_KD_membersOf_26 ?_
          refine lv_istore_n (lv' := [(2, .int (x4.1 ||| ((1 : Int32) <<< (x4.2 &&& 31)))), (0, .ref (ad 2)), (1, .int u1), (3, .int x4.2)]) hx hb d_KD_membersOf_27 rfl hl (by decide) rfl (fun ls hl => ?_)
          refine lv_iinc (k := 3) (v := x4.2 + 1) (lv' := [(3, .int (x4.2 + 1)), (2, .int (x4.1 ||| ((1 : Int32) <<< (x4.2 &&& 31)))), (0, .ref (ad 2)), (1, .int u1)]) hx hb d_KD_membersOf_28 hl rfl (by rw [lit1]) (by decide) rfl (fun ls hl => ?_)
          refine lv_goto (tgt := 4) hx hb d_KD_membersOf_31 (by decide) ?_
          have q := Option.some.inj h
          subst q
          exact ih4 (x4.1 ||| ((1 : Int32) <<< (x4.2 &&& 31)), x4.2 + 1) e4 hk4 hr4 _ _ _ (lv_sub hl [2, 3, 1, 0] rfl) hw
  refine ob h (fun e4 h1 h2 => ?_)
  exact L4 N ((0 : Int32), (0 : Int32)) e4 h1 h2 _ _ _ (lv_sub hl [2, 3, 1, 0] rfl) hw
set_option maxHeartbeats 4000000 in
set_option maxRecDepth 100000 in
theorem ct_KD_membersOf_ST (l : Launch) (D : va_G) (ad : Nat → Nat) (cI cL : ClassId) (N : Nat) (kk : Nat) (kn : Int32) (le : Int64) (ff : Int64) (fo : Int32) (ct : Int32) (fx : Int32) (gv : Nat → Int32) (pg : Nat → Int32) (cu : Nat → Int32) (co : Nat → Int32) (sg : Nat → Int32) (ru : Nat → Int32) (nu : Nat → Int32) (tg : Nat → Int32) (sc : Nat → Int64) (sr : Nat → Int32) (wy : Nat → Int64) (u1 : Int32) (out : Int32) (h : mi_KD_membersOf_ST N tg u1 = some out) : fw_C l y_KD_membersOf (.code y_KD_membersOf b_KD_membersOf 4 (some .int) :: Gw) (fr 0 0) D vwCl (tyA cI cL) [.ref (ad 3), .int u1] (wC ad cI cL kk kn le ff fo ct fx gv pg cu co sg ru nu tg sc sr wy) (some (.int out)) (wC ad cI cL kk kn le ff fo ct fx gv pg cu co sg ru nu tg sc sr wy) := by
  refine fw_of (by decide) (Nat.le_of_ble_eq_true rfl) ?_
  intro p e s m args below meth c ls A R Q hR hQ S hr hlk hX hA hl hw
  have hK := hX.1
  have hx := S.1
  have hb := S.2.1
  have hown := S.2.2.2.1
  have hg := S.2.2.2.2
  have hl : lv_has ls 4 [(0, .ref (ad 3)), (1, .int u1)] := hl
  unfold mi_KD_membersOf_ST at h
  refine lv_iconst (v := 0) hx hb d_KD_membersOf_0 (by decide) ?_
  refine lv_istore_n (lv' := [(2, .int (0 : Int32)), (0, .ref (ad 3)), (1, .int u1)]) hx hb d_KD_membersOf_1 rfl hl (by decide) rfl (fun ls hl => ?_)
  refine lv_iconst (v := 0) hx hb d_KD_membersOf_2 (by decide) ?_
  refine lv_istore_n (lv' := [(3, .int (0 : Int32)), (2, .int (0 : Int32)), (0, .ref (ad 3)), (1, .int u1)]) hx hb d_KD_membersOf_3 rfl hl (by decide) rfl (fun ls hl => ?_)
  have X4 : ∀ (y4 : Int32 × Int32), mr_KD_membersOf_ST_4 y4 = some out → ∀ (ls : Array Slot) (H : Heap) (locs : List Loc), lv_has ls 4 [(2, .int y4.1)] → fw_H D vwCl A s.heap (wC ad cI cL kk kn le ff fo ct fx gv pg cu co sg ru nu tg sc sr wy) H locs → W p l e R s m args below meth c H locs 0 0 Q (F0 m 34 ls []) := by
    intro y4 h ls H locs hl hw
    unfold mr_KD_membersOf_ST_4 at h
    refine lv_iload_n hx hb d_KD_membersOf_34 rfl (lv_at hl 0 rfl) ?_
    have q := Option.some.inj h
    subst q
    exact fw_iret hQ S hr hlk hX hw d_KD_membersOf_35
  have L4 : ∀ (n4 : Nat) (x4 : Int32 × Int32) (e4 : Int32 × Int32), lp (mb_KD_membersOf_ST_4 tg u1) n4 x4 = some e4 → (mr_KD_membersOf_ST_4) e4 = some out → ∀ (ls : Array Slot) (H : Heap) (locs : List Loc), lv_has ls 4 [(0, .ref (ad 3)), (1, .int u1), (2, .int x4.1), (3, .int x4.2)] → fw_H D vwCl A s.heap (wC ad cI cL kk kn le ff fo ct fx gv pg cu co sg ru nu tg sc sr wy) H locs → W p l e R s m args below meth c H locs 0 0 Q (F0 m 4 ls []) := by
    intro n4
    induction n4 with
    | zero => intro x4 e4 h1; exact absurd h1 lp_0
    | succ n4 ih4 =>
      intro x4 e4 h1 hr4 ls H locs hl hw
      rw [lp_s] at h1
      refine ob h1 (fun r4 h hk4 => ?_)
      unfold mb_KD_membersOf_ST_4 at h
      refine lv_iload_n hx hb d_KD_membersOf_4 rfl (lv_at hl 3 rfl) ?_
      refine lv_aload_n hx hb d_KD_membersOf_5 rfl (lv_at hl 0 rfl) ?_
      refine va_get (ci := 3) (v := .int (25 : Int32)) (C := R_ST) (T := F_ST) (N := 6) hx hb hg in_ST hown hK hw.1 3 rfl rfl 1 (by decide) (hg _ q_44) (fun _ h9 => h9) rfl d_KD_membersOf_6 ?_
      refine lv_icmp_ge (tgt := 34) hx hb d_KD_membersOf_9 (by decide) (fun hc => ?_) (fun hc => ?_)
      · have h := oi h hc
        have q := Option.some.inj h
        subst q
        have q := Option.some.inj hk4
        subst q
        exact X4 (x4.1, x4.2) hr4 _ _ _ (lv_sub hl [2] rfl) hw
      · have h := oe h hc
        refine lv_aload_n hx hb d_KD_membersOf_12 rfl (lv_at hl 0 rfl) ?_
        refine va_get (ci := 3) (v := .ref (ad 13)) (C := R_ST) (T := F_ST) (N := 6) hx hb hg in_ST hown hK hw.1 3 rfl rfl 5 (by decide) (hg _ q_61) (fun _ h9 => h9) rfl d_KD_membersOf_13 ?_
        refine lv_iload_n hx hb d_KD_membersOf_16 rfl (lv_at hl 3 rfl) ?_
        refine oc h (fun hc1 h => ?_)
        refine va_iald hx hb hK hw.1 13 0 rfl rfl hc1 d_KD_membersOf_17 ?_
        refine lv_iload_n hx hb d_KD_membersOf_18 rfl (lv_at hl 1 rfl) ?_
        refine lv_icmp_ne (tgt := 28) hx hb d_KD_membersOf_19 (by decide) (fun hc => ?_) (fun hc => ?_)
        · have h := oe h hc
          refine lv_iinc (k := 3) (v := x4.2 + 1) (lv' := [(3, .int (x4.2 + 1)), (0, .ref (ad 3)), (1, .int u1), (2, .int x4.1)]) hx hb d_KD_membersOf_28 hl rfl (by rw [lit1]) (by decide) rfl (fun ls hl => ?_)
          refine lv_goto (tgt := 4) hx hb d_KD_membersOf_31 (by decide) ?_
          have q := Option.some.inj h
          subst q
          exact ih4 (x4.1, x4.2 + 1) e4 hk4 hr4 _ _ _ (lv_sub hl [1, 2, 3, 0] rfl) hw
        · have h := oi h hc
          refine lv_iload_n hx hb d_KD_membersOf_22 rfl (lv_at hl 2 rfl) ?_
          refine lv_iconst (v := 1) hx hb d_KD_membersOf_23 (by decide) ?_
          refine lv_iload_n hx hb d_KD_membersOf_24 rfl (lv_at hl 3 rfl) ?_
          refine lv_ishl hx hb d_KD_membersOf_25 ?_
          refine lv_ior hx hb d_KD_membersOf_26 ?_
          refine lv_istore_n (lv' := [(2, .int (x4.1 ||| ((1 : Int32) <<< (x4.2 &&& 31)))), (0, .ref (ad 3)), (1, .int u1), (3, .int x4.2)]) hx hb d_KD_membersOf_27 rfl hl (by decide) rfl (fun ls hl => ?_)
          refine lv_iinc (k := 3) (v := x4.2 + 1) (lv' := [(3, .int (x4.2 + 1)), (2, .int (x4.1 ||| ((1 : Int32) <<< (x4.2 &&& 31)))), (0, .ref (ad 3)), (1, .int u1)]) hx hb d_KD_membersOf_28 hl rfl (by rw [lit1]) (by decide) rfl (fun ls hl => ?_)
          refine lv_goto (tgt := 4) hx hb d_KD_membersOf_31 (by decide) ?_
          have q := Option.some.inj h
          subst q
          exact ih4 (x4.1 ||| ((1 : Int32) <<< (x4.2 &&& 31)), x4.2 + 1) e4 hk4 hr4 _ _ _ (lv_sub hl [2, 3, 1, 0] rfl) hw
  refine ob h (fun e4 h1 h2 => ?_)
  exact L4 N ((0 : Int32), (0 : Int32)) e4 h1 h2 _ _ _ (lv_sub hl [2, 3, 1, 0] rfl) hw
