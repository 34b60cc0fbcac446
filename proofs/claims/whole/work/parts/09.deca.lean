theorem dd_Cb_init_0 : decode prog_1_method_1_code 0 = .ok (.aload_n 0, 1) := by decide +kernel
theorem dd_Cb_init_1 : decode prog_1_method_1_code 1 = .ok (.invokespecial 1, 3) := by decide +kernel
theorem dd_Cb_init_4 : decode prog_1_method_1_code 4 = .ok (.aload_n 0, 1) := by decide +kernel
theorem dd_Cb_init_5 : decode prog_1_method_1_code 5 = .ok (.new 7, 3) := by decide +kernel
theorem dd_Cb_init_8 : decode prog_1_method_1_code 8 = .ok (.dup, 1) := by decide +kernel
theorem dd_Cb_init_9 : decode prog_1_method_1_code 9 = .ok (.invokespecial 9, 3) := by decide +kernel
theorem dd_Cb_init_12 : decode prog_1_method_1_code 12 = .ok (.putfield 10, 3) := by decide +kernel
theorem dd_Cb_init_15 : decode prog_1_method_1_code 15 = .ok (.aload_n 0, 1) := by decide +kernel
theorem dd_Cb_init_16 : decode prog_1_method_1_code 16 = .ok (.iconst 4, 1) := by decide +kernel
theorem dd_Cb_init_17 : decode prog_1_method_1_code 17 = .ok (.anewarray 16, 3) := by decide +kernel
theorem dd_Cb_init_20 : decode prog_1_method_1_code 20 = .ok (.putfield 18, 3) := by decide +kernel
theorem dd_Cb_init_23 : decode prog_1_method_1_code 23 = .ok (.iconst 0, 1) := by decide +kernel
theorem dd_Cb_init_24 : decode prog_1_method_1_code 24 = .ok (.istore_n 1, 1) := by decide +kernel
theorem dd_Cb_init_25 : decode prog_1_method_1_code 25 = .ok (.iload_n 1, 1) := by decide +kernel
theorem dd_Cb_init_26 : decode prog_1_method_1_code 26 = .ok (.iconst 4, 1) := by decide +kernel
theorem dd_Cb_init_27 : decode prog_1_method_1_code 27 = .ok (.if_icmp .ge 22, 3) := by decide +kernel
theorem dd_Cb_init_30 : decode prog_1_method_1_code 30 = .ok (.aload_n 0, 1) := by decide +kernel
theorem dd_Cb_init_31 : decode prog_1_method_1_code 31 = .ok (.getfield 18, 3) := by decide +kernel
theorem dd_Cb_init_34 : decode prog_1_method_1_code 34 = .ok (.iload_n 1, 1) := by decide +kernel
theorem dd_Cb_init_35 : decode prog_1_method_1_code 35 = .ok (.new 16, 3) := by decide +kernel
theorem dd_Cb_init_38 : decode prog_1_method_1_code 38 = .ok (.dup, 1) := by decide +kernel
theorem dd_Cb_init_39 : decode prog_1_method_1_code 39 = .ok (.invokespecial 22, 3) := by decide +kernel
theorem dd_Cb_init_42 : decode prog_1_method_1_code 42 = .ok (.aastore, 1) := by decide +kernel
theorem dd_Cb_init_43 : decode prog_1_method_1_code 43 = .ok (.iinc 1 1, 3) := by decide +kernel
theorem dd_Cb_init_46 : decode prog_1_method_1_code 46 = .ok (.goto (-21), 3) := by decide +kernel
theorem dd_Cb_init_49 : decode prog_1_method_1_code 49 = .ok (.aload_n 0, 1) := by decide +kernel
theorem dd_Cb_init_50 : decode prog_1_method_1_code 50 = .ok (.new 23, 3) := by decide +kernel
theorem dd_Cb_init_53 : decode prog_1_method_1_code 53 = .ok (.dup, 1) := by decide +kernel
theorem dd_Cb_init_54 : decode prog_1_method_1_code 54 = .ok (.invokespecial 25, 3) := by decide +kernel
theorem dd_Cb_init_57 : decode prog_1_method_1_code 57 = .ok (.putfield 26, 3) := by decide +kernel
theorem dd_Cb_init_60 : decode prog_1_method_1_code 60 = .ok (.return_, 1) := by decide +kernel
theorem dd_Rul_init_0 : decode prog_3_method_1_code 0 = .ok (.aload_n 0, 1) := by decide +kernel
theorem dd_Rul_init_1 : decode prog_3_method_1_code 1 = .ok (.invokespecial 3, 3) := by decide +kernel
theorem dd_Rul_init_4 : decode prog_3_method_1_code 4 = .ok (.aload_n 0, 1) := by decide +kernel
theorem dd_Rul_init_5 : decode prog_3_method_1_code 5 = .ok (.sipush 256, 3) := by decide +kernel
theorem dd_Rul_init_8 : decode prog_3_method_1_code 8 = .ok (.newarray .int, 2) := by decide +kernel
theorem dd_Rul_init_10 : decode prog_3_method_1_code 10 = .ok (.putfield 9, 3) := by decide +kernel
theorem dd_Rul_init_13 : decode prog_3_method_1_code 13 = .ok (.aload_n 0, 1) := by decide +kernel
theorem dd_Rul_init_14 : decode prog_3_method_1_code 14 = .ok (.iconst 1, 1) := by decide +kernel
theorem dd_Rul_init_15 : decode prog_3_method_1_code 15 = .ok (.invokevirtual 15, 3) := by decide +kernel
theorem dd_Rul_init_18 : decode prog_3_method_1_code 18 = .ok (.aload_n 0, 1) := by decide +kernel
theorem dd_Rul_init_19 : decode prog_3_method_1_code 19 = .ok (.iconst 0, 1) := by decide +kernel
theorem dd_Rul_init_20 : decode prog_3_method_1_code 20 = .ok (.iconst 4, 1) := by decide +kernel
theorem dd_Rul_init_21 : decode prog_3_method_1_code 21 = .ok (.bipush 64, 2) := by decide +kernel
theorem dd_Rul_init_23 : decode prog_3_method_1_code 23 = .ok (.iconst 3, 1) := by decide +kernel
theorem dd_Rul_init_24 : decode prog_3_method_1_code 24 = .ok (.iconst 0, 1) := by decide +kernel
theorem dd_Rul_init_25 : decode prog_3_method_1_code 25 = .ok (.iconst 1, 1) := by decide +kernel
theorem dd_Rul_init_26 : decode prog_3_method_1_code 26 = .ok (.invokevirtual 19, 3) := by decide +kernel
theorem dd_Rul_init_29 : decode prog_3_method_1_code 29 = .ok (.return_, 1) := by decide +kernel
theorem dd_Rul_sow_0 : decode prog_3_method_4_code 0 = .ok (.iload_n 1, 1) := by decide +kernel
theorem dd_Rul_sow_1 : decode prog_3_method_4_code 1 = .ok (.istore_n 2, 1) := by decide +kernel
theorem dd_Rul_sow_2 : decode prog_3_method_4_code 2 = .ok (.iconst 0, 1) := by decide +kernel
theorem dd_Rul_sow_3 : decode prog_3_method_4_code 3 = .ok (.istore_n 3, 1) := by decide +kernel
theorem dd_Rul_sow_4 : decode prog_3_method_4_code 4 = .ok (.iload_n 3, 1) := by decide +kernel
theorem dd_Rul_sow_5 : decode prog_3_method_4_code 5 = .ok (.sipush 256, 3) := by decide +kernel
theorem dd_Rul_sow_8 : decode prog_3_method_4_code 8 = .ok (.if_icmp .ge 29, 3) := by decide +kernel
theorem dd_Rul_sow_11 : decode prog_3_method_4_code 11 = .ok (.iload_n 2, 1) := by decide +kernel
theorem dd_Rul_sow_12 : decode prog_3_method_4_code 12 = .ok (.ldc 42, 2) := by decide +kernel
theorem dd_Rul_sow_14 : decode prog_3_method_4_code 14 = .ok (.imul, 1) := by decide +kernel
theorem dd_Rul_sow_15 : decode prog_3_method_4_code 15 = .ok (.ldc 43, 2) := by decide +kernel
theorem dd_Rul_sow_17 : decode prog_3_method_4_code 17 = .ok (.iadd, 1) := by decide +kernel
theorem dd_Rul_sow_18 : decode prog_3_method_4_code 18 = .ok (.istore_n 2, 1) := by decide +kernel
theorem dd_Rul_sow_19 : decode prog_3_method_4_code 19 = .ok (.aload_n 0, 1) := by decide +kernel
theorem dd_Rul_sow_20 : decode prog_3_method_4_code 20 = .ok (.getfield 9, 3) := by decide +kernel
theorem dd_Rul_sow_23 : decode prog_3_method_4_code 23 = .ok (.iload_n 3, 1) := by decide +kernel
theorem dd_Rul_sow_24 : decode prog_3_method_4_code 24 = .ok (.iload_n 2, 1) := by decide +kernel
theorem dd_Rul_sow_25 : decode prog_3_method_4_code 25 = .ok (.iload_n 2, 1) := by decide +kernel
theorem dd_Rul_sow_26 : decode prog_3_method_4_code 26 = .ok (.bipush 16, 2) := by decide +kernel
theorem dd_Rul_sow_28 : decode prog_3_method_4_code 28 = .ok (.iushr, 1) := by decide +kernel
theorem dd_Rul_sow_29 : decode prog_3_method_4_code 29 = .ok (.ixor, 1) := by decide +kernel
theorem dd_Rul_sow_30 : decode prog_3_method_4_code 30 = .ok (.iastore, 1) := by decide +kernel
theorem dd_Rul_sow_31 : decode prog_3_method_4_code 31 = .ok (.iinc 3 1, 3) := by decide +kernel
theorem dd_Rul_sow_34 : decode prog_3_method_4_code 34 = .ok (.goto (-30), 3) := by decide +kernel
theorem dd_Rul_sow_37 : decode prog_3_method_4_code 37 = .ok (.return_, 1) := by decide +kernel
theorem dd_Rul_take_0 : decode prog_3_method_3_code 0 = .ok (.aload_n 0, 1) := by decide +kernel
theorem dd_Rul_take_1 : decode prog_3_method_3_code 1 = .ok (.iload_n 1, 1) := by decide +kernel
theorem dd_Rul_take_2 : decode prog_3_method_3_code 2 = .ok (.putfield 23, 3) := by decide +kernel
theorem dd_Rul_take_5 : decode prog_3_method_3_code 5 = .ok (.aload_n 0, 1) := by decide +kernel
theorem dd_Rul_take_6 : decode prog_3_method_3_code 6 = .ok (.iload_n 2, 1) := by decide +kernel
theorem dd_Rul_take_7 : decode prog_3_method_3_code 7 = .ok (.putfield 27, 3) := by decide +kernel
theorem dd_Rul_take_10 : decode prog_3_method_3_code 10 = .ok (.aload_n 0, 1) := by decide +kernel
theorem dd_Rul_take_11 : decode prog_3_method_3_code 11 = .ok (.iload_n 3, 1) := by decide +kernel
theorem dd_Rul_take_12 : decode prog_3_method_3_code 12 = .ok (.putfield 30, 3) := by decide +kernel
theorem dd_Rul_take_15 : decode prog_3_method_3_code 15 = .ok (.aload_n 0, 1) := by decide +kernel
theorem dd_Rul_take_16 : decode prog_3_method_3_code 16 = .ok (.iload 4, 2) := by decide +kernel
theorem dd_Rul_take_18 : decode prog_3_method_3_code 18 = .ok (.putfield 33, 3) := by decide +kernel
theorem dd_Rul_take_21 : decode prog_3_method_3_code 21 = .ok (.aload_n 0, 1) := by decide +kernel
theorem dd_Rul_take_22 : decode prog_3_method_3_code 22 = .ok (.iload 5, 2) := by decide +kernel
theorem dd_Rul_take_24 : decode prog_3_method_3_code 24 = .ok (.putfield 36, 3) := by decide +kernel
theorem dd_Rul_take_27 : decode prog_3_method_3_code 27 = .ok (.aload_n 0, 1) := by decide +kernel
theorem dd_Rul_take_28 : decode prog_3_method_3_code 28 = .ok (.iload 6, 2) := by decide +kernel
theorem dd_Rul_take_30 : decode prog_3_method_3_code 30 = .ok (.putfield 39, 3) := by decide +kernel
theorem dd_Rul_take_33 : decode prog_3_method_3_code 33 = .ok (.return_, 1) := by decide +kernel
theorem dd_Txt_init_0 : decode prog_6_method_1_code 0 = .ok (.aload_n 0, 1) := by decide +kernel
theorem dd_Txt_init_1 : decode prog_6_method_1_code 1 = .ok (.invokespecial 3, 3) := by decide +kernel
theorem dd_Txt_init_4 : decode prog_6_method_1_code 4 = .ok (.aload_n 0, 1) := by decide +kernel
theorem dd_Txt_init_5 : decode prog_6_method_1_code 5 = .ok (.new 9, 3) := by decide +kernel
theorem dd_Txt_init_8 : decode prog_6_method_1_code 8 = .ok (.dup, 1) := by decide +kernel
theorem dd_Txt_init_9 : decode prog_6_method_1_code 9 = .ok (.sipush 1500, 3) := by decide +kernel
theorem dd_Txt_init_12 : decode prog_6_method_1_code 12 = .ok (.sipush 1500, 3) := by decide +kernel
theorem dd_Txt_init_15 : decode prog_6_method_1_code 15 = .ok (.invokespecial 11, 3) := by decide +kernel
theorem dd_Txt_init_18 : decode prog_6_method_1_code 18 = .ok (.putfield 14, 3) := by decide +kernel
theorem dd_Txt_init_21 : decode prog_6_method_1_code 21 = .ok (.return_, 1) := by decide +kernel
theorem dd_Row_init_0 : decode prog_2_method_1_code 0 = .ok (.aload_n 0, 1) := by decide +kernel
theorem dd_Row_init_1 : decode prog_2_method_1_code 1 = .ok (.invokespecial 3, 3) := by decide +kernel
theorem dd_Row_init_4 : decode prog_2_method_1_code 4 = .ok (.aload_n 0, 1) := by decide +kernel
theorem dd_Row_init_5 : decode prog_2_method_1_code 5 = .ok (.iload_n 1, 1) := by decide +kernel
theorem dd_Row_init_6 : decode prog_2_method_1_code 6 = .ok (.newarray .int, 2) := by decide +kernel
theorem dd_Row_init_8 : decode prog_2_method_1_code 8 = .ok (.putfield 9, 3) := by decide +kernel
theorem dd_Row_init_11 : decode prog_2_method_1_code 11 = .ok (.aload_n 0, 1) := by decide +kernel
theorem dd_Row_init_12 : decode prog_2_method_1_code 12 = .ok (.iload_n 2, 1) := by decide +kernel
theorem dd_Row_init_13 : decode prog_2_method_1_code 13 = .ok (.iconst 1, 1) := by decide +kernel
theorem dd_Row_init_14 : decode prog_2_method_1_code 14 = .ok (.iadd, 1) := by decide +kernel
theorem dd_Row_init_15 : decode prog_2_method_1_code 15 = .ok (.newarray .int, 2) := by decide +kernel
theorem dd_Row_init_17 : decode prog_2_method_1_code 17 = .ok (.putfield 15, 3) := by decide +kernel
theorem dd_Row_init_20 : decode prog_2_method_1_code 20 = .ok (.aload_n 0, 1) := by decide +kernel
theorem dd_Row_init_21 : decode prog_2_method_1_code 21 = .ok (.iload_n 2, 1) := by decide +kernel
theorem dd_Row_init_22 : decode prog_2_method_1_code 22 = .ok (.newarray .int, 2) := by decide +kernel
theorem dd_Row_init_24 : decode prog_2_method_1_code 24 = .ok (.putfield 18, 3) := by decide +kernel
theorem dd_Row_init_27 : decode prog_2_method_1_code 27 = .ok (.aload_n 0, 1) := by decide +kernel
theorem dd_Row_init_28 : decode prog_2_method_1_code 28 = .ok (.iload_n 2, 1) := by decide +kernel
theorem dd_Row_init_29 : decode prog_2_method_1_code 29 = .ok (.newarray .int, 2) := by decide +kernel
theorem dd_Row_init_31 : decode prog_2_method_1_code 31 = .ok (.putfield 21, 3) := by decide +kernel
theorem dd_Row_init_34 : decode prog_2_method_1_code 34 = .ok (.aload_n 0, 1) := by decide +kernel
theorem dd_Row_init_35 : decode prog_2_method_1_code 35 = .ok (.sipush 256, 3) := by decide +kernel
theorem dd_Row_init_38 : decode prog_2_method_1_code 38 = .ok (.newarray .int, 2) := by decide +kernel
theorem dd_Row_init_40 : decode prog_2_method_1_code 40 = .ok (.putfield 24, 3) := by decide +kernel
theorem dd_Row_init_43 : decode prog_2_method_1_code 43 = .ok (.aload_n 0, 1) := by decide +kernel
theorem dd_Row_init_44 : decode prog_2_method_1_code 44 = .ok (.invokevirtual 27, 3) := by decide +kernel
theorem dd_Row_init_47 : decode prog_2_method_1_code 47 = .ok (.return_, 1) := by decide +kernel
theorem dd_Row_unchain_0 : decode prog_2_method_8_code 0 = .ok (.aload_n 0, 1) := by decide +kernel
theorem dd_Row_unchain_1 : decode prog_2_method_8_code 1 = .ok (.getfield 24, 3) := by decide +kernel
theorem dd_Row_unchain_4 : decode prog_2_method_8_code 4 = .ok (.iconst (-1), 1) := by decide +kernel
theorem dd_Row_unchain_5 : decode prog_2_method_8_code 5 = .ok (.invokestatic 39, 3) := by decide +kernel
theorem dd_Row_unchain_8 : decode prog_2_method_8_code 8 = .ok (.return_, 1) := by decide +kernel
theorem dd_Arr_fill_0 : decode prog_11_method_103_code 0 = .ok (.iconst 0, 1) := by decide +kernel
theorem dd_Arr_fill_1 : decode prog_11_method_103_code 1 = .ok (.istore_n 2, 1) := by decide +kernel
theorem dd_Arr_fill_2 : decode prog_11_method_103_code 2 = .ok (.aload_n 0, 1) := by decide +kernel
theorem dd_Arr_fill_3 : decode prog_11_method_103_code 3 = .ok (.arraylength, 1) := by decide +kernel
theorem dd_Arr_fill_4 : decode prog_11_method_103_code 4 = .ok (.istore_n 3, 1) := by decide +kernel
theorem dd_Arr_fill_5 : decode prog_11_method_103_code 5 = .ok (.iload_n 2, 1) := by decide +kernel
theorem dd_Arr_fill_6 : decode prog_11_method_103_code 6 = .ok (.iload_n 3, 1) := by decide +kernel
theorem dd_Arr_fill_7 : decode prog_11_method_103_code 7 = .ok (.if_icmp .ge 13, 3) := by decide +kernel
theorem dd_Arr_fill_10 : decode prog_11_method_103_code 10 = .ok (.aload_n 0, 1) := by decide +kernel
theorem dd_Arr_fill_11 : decode prog_11_method_103_code 11 = .ok (.iload_n 2, 1) := by decide +kernel
theorem dd_Arr_fill_12 : decode prog_11_method_103_code 12 = .ok (.iload_n 1, 1) := by decide +kernel
theorem dd_Arr_fill_13 : decode prog_11_method_103_code 13 = .ok (.iastore, 1) := by decide +kernel
theorem dd_Arr_fill_14 : decode prog_11_method_103_code 14 = .ok (.iinc 2 1, 3) := by decide +kernel
theorem dd_Arr_fill_17 : decode prog_11_method_103_code 17 = .ok (.goto (-12), 3) := by decide +kernel
theorem dd_Arr_fill_20 : decode prog_11_method_103_code 20 = .ok (.return_, 1) := by decide +kernel
theorem dd_Sto_init_0 : decode prog_5_method_1_code 0 = .ok (.aload_n 0, 1) := by decide +kernel
theorem dd_Sto_init_1 : decode prog_5_method_1_code 1 = .ok (.invokespecial 3, 3) := by decide +kernel
theorem dd_Sto_init_4 : decode prog_5_method_1_code 4 = .ok (.aload_n 0, 1) := by decide +kernel
theorem dd_Sto_init_5 : decode prog_5_method_1_code 5 = .ok (.new 9, 3) := by decide +kernel
theorem dd_Sto_init_8 : decode prog_5_method_1_code 8 = .ok (.dup, 1) := by decide +kernel
theorem dd_Sto_init_9 : decode prog_5_method_1_code 9 = .ok (.sipush 6000, 3) := by decide +kernel
theorem dd_Sto_init_12 : decode prog_5_method_1_code 12 = .ok (.sipush 300, 3) := by decide +kernel
theorem dd_Sto_init_15 : decode prog_5_method_1_code 15 = .ok (.invokespecial 11, 3) := by decide +kernel
theorem dd_Sto_init_18 : decode prog_5_method_1_code 18 = .ok (.putfield 14, 3) := by decide +kernel
theorem dd_Sto_init_21 : decode prog_5_method_1_code 21 = .ok (.aload_n 0, 1) := by decide +kernel
theorem dd_Sto_init_22 : decode prog_5_method_1_code 22 = .ok (.sipush 300, 3) := by decide +kernel
theorem dd_Sto_init_25 : decode prog_5_method_1_code 25 = .ok (.newarray .int, 2) := by decide +kernel
theorem dd_Sto_init_27 : decode prog_5_method_1_code 27 = .ok (.putfield 20, 3) := by decide +kernel
theorem dd_Sto_init_30 : decode prog_5_method_1_code 30 = .ok (.aload_n 0, 1) := by decide +kernel
theorem dd_Sto_init_31 : decode prog_5_method_1_code 31 = .ok (.sipush 300, 3) := by decide +kernel
theorem dd_Sto_init_34 : decode prog_5_method_1_code 34 = .ok (.newarray .int, 2) := by decide +kernel
theorem dd_Sto_init_36 : decode prog_5_method_1_code 36 = .ok (.putfield 24, 3) := by decide +kernel
theorem dd_Sto_init_39 : decode prog_5_method_1_code 39 = .ok (.aload_n 0, 1) := by decide +kernel
theorem dd_Sto_init_40 : decode prog_5_method_1_code 40 = .ok (.bipush 10, 2) := by decide +kernel
theorem dd_Sto_init_42 : decode prog_5_method_1_code 42 = .ok (.anewarray 27, 3) := by decide +kernel
theorem dd_Sto_init_45 : decode prog_5_method_1_code 45 = .ok (.putfield 29, 3) := by decide +kernel
theorem dd_Sto_init_48 : decode prog_5_method_1_code 48 = .ok (.iconst 0, 1) := by decide +kernel
theorem dd_Sto_init_49 : decode prog_5_method_1_code 49 = .ok (.istore_n 1, 1) := by decide +kernel
theorem dd_Sto_init_50 : decode prog_5_method_1_code 50 = .ok (.iload_n 1, 1) := by decide +kernel
theorem dd_Sto_init_51 : decode prog_5_method_1_code 51 = .ok (.bipush 10, 2) := by decide +kernel
theorem dd_Sto_init_53 : decode prog_5_method_1_code 53 = .ok (.if_icmp .ge 22, 3) := by decide +kernel
theorem dd_Sto_init_56 : decode prog_5_method_1_code 56 = .ok (.aload_n 0, 1) := by decide +kernel
theorem dd_Sto_init_57 : decode prog_5_method_1_code 57 = .ok (.getfield 29, 3) := by decide +kernel
theorem dd_Sto_init_60 : decode prog_5_method_1_code 60 = .ok (.iload_n 1, 1) := by decide +kernel
theorem dd_Sto_init_61 : decode prog_5_method_1_code 61 = .ok (.new 27, 3) := by decide +kernel
theorem dd_Sto_init_64 : decode prog_5_method_1_code 64 = .ok (.dup, 1) := by decide +kernel
theorem dd_Sto_init_65 : decode prog_5_method_1_code 65 = .ok (.invokespecial 33, 3) := by decide +kernel
theorem dd_Sto_init_68 : decode prog_5_method_1_code 68 = .ok (.aastore, 1) := by decide +kernel
theorem dd_Sto_init_69 : decode prog_5_method_1_code 69 = .ok (.iinc 1 1, 3) := by decide +kernel
theorem dd_Sto_init_72 : decode prog_5_method_1_code 72 = .ok (.goto (-22), 3) := by decide +kernel
theorem dd_Sto_init_75 : decode prog_5_method_1_code 75 = .ok (.return_, 1) := by decide +kernel
theorem dd_Snp_init_0 : decode prog_4_method_1_code 0 = .ok (.aload_n 0, 1) := by decide +kernel
theorem dd_Snp_init_1 : decode prog_4_method_1_code 1 = .ok (.invokespecial 3, 3) := by decide +kernel
theorem dd_Snp_init_4 : decode prog_4_method_1_code 4 = .ok (.aload_n 0, 1) := by decide +kernel
theorem dd_Snp_init_5 : decode prog_4_method_1_code 5 = .ok (.sipush 1500, 3) := by decide +kernel
theorem dd_Snp_init_8 : decode prog_4_method_1_code 8 = .ok (.newarray .int, 2) := by decide +kernel
theorem dd_Snp_init_10 : decode prog_4_method_1_code 10 = .ok (.putfield 9, 3) := by decide +kernel
theorem dd_Snp_init_13 : decode prog_4_method_1_code 13 = .ok (.return_, 1) := by decide +kernel
theorem dd_Cb_seed_0 : decode prog_1_method_2_code 0 = .ok (.aload_n 0, 1) := by decide +kernel
theorem dd_Cb_seed_1 : decode prog_1_method_2_code 1 = .ok (.getfield 10, 3) := by decide +kernel
theorem dd_Cb_seed_4 : decode prog_1_method_2_code 4 = .ok (.iload_n 1, 1) := by decide +kernel
theorem dd_Cb_seed_5 : decode prog_1_method_2_code 5 = .ok (.invokevirtual 30, 3) := by decide +kernel
theorem dd_Cb_seed_8 : decode prog_1_method_2_code 8 = .ok (.aload_n 0, 1) := by decide +kernel
theorem dd_Cb_seed_9 : decode prog_1_method_2_code 9 = .ok (.invokevirtual 34, 3) := by decide +kernel
theorem dd_Cb_seed_12 : decode prog_1_method_2_code 12 = .ok (.iconst 1, 1) := by decide +kernel
theorem dd_Cb_seed_13 : decode prog_1_method_2_code 13 = .ok (.ireturn, 1) := by decide +kernel
theorem dd_Cb_forgetAllCuts_0 : decode prog_1_method_29_code 0 = .ok (.iconst 0, 1) := by decide +kernel
theorem dd_Cb_forgetAllCuts_1 : decode prog_1_method_29_code 1 = .ok (.istore_n 1, 1) := by decide +kernel
theorem dd_Cb_forgetAllCuts_2 : decode prog_1_method_29_code 2 = .ok (.iload_n 1, 1) := by decide +kernel
theorem dd_Cb_forgetAllCuts_3 : decode prog_1_method_29_code 3 = .ok (.iconst 4, 1) := by decide +kernel
theorem dd_Cb_forgetAllCuts_4 : decode prog_1_method_29_code 4 = .ok (.if_icmp .ge 18, 3) := by decide +kernel
theorem dd_Cb_forgetAllCuts_7 : decode prog_1_method_29_code 7 = .ok (.aload_n 0, 1) := by decide +kernel
theorem dd_Cb_forgetAllCuts_8 : decode prog_1_method_29_code 8 = .ok (.getfield 18, 3) := by decide +kernel
theorem dd_Cb_forgetAllCuts_11 : decode prog_1_method_29_code 11 = .ok (.iload_n 1, 1) := by decide +kernel
theorem dd_Cb_forgetAllCuts_12 : decode prog_1_method_29_code 12 = .ok (.aaload, 1) := by decide +kernel
theorem dd_Cb_forgetAllCuts_13 : decode prog_1_method_29_code 13 = .ok (.invokevirtual 186, 3) := by decide +kernel
theorem dd_Cb_forgetAllCuts_16 : decode prog_1_method_29_code 16 = .ok (.iinc 1 1, 3) := by decide +kernel
theorem dd_Cb_forgetAllCuts_19 : decode prog_1_method_29_code 19 = .ok (.goto (-17), 3) := by decide +kernel
theorem dd_Cb_forgetAllCuts_22 : decode prog_1_method_29_code 22 = .ok (.return_, 1) := by decide +kernel
theorem dd_Txt_forgetCuts_0 : decode prog_6_method_2_code 0 = .ok (.aload_n 0, 1) := by decide +kernel
theorem dd_Txt_forgetCuts_1 : decode prog_6_method_2_code 1 = .ok (.iconst 0, 1) := by decide +kernel
theorem dd_Txt_forgetCuts_2 : decode prog_6_method_2_code 2 = .ok (.putfield 20, 3) := by decide +kernel
theorem dd_Txt_forgetCuts_5 : decode prog_6_method_2_code 5 = .ok (.aload_n 0, 1) := by decide +kernel
theorem dd_Txt_forgetCuts_6 : decode prog_6_method_2_code 6 = .ok (.iconst 0, 1) := by decide +kernel
theorem dd_Txt_forgetCuts_7 : decode prog_6_method_2_code 7 = .ok (.putfield 24, 3) := by decide +kernel
theorem dd_Txt_forgetCuts_10 : decode prog_6_method_2_code 10 = .ok (.return_, 1) := by decide +kernel
theorem dd_Cb_rule_0 : decode prog_1_method_3_code 0 = .ok (.iload_n 1, 1) := by decide +kernel
theorem dd_Cb_rule_1 : decode prog_1_method_3_code 1 = .ok (.iload_n 2, 1) := by decide +kernel
theorem dd_Cb_rule_2 : decode prog_1_method_3_code 2 = .ok (.iload_n 3, 1) := by decide +kernel
theorem dd_Cb_rule_3 : decode prog_1_method_3_code 3 = .ok (.iload 4, 2) := by decide +kernel
theorem dd_Cb_rule_5 : decode prog_1_method_3_code 5 = .ok (.iload 5, 2) := by decide +kernel
theorem dd_Cb_rule_7 : decode prog_1_method_3_code 7 = .ok (.iload 6, 2) := by decide +kernel
theorem dd_Cb_rule_9 : decode prog_1_method_3_code 9 = .ok (.invokestatic 37, 3) := by decide +kernel
theorem dd_Cb_rule_12 : decode prog_1_method_3_code 12 = .ok (.ifCond .ne 5, 3) := by decide +kernel
theorem dd_Cb_rule_15 : decode prog_1_method_3_code 15 = .ok (.iconst (-1), 1) := by decide +kernel
theorem dd_Cb_rule_16 : decode prog_1_method_3_code 16 = .ok (.ireturn, 1) := by decide +kernel
theorem dd_Cb_rule_17 : decode prog_1_method_3_code 17 = .ok (.aload_n 0, 1) := by decide +kernel
theorem dd_Cb_rule_18 : decode prog_1_method_3_code 18 = .ok (.getfield 10, 3) := by decide +kernel
theorem dd_Cb_rule_21 : decode prog_1_method_3_code 21 = .ok (.iload_n 1, 1) := by decide +kernel
theorem dd_Cb_rule_22 : decode prog_1_method_3_code 22 = .ok (.iload_n 2, 1) := by decide +kernel
theorem dd_Cb_rule_23 : decode prog_1_method_3_code 23 = .ok (.iload_n 3, 1) := by decide +kernel
theorem dd_Cb_rule_24 : decode prog_1_method_3_code 24 = .ok (.iload 4, 2) := by decide +kernel
theorem dd_Cb_rule_26 : decode prog_1_method_3_code 26 = .ok (.iload 5, 2) := by decide +kernel
theorem dd_Cb_rule_28 : decode prog_1_method_3_code 28 = .ok (.iload 6, 2) := by decide +kernel
theorem dd_Cb_rule_30 : decode prog_1_method_3_code 30 = .ok (.invokevirtual 41, 3) := by decide +kernel
theorem dd_Cb_rule_33 : decode prog_1_method_3_code 33 = .ok (.aload_n 0, 1) := by decide +kernel
theorem dd_Cb_rule_34 : decode prog_1_method_3_code 34 = .ok (.invokevirtual 34, 3) := by decide +kernel
theorem dd_Cb_rule_37 : decode prog_1_method_3_code 37 = .ok (.iconst 1, 1) := by decide +kernel
theorem dd_Cb_rule_38 : decode prog_1_method_3_code 38 = .ok (.ireturn, 1) := by decide +kernel
theorem dd_Rul_fit_0 : decode prog_3_method_2_code 0 = .ok (.iload_n 0, 1) := by decide +kernel
theorem dd_Rul_fit_1 : decode prog_3_method_2_code 1 = .ok (.ifCond .lt 20, 3) := by decide +kernel
theorem dd_Rul_fit_4 : decode prog_3_method_2_code 4 = .ok (.iload_n 0, 1) := by decide +kernel
theorem dd_Rul_fit_5 : decode prog_3_method_2_code 5 = .ok (.iconst 3, 1) := by decide +kernel
theorem dd_Rul_fit_6 : decode prog_3_method_2_code 6 = .ok (.if_icmp .gt 15, 3) := by decide +kernel
theorem dd_Rul_fit_9 : decode prog_3_method_2_code 9 = .ok (.iload_n 1, 1) := by decide +kernel
theorem dd_Rul_fit_10 : decode prog_3_method_2_code 10 = .ok (.iconst 1, 1) := by decide +kernel
theorem dd_Rul_fit_11 : decode prog_3_method_2_code 11 = .ok (.if_icmp .lt 10, 3) := by decide +kernel
theorem dd_Rul_fit_14 : decode prog_3_method_2_code 14 = .ok (.iload_n 1, 1) := by decide +kernel
theorem dd_Rul_fit_15 : decode prog_3_method_2_code 15 = .ok (.sipush 200, 3) := by decide +kernel
theorem dd_Rul_fit_18 : decode prog_3_method_2_code 18 = .ok (.if_icmp .le 5, 3) := by decide +kernel
theorem dd_Rul_fit_21 : decode prog_3_method_2_code 21 = .ok (.iconst 0, 1) := by decide +kernel
theorem dd_Rul_fit_22 : decode prog_3_method_2_code 22 = .ok (.ireturn, 1) := by decide +kernel
theorem dd_Rul_fit_23 : decode prog_3_method_2_code 23 = .ok (.iload_n 2, 1) := by decide +kernel
theorem dd_Rul_fit_24 : decode prog_3_method_2_code 24 = .ok (.iload_n 1, 1) := by decide +kernel
theorem dd_Rul_fit_25 : decode prog_3_method_2_code 25 = .ok (.if_icmp .lt 21, 3) := by decide +kernel
theorem dd_Rul_fit_28 : decode prog_3_method_2_code 28 = .ok (.iload_n 2, 1) := by decide +kernel
theorem dd_Rul_fit_29 : decode prog_3_method_2_code 29 = .ok (.sipush 600, 3) := by decide +kernel
theorem dd_Rul_fit_32 : decode prog_3_method_2_code 32 = .ok (.if_icmp .gt 14, 3) := by decide +kernel
theorem dd_Rul_fit_35 : decode prog_3_method_2_code 35 = .ok (.iload_n 3, 1) := by decide +kernel
theorem dd_Rul_fit_36 : decode prog_3_method_2_code 36 = .ok (.iconst 1, 1) := by decide +kernel
theorem dd_Rul_fit_37 : decode prog_3_method_2_code 37 = .ok (.if_icmp .lt 9, 3) := by decide +kernel
theorem dd_Rul_fit_40 : decode prog_3_method_2_code 40 = .ok (.iload_n 3, 1) := by decide +kernel
theorem dd_Rul_fit_41 : decode prog_3_method_2_code 41 = .ok (.bipush 9, 2) := by decide +kernel
theorem dd_Rul_fit_43 : decode prog_3_method_2_code 43 = .ok (.if_icmp .le 5, 3) := by decide +kernel
theorem dd_Rul_fit_46 : decode prog_3_method_2_code 46 = .ok (.iconst 0, 1) := by decide +kernel
theorem dd_Rul_fit_47 : decode prog_3_method_2_code 47 = .ok (.ireturn, 1) := by decide +kernel
theorem dd_Rul_fit_48 : decode prog_3_method_2_code 48 = .ok (.iload 4, 2) := by decide +kernel
theorem dd_Rul_fit_50 : decode prog_3_method_2_code 50 = .ok (.ifCond .lt 22, 3) := by decide +kernel
theorem dd_Rul_fit_53 : decode prog_3_method_2_code 53 = .ok (.iload 4, 2) := by decide +kernel
theorem dd_Rul_fit_55 : decode prog_3_method_2_code 55 = .ok (.iload_n 3, 1) := by decide +kernel
theorem dd_Rul_fit_56 : decode prog_3_method_2_code 56 = .ok (.if_icmp .gt 16, 3) := by decide +kernel
theorem dd_Rul_fit_59 : decode prog_3_method_2_code 59 = .ok (.iload 5, 2) := by decide +kernel
theorem dd_Rul_fit_61 : decode prog_3_method_2_code 61 = .ok (.iconst 1, 1) := by decide +kernel
theorem dd_Rul_fit_62 : decode prog_3_method_2_code 62 = .ok (.if_icmp .lt 10, 3) := by decide +kernel
theorem dd_Rul_fit_65 : decode prog_3_method_2_code 65 = .ok (.iload 5, 2) := by decide +kernel
theorem dd_Rul_fit_67 : decode prog_3_method_2_code 67 = .ok (.bipush 16, 2) := by decide +kernel
theorem dd_Rul_fit_69 : decode prog_3_method_2_code 69 = .ok (.if_icmp .le 5, 3) := by decide +kernel
theorem dd_Rul_fit_72 : decode prog_3_method_2_code 72 = .ok (.iconst 0, 1) := by decide +kernel
theorem dd_Rul_fit_73 : decode prog_3_method_2_code 73 = .ok (.ireturn, 1) := by decide +kernel
theorem dd_Rul_fit_74 : decode prog_3_method_2_code 74 = .ok (.iload_n 2, 1) := by decide +kernel
theorem dd_Rul_fit_75 : decode prog_3_method_2_code 75 = .ok (.iload_n 2, 1) := by decide +kernel
theorem dd_Rul_fit_76 : decode prog_3_method_2_code 76 = .ok (.iload 5, 2) := by decide +kernel
theorem dd_Rul_fit_78 : decode prog_3_method_2_code 78 = .ok (.irem, 1) := by decide +kernel
theorem dd_Rul_fit_79 : decode prog_3_method_2_code 79 = .ok (.isub, 1) := by decide +kernel
theorem dd_Rul_fit_80 : decode prog_3_method_2_code 80 = .ok (.iload_n 1, 1) := by decide +kernel
theorem dd_Rul_fit_81 : decode prog_3_method_2_code 81 = .ok (.if_icmp .lt 7, 3) := by decide +kernel
theorem dd_Rul_fit_84 : decode prog_3_method_2_code 84 = .ok (.iconst 1, 1) := by decide +kernel
theorem dd_Rul_fit_85 : decode prog_3_method_2_code 85 = .ok (.goto 4, 3) := by decide +kernel
theorem dd_Rul_fit_88 : decode prog_3_method_2_code 88 = .ok (.iconst 0, 1) := by decide +kernel
theorem dd_Rul_fit_89 : decode prog_3_method_2_code 89 = .ok (.ireturn, 1) := by decide +kernel
theorem dd_Cb_add_0 : decode prog_1_method_4_code 0 = .ok (.iload_n 1, 1) := by decide +kernel
theorem dd_Cb_add_1 : decode prog_1_method_4_code 1 = .ok (.invokestatic 45, 3) := by decide +kernel
theorem dd_Cb_add_4 : decode prog_1_method_4_code 4 = .ok (.ifCond .eq 10, 3) := by decide +kernel
theorem dd_Cb_add_7 : decode prog_1_method_4_code 7 = .ok (.iload_n 2, 1) := by decide +kernel
theorem dd_Cb_add_8 : decode prog_1_method_4_code 8 = .ok (.invokestatic 49, 3) := by decide +kernel
theorem dd_Cb_add_11 : decode prog_1_method_4_code 11 = .ok (.ifCond .ne 5, 3) := by decide +kernel
theorem dd_Cb_add_14 : decode prog_1_method_4_code 14 = .ok (.iconst (-1), 1) := by decide +kernel
theorem dd_Cb_add_15 : decode prog_1_method_4_code 15 = .ok (.ireturn, 1) := by decide +kernel
theorem dd_Cb_add_16 : decode prog_1_method_4_code 16 = .ok (.aload_n 0, 1) := by decide +kernel
theorem dd_Cb_add_17 : decode prog_1_method_4_code 17 = .ok (.getfield 18, 3) := by decide +kernel
theorem dd_Cb_add_20 : decode prog_1_method_4_code 20 = .ok (.iload_n 1, 1) := by decide +kernel
theorem dd_Cb_add_21 : decode prog_1_method_4_code 21 = .ok (.aaload, 1) := by decide +kernel
theorem dd_Cb_add_22 : decode prog_1_method_4_code 22 = .ok (.aload_n 0, 1) := by decide +kernel
theorem dd_Cb_add_23 : decode prog_1_method_4_code 23 = .ok (.getfield 18, 3) := by decide +kernel
theorem dd_Cb_add_26 : decode prog_1_method_4_code 26 = .ok (.iload_n 1, 1) := by decide +kernel
theorem dd_Cb_add_27 : decode prog_1_method_4_code 27 = .ok (.aaload, 1) := by decide +kernel
theorem dd_Cb_add_28 : decode prog_1_method_4_code 28 = .ok (.getfield 52, 3) := by decide +kernel
theorem dd_Cb_add_31 : decode prog_1_method_4_code 31 = .ok (.iload_n 2, 1) := by decide +kernel
theorem dd_Cb_add_32 : decode prog_1_method_4_code 32 = .ok (.invokevirtual 56, 3) := by decide +kernel
theorem dd_Cb_add_35 : decode prog_1_method_4_code 35 = .ok (.ireturn, 1) := by decide +kernel
theorem dd_Cb_isText_0 : decode prog_1_method_22_code 0 = .ok (.iload_n 0, 1) := by decide +kernel
theorem dd_Cb_isText_1 : decode prog_1_method_22_code 1 = .ok (.ifCond .lt 12, 3) := by decide +kernel
theorem dd_Cb_isText_4 : decode prog_1_method_22_code 4 = .ok (.iload_n 0, 1) := by decide +kernel
theorem dd_Cb_isText_5 : decode prog_1_method_22_code 5 = .ok (.iconst 4, 1) := by decide +kernel
theorem dd_Cb_isText_6 : decode prog_1_method_22_code 6 = .ok (.if_icmp .ge 7, 3) := by decide +kernel
theorem dd_Cb_isText_9 : decode prog_1_method_22_code 9 = .ok (.iconst 1, 1) := by decide +kernel
theorem dd_Cb_isText_10 : decode prog_1_method_22_code 10 = .ok (.goto 4, 3) := by decide +kernel
theorem dd_Cb_isText_13 : decode prog_1_method_22_code 13 = .ok (.iconst 0, 1) := by decide +kernel
theorem dd_Cb_isText_14 : decode prog_1_method_22_code 14 = .ok (.ireturn, 1) := by decide +kernel
theorem dd_Cb_isByte_0 : decode prog_1_method_23_code 0 = .ok (.iload_n 0, 1) := by decide +kernel
theorem dd_Cb_isByte_1 : decode prog_1_method_23_code 1 = .ok (.ifCond .lt 14, 3) := by decide +kernel
theorem dd_Cb_isByte_4 : decode prog_1_method_23_code 4 = .ok (.iload_n 0, 1) := by decide +kernel
theorem dd_Cb_isByte_5 : decode prog_1_method_23_code 5 = .ok (.sipush 256, 3) := by decide +kernel
theorem dd_Cb_isByte_8 : decode prog_1_method_23_code 8 = .ok (.if_icmp .ge 7, 3) := by decide +kernel
theorem dd_Cb_isByte_11 : decode prog_1_method_23_code 11 = .ok (.iconst 1, 1) := by decide +kernel
theorem dd_Cb_isByte_12 : decode prog_1_method_23_code 12 = .ok (.goto 4, 3) := by decide +kernel
theorem dd_Cb_isByte_15 : decode prog_1_method_23_code 15 = .ok (.iconst 0, 1) := by decide +kernel
theorem dd_Cb_isByte_16 : decode prog_1_method_23_code 16 = .ok (.ireturn, 1) := by decide +kernel
theorem dd_Txt_put_0 : decode prog_6_method_5_code 0 = .ok (.aload_n 0, 1) := by decide +kernel
theorem dd_Txt_put_1 : decode prog_6_method_5_code 1 = .ok (.getfield 35, 3) := by decide +kernel
theorem dd_Txt_put_4 : decode prog_6_method_5_code 4 = .ok (.sipush 1500, 3) := by decide +kernel
theorem dd_Txt_put_7 : decode prog_6_method_5_code 7 = .ok (.if_icmp .lt 6, 3) := by decide +kernel
theorem dd_Txt_put_10 : decode prog_6_method_5_code 10 = .ok (.bipush (-2), 2) := by decide +kernel
theorem dd_Txt_put_12 : decode prog_6_method_5_code 12 = .ok (.ireturn, 1) := by decide +kernel
theorem dd_Txt_put_13 : decode prog_6_method_5_code 13 = .ok (.aload_n 0, 1) := by decide +kernel
theorem dd_Txt_put_14 : decode prog_6_method_5_code 14 = .ok (.getfield 14, 3) := by decide +kernel
theorem dd_Txt_put_17 : decode prog_6_method_5_code 17 = .ok (.getfield 38, 3) := by decide +kernel
theorem dd_Txt_put_20 : decode prog_6_method_5_code 20 = .ok (.iload_n 1, 1) := by decide +kernel
theorem dd_Txt_put_21 : decode prog_6_method_5_code 21 = .ok (.aload_n 0, 1) := by decide +kernel
theorem dd_Txt_put_22 : decode prog_6_method_5_code 22 = .ok (.getfield 14, 3) := by decide +kernel
theorem dd_Txt_put_25 : decode prog_6_method_5_code 25 = .ok (.getfield 38, 3) := by decide +kernel
theorem dd_Txt_put_28 : decode prog_6_method_5_code 28 = .ok (.iload_n 1, 1) := by decide +kernel
theorem dd_Txt_put_29 : decode prog_6_method_5_code 29 = .ok (.iconst 1, 1) := by decide +kernel
theorem dd_Txt_put_30 : decode prog_6_method_5_code 30 = .ok (.iadd, 1) := by decide +kernel
theorem dd_Txt_put_31 : decode prog_6_method_5_code 31 = .ok (.aload_n 0, 1) := by decide +kernel
theorem dd_Txt_put_32 : decode prog_6_method_5_code 32 = .ok (.getfield 35, 3) := by decide +kernel
theorem dd_Txt_put_35 : decode prog_6_method_5_code 35 = .ok (.iload_n 1, 1) := by decide +kernel
theorem dd_Txt_put_36 : decode prog_6_method_5_code 36 = .ok (.isub, 1) := by decide +kernel
theorem dd_Txt_put_37 : decode prog_6_method_5_code 37 = .ok (.invokestatic 59, 3) := by decide +kernel
theorem dd_Txt_put_40 : decode prog_6_method_5_code 40 = .ok (.aload_n 0, 1) := by decide +kernel
theorem dd_Txt_put_41 : decode prog_6_method_5_code 41 = .ok (.getfield 14, 3) := by decide +kernel
theorem dd_Txt_put_44 : decode prog_6_method_5_code 44 = .ok (.getfield 38, 3) := by decide +kernel
theorem dd_Txt_put_47 : decode prog_6_method_5_code 47 = .ok (.iload_n 1, 1) := by decide +kernel
theorem dd_Txt_put_48 : decode prog_6_method_5_code 48 = .ok (.iload_n 2, 1) := by decide +kernel
theorem dd_Txt_put_49 : decode prog_6_method_5_code 49 = .ok (.iastore, 1) := by decide +kernel
theorem dd_Txt_put_50 : decode prog_6_method_5_code 50 = .ok (.aload_n 0, 1) := by decide +kernel
theorem dd_Txt_put_51 : decode prog_6_method_5_code 51 = .ok (.aload_n 0, 1) := by decide +kernel
theorem dd_Txt_put_52 : decode prog_6_method_5_code 52 = .ok (.getfield 35, 3) := by decide +kernel
theorem dd_Txt_put_55 : decode prog_6_method_5_code 55 = .ok (.iconst 1, 1) := by decide +kernel
theorem dd_Txt_put_56 : decode prog_6_method_5_code 56 = .ok (.iadd, 1) := by decide +kernel
theorem dd_Txt_put_57 : decode prog_6_method_5_code 57 = .ok (.invokevirtual 65, 3) := by decide +kernel
theorem dd_Txt_put_60 : decode prog_6_method_5_code 60 = .ok (.ireturn, 1) := by decide +kernel
theorem dd_Txt_changedTo_0 : decode prog_6_method_9_code 0 = .ok (.aload_n 0, 1) := by decide +kernel
theorem dd_Txt_changedTo_1 : decode prog_6_method_9_code 1 = .ok (.iload_n 1, 1) := by decide +kernel
theorem dd_Txt_changedTo_2 : decode prog_6_method_9_code 2 = .ok (.putfield 35, 3) := by decide +kernel
theorem dd_Txt_changedTo_5 : decode prog_6_method_9_code 5 = .ok (.aload_n 0, 1) := by decide +kernel
theorem dd_Txt_changedTo_6 : decode prog_6_method_9_code 6 = .ok (.invokevirtual 70, 3) := by decide +kernel
theorem dd_Txt_changedTo_9 : decode prog_6_method_9_code 9 = .ok (.aload_n 0, 1) := by decide +kernel
theorem dd_Txt_changedTo_10 : decode prog_6_method_9_code 10 = .ok (.getfield 35, 3) := by decide +kernel
theorem dd_Txt_changedTo_13 : decode prog_6_method_9_code 13 = .ok (.ireturn, 1) := by decide +kernel
theorem dd_Cb_fill_0 : decode prog_1_method_5_code 0 = .ok (.iload_n 1, 1) := by decide +kernel
theorem dd_Cb_fill_1 : decode prog_1_method_5_code 1 = .ok (.invokestatic 45, 3) := by decide +kernel
theorem dd_Cb_fill_4 : decode prog_1_method_5_code 4 = .ok (.ifCond .eq 29, 3) := by decide +kernel
theorem dd_Cb_fill_7 : decode prog_1_method_5_code 7 = .ok (.iload_n 2, 1) := by decide +kernel
theorem dd_Cb_fill_8 : decode prog_1_method_5_code 8 = .ok (.iconst 1, 1) := by decide +kernel
theorem dd_Cb_fill_9 : decode prog_1_method_5_code 9 = .ok (.if_icmp .lt 24, 3) := by decide +kernel
theorem dd_Cb_fill_12 : decode prog_1_method_5_code 12 = .ok (.iload_n 2, 1) := by decide +kernel
theorem dd_Cb_fill_13 : decode prog_1_method_5_code 13 = .ok (.sipush 400, 3) := by decide +kernel
theorem dd_Cb_fill_16 : decode prog_1_method_5_code 16 = .ok (.if_icmp .gt 17, 3) := by decide +kernel
theorem dd_Cb_fill_19 : decode prog_1_method_5_code 19 = .ok (.iload 4, 2) := by decide +kernel
theorem dd_Cb_fill_21 : decode prog_1_method_5_code 21 = .ok (.iconst 1, 1) := by decide +kernel
theorem dd_Cb_fill_22 : decode prog_1_method_5_code 22 = .ok (.if_icmp .lt 11, 3) := by decide +kernel
theorem dd_Cb_fill_25 : decode prog_1_method_5_code 25 = .ok (.iload 4, 2) := by decide +kernel
theorem dd_Cb_fill_27 : decode prog_1_method_5_code 27 = .ok (.sipush 256, 3) := by decide +kernel
theorem dd_Cb_fill_30 : decode prog_1_method_5_code 30 = .ok (.if_icmp .le 5, 3) := by decide +kernel
theorem dd_Cb_fill_33 : decode prog_1_method_5_code 33 = .ok (.iconst (-1), 1) := by decide +kernel
theorem dd_Cb_fill_34 : decode prog_1_method_5_code 34 = .ok (.ireturn, 1) := by decide +kernel
theorem dd_Cb_fill_35 : decode prog_1_method_5_code 35 = .ok (.aload_n 0, 1) := by decide +kernel
theorem dd_Cb_fill_36 : decode prog_1_method_5_code 36 = .ok (.getfield 18, 3) := by decide +kernel
theorem dd_Cb_fill_39 : decode prog_1_method_5_code 39 = .ok (.iload_n 1, 1) := by decide +kernel
theorem dd_Cb_fill_40 : decode prog_1_method_5_code 40 = .ok (.aaload, 1) := by decide +kernel
theorem dd_Cb_fill_41 : decode prog_1_method_5_code 41 = .ok (.iload_n 2, 1) := by decide +kernel
theorem dd_Cb_fill_42 : decode prog_1_method_5_code 42 = .ok (.iload_n 3, 1) := by decide +kernel
theorem dd_Cb_fill_43 : decode prog_1_method_5_code 43 = .ok (.iload 4, 2) := by decide +kernel
theorem dd_Cb_fill_45 : decode prog_1_method_5_code 45 = .ok (.invokevirtual 60, 3) := by decide +kernel
theorem dd_Cb_fill_48 : decode prog_1_method_5_code 48 = .ok (.ireturn, 1) := by decide +kernel
theorem dd_Txt_sow_0 : decode prog_6_method_6_code 0 = .ok (.iload_n 1, 1) := by decide +kernel
theorem dd_Txt_sow_1 : decode prog_6_method_6_code 1 = .ok (.sipush 1500, 3) := by decide +kernel
theorem dd_Txt_sow_4 : decode prog_6_method_6_code 4 = .ok (.aload_n 0, 1) := by decide +kernel
theorem dd_Txt_sow_5 : decode prog_6_method_6_code 5 = .ok (.getfield 35, 3) := by decide +kernel
theorem dd_Txt_sow_8 : decode prog_6_method_6_code 8 = .ok (.isub, 1) := by decide +kernel
theorem dd_Txt_sow_9 : decode prog_6_method_6_code 9 = .ok (.if_icmp .le 6, 3) := by decide +kernel
theorem dd_Txt_sow_12 : decode prog_6_method_6_code 12 = .ok (.bipush (-2), 2) := by decide +kernel
theorem dd_Txt_sow_14 : decode prog_6_method_6_code 14 = .ok (.ireturn, 1) := by decide +kernel
theorem dd_Txt_sow_15 : decode prog_6_method_6_code 15 = .ok (.iload_n 2, 1) := by decide +kernel
theorem dd_Txt_sow_16 : decode prog_6_method_6_code 16 = .ok (.istore 4, 2) := by decide +kernel
theorem dd_Txt_sow_18 : decode prog_6_method_6_code 18 = .ok (.iconst 0, 1) := by decide +kernel
theorem dd_Txt_sow_19 : decode prog_6_method_6_code 19 = .ok (.istore 5, 2) := by decide +kernel
theorem dd_Txt_sow_21 : decode prog_6_method_6_code 21 = .ok (.iload 5, 2) := by decide +kernel
theorem dd_Txt_sow_23 : decode prog_6_method_6_code 23 = .ok (.iload_n 1, 1) := by decide +kernel
theorem dd_Txt_sow_24 : decode prog_6_method_6_code 24 = .ok (.if_icmp .ge 42, 3) := by decide +kernel
theorem dd_Txt_sow_27 : decode prog_6_method_6_code 27 = .ok (.iload 4, 2) := by decide +kernel
theorem dd_Txt_sow_29 : decode prog_6_method_6_code 29 = .ok (.ldc 69, 2) := by decide +kernel
theorem dd_Txt_sow_31 : decode prog_6_method_6_code 31 = .ok (.imul, 1) := by decide +kernel
theorem dd_Txt_sow_32 : decode prog_6_method_6_code 32 = .ok (.sipush 12345, 3) := by decide +kernel
theorem dd_Txt_sow_35 : decode prog_6_method_6_code 35 = .ok (.iadd, 1) := by decide +kernel
theorem dd_Txt_sow_36 : decode prog_6_method_6_code 36 = .ok (.istore 4, 2) := by decide +kernel
theorem dd_Txt_sow_38 : decode prog_6_method_6_code 38 = .ok (.aload_n 0, 1) := by decide +kernel
theorem dd_Txt_sow_39 : decode prog_6_method_6_code 39 = .ok (.getfield 14, 3) := by decide +kernel
theorem dd_Txt_sow_42 : decode prog_6_method_6_code 42 = .ok (.getfield 38, 3) := by decide +kernel
theorem dd_Txt_sow_45 : decode prog_6_method_6_code 45 = .ok (.aload_n 0, 1) := by decide +kernel
theorem dd_Txt_sow_46 : decode prog_6_method_6_code 46 = .ok (.getfield 35, 3) := by decide +kernel
theorem dd_Txt_sow_49 : decode prog_6_method_6_code 49 = .ok (.iload 5, 2) := by decide +kernel
theorem dd_Txt_sow_51 : decode prog_6_method_6_code 51 = .ok (.iadd, 1) := by decide +kernel
theorem dd_Txt_sow_52 : decode prog_6_method_6_code 52 = .ok (.iload 4, 2) := by decide +kernel
theorem dd_Txt_sow_54 : decode prog_6_method_6_code 54 = .ok (.bipush 16, 2) := by decide +kernel
theorem dd_Txt_sow_56 : decode prog_6_method_6_code 56 = .ok (.iushr, 1) := by decide +kernel
theorem dd_Txt_sow_57 : decode prog_6_method_6_code 57 = .ok (.iload_n 3, 1) := by decide +kernel
theorem dd_Txt_sow_58 : decode prog_6_method_6_code 58 = .ok (.irem, 1) := by decide +kernel
theorem dd_Txt_sow_59 : decode prog_6_method_6_code 59 = .ok (.iastore, 1) := by decide +kernel
theorem dd_Txt_sow_60 : decode prog_6_method_6_code 60 = .ok (.iinc 5 1, 3) := by decide +kernel
theorem dd_Txt_sow_63 : decode prog_6_method_6_code 63 = .ok (.goto (-42), 3) := by decide +kernel
theorem dd_Txt_sow_66 : decode prog_6_method_6_code 66 = .ok (.aload_n 0, 1) := by decide +kernel
theorem dd_Txt_sow_67 : decode prog_6_method_6_code 67 = .ok (.aload_n 0, 1) := by decide +kernel
theorem dd_Txt_sow_68 : decode prog_6_method_6_code 68 = .ok (.getfield 35, 3) := by decide +kernel
theorem dd_Txt_sow_71 : decode prog_6_method_6_code 71 = .ok (.iload_n 1, 1) := by decide +kernel
theorem dd_Txt_sow_72 : decode prog_6_method_6_code 72 = .ok (.iadd, 1) := by decide +kernel
theorem dd_Txt_sow_73 : decode prog_6_method_6_code 73 = .ok (.invokevirtual 65, 3) := by decide +kernel
theorem dd_Txt_sow_76 : decode prog_6_method_6_code 76 = .ok (.ireturn, 1) := by decide +kernel
theorem dd_Cb_insert_0 : decode prog_1_method_6_code 0 = .ok (.iload_n 1, 1) := by decide +kernel
theorem dd_Cb_insert_1 : decode prog_1_method_6_code 1 = .ok (.invokestatic 45, 3) := by decide +kernel
theorem dd_Cb_insert_4 : decode prog_1_method_6_code 4 = .ok (.ifCond .eq 27, 3) := by decide +kernel
theorem dd_Cb_insert_7 : decode prog_1_method_6_code 7 = .ok (.iload_n 2, 1) := by decide +kernel
theorem dd_Cb_insert_8 : decode prog_1_method_6_code 8 = .ok (.ifCond .lt 23, 3) := by decide +kernel
theorem dd_Cb_insert_11 : decode prog_1_method_6_code 11 = .ok (.iload_n 2, 1) := by decide +kernel
theorem dd_Cb_insert_12 : decode prog_1_method_6_code 12 = .ok (.aload_n 0, 1) := by decide +kernel
theorem dd_Cb_insert_13 : decode prog_1_method_6_code 13 = .ok (.getfield 18, 3) := by decide +kernel
theorem dd_Cb_insert_16 : decode prog_1_method_6_code 16 = .ok (.iload_n 1, 1) := by decide +kernel
theorem dd_Cb_insert_17 : decode prog_1_method_6_code 17 = .ok (.aaload, 1) := by decide +kernel
theorem dd_Cb_insert_18 : decode prog_1_method_6_code 18 = .ok (.getfield 52, 3) := by decide +kernel
theorem dd_Cb_insert_21 : decode prog_1_method_6_code 21 = .ok (.if_icmp .gt 10, 3) := by decide +kernel
theorem dd_Cb_insert_24 : decode prog_1_method_6_code 24 = .ok (.iload_n 3, 1) := by decide +kernel
theorem dd_Cb_insert_25 : decode prog_1_method_6_code 25 = .ok (.invokestatic 49, 3) := by decide +kernel
theorem dd_Cb_insert_28 : decode prog_1_method_6_code 28 = .ok (.ifCond .ne 5, 3) := by decide +kernel
theorem dd_Cb_insert_31 : decode prog_1_method_6_code 31 = .ok (.iconst (-1), 1) := by decide +kernel
theorem dd_Cb_insert_32 : decode prog_1_method_6_code 32 = .ok (.ireturn, 1) := by decide +kernel
theorem dd_Cb_insert_33 : decode prog_1_method_6_code 33 = .ok (.aload_n 0, 1) := by decide +kernel
theorem dd_Cb_insert_34 : decode prog_1_method_6_code 34 = .ok (.getfield 18, 3) := by decide +kernel
theorem dd_Cb_insert_37 : decode prog_1_method_6_code 37 = .ok (.iload_n 1, 1) := by decide +kernel
theorem dd_Cb_insert_38 : decode prog_1_method_6_code 38 = .ok (.aaload, 1) := by decide +kernel
theorem dd_Cb_insert_39 : decode prog_1_method_6_code 39 = .ok (.iload_n 2, 1) := by decide +kernel
theorem dd_Cb_insert_40 : decode prog_1_method_6_code 40 = .ok (.iload_n 3, 1) := by decide +kernel
theorem dd_Cb_insert_41 : decode prog_1_method_6_code 41 = .ok (.invokevirtual 56, 3) := by decide +kernel
theorem dd_Cb_insert_44 : decode prog_1_method_6_code 44 = .ok (.ireturn, 1) := by decide +kernel
theorem dd_Cb_remove_0 : decode prog_1_method_7_code 0 = .ok (.iload_n 1, 1) := by decide +kernel
theorem dd_Cb_remove_1 : decode prog_1_method_7_code 1 = .ok (.invokestatic 45, 3) := by decide +kernel
theorem dd_Cb_remove_4 : decode prog_1_method_7_code 4 = .ok (.ifCond .eq 20, 3) := by decide +kernel
theorem dd_Cb_remove_7 : decode prog_1_method_7_code 7 = .ok (.iload_n 2, 1) := by decide +kernel
theorem dd_Cb_remove_8 : decode prog_1_method_7_code 8 = .ok (.ifCond .lt 16, 3) := by decide +kernel
theorem dd_Cb_remove_11 : decode prog_1_method_7_code 11 = .ok (.iload_n 2, 1) := by decide +kernel
theorem dd_Cb_remove_12 : decode prog_1_method_7_code 12 = .ok (.aload_n 0, 1) := by decide +kernel
theorem dd_Cb_remove_13 : decode prog_1_method_7_code 13 = .ok (.getfield 18, 3) := by decide +kernel
theorem dd_Cb_remove_16 : decode prog_1_method_7_code 16 = .ok (.iload_n 1, 1) := by decide +kernel
theorem dd_Cb_remove_17 : decode prog_1_method_7_code 17 = .ok (.aaload, 1) := by decide +kernel
theorem dd_Cb_remove_18 : decode prog_1_method_7_code 18 = .ok (.getfield 52, 3) := by decide +kernel
theorem dd_Cb_remove_21 : decode prog_1_method_7_code 21 = .ok (.if_icmp .le 5, 3) := by decide +kernel
theorem dd_Cb_remove_24 : decode prog_1_method_7_code 24 = .ok (.iconst (-1), 1) := by decide +kernel
theorem dd_Cb_remove_25 : decode prog_1_method_7_code 25 = .ok (.ireturn, 1) := by decide +kernel
theorem dd_Cb_remove_26 : decode prog_1_method_7_code 26 = .ok (.iload_n 3, 1) := by decide +kernel
theorem dd_Cb_remove_27 : decode prog_1_method_7_code 27 = .ok (.ifCond .lt 18, 3) := by decide +kernel
theorem dd_Cb_remove_30 : decode prog_1_method_7_code 30 = .ok (.iload_n 3, 1) := by decide +kernel
theorem dd_Cb_remove_31 : decode prog_1_method_7_code 31 = .ok (.aload_n 0, 1) := by decide +kernel
theorem dd_Cb_remove_32 : decode prog_1_method_7_code 32 = .ok (.getfield 18, 3) := by decide +kernel
theorem dd_Cb_remove_35 : decode prog_1_method_7_code 35 = .ok (.iload_n 1, 1) := by decide +kernel
theorem dd_Cb_remove_36 : decode prog_1_method_7_code 36 = .ok (.aaload, 1) := by decide +kernel
theorem dd_Cb_remove_37 : decode prog_1_method_7_code 37 = .ok (.getfield 52, 3) := by decide +kernel
theorem dd_Cb_remove_40 : decode prog_1_method_7_code 40 = .ok (.iload_n 2, 1) := by decide +kernel
theorem dd_Cb_remove_41 : decode prog_1_method_7_code 41 = .ok (.isub, 1) := by decide +kernel
theorem dd_Cb_remove_42 : decode prog_1_method_7_code 42 = .ok (.if_icmp .le 5, 3) := by decide +kernel
theorem dd_Cb_remove_45 : decode prog_1_method_7_code 45 = .ok (.iconst (-1), 1) := by decide +kernel
theorem dd_Cb_remove_46 : decode prog_1_method_7_code 46 = .ok (.ireturn, 1) := by decide +kernel
theorem dd_Cb_remove_47 : decode prog_1_method_7_code 47 = .ok (.aload_n 0, 1) := by decide +kernel
theorem dd_Cb_remove_48 : decode prog_1_method_7_code 48 = .ok (.getfield 18, 3) := by decide +kernel
theorem dd_Cb_remove_51 : decode prog_1_method_7_code 51 = .ok (.iload_n 1, 1) := by decide +kernel
theorem dd_Cb_remove_52 : decode prog_1_method_7_code 52 = .ok (.aaload, 1) := by decide +kernel
theorem dd_Cb_remove_53 : decode prog_1_method_7_code 53 = .ok (.iload_n 2, 1) := by decide +kernel
theorem dd_Cb_remove_54 : decode prog_1_method_7_code 54 = .ok (.iload_n 3, 1) := by decide +kernel
theorem dd_Cb_remove_55 : decode prog_1_method_7_code 55 = .ok (.invokevirtual 63, 3) := by decide +kernel
theorem dd_Cb_remove_58 : decode prog_1_method_7_code 58 = .ok (.ireturn, 1) := by decide +kernel
theorem dd_Txt_take_0 : decode prog_6_method_7_code 0 = .ok (.aload_n 0, 1) := by decide +kernel
theorem dd_Txt_take_1 : decode prog_6_method_7_code 1 = .ok (.getfield 14, 3) := by decide +kernel
theorem dd_Txt_take_4 : decode prog_6_method_7_code 4 = .ok (.getfield 38, 3) := by decide +kernel
theorem dd_Txt_take_7 : decode prog_6_method_7_code 7 = .ok (.iload_n 1, 1) := by decide +kernel
theorem dd_Txt_take_8 : decode prog_6_method_7_code 8 = .ok (.iload_n 2, 1) := by decide +kernel
theorem dd_Txt_take_9 : decode prog_6_method_7_code 9 = .ok (.iadd, 1) := by decide +kernel
theorem dd_Txt_take_10 : decode prog_6_method_7_code 10 = .ok (.aload_n 0, 1) := by decide +kernel
theorem dd_Txt_take_11 : decode prog_6_method_7_code 11 = .ok (.getfield 14, 3) := by decide +kernel
theorem dd_Txt_take_14 : decode prog_6_method_7_code 14 = .ok (.getfield 38, 3) := by decide +kernel
theorem dd_Txt_take_17 : decode prog_6_method_7_code 17 = .ok (.iload_n 1, 1) := by decide +kernel
theorem dd_Txt_take_18 : decode prog_6_method_7_code 18 = .ok (.aload_n 0, 1) := by decide +kernel
theorem dd_Txt_take_19 : decode prog_6_method_7_code 19 = .ok (.getfield 35, 3) := by decide +kernel
theorem dd_Txt_take_22 : decode prog_6_method_7_code 22 = .ok (.iload_n 1, 1) := by decide +kernel
theorem dd_Txt_take_23 : decode prog_6_method_7_code 23 = .ok (.isub, 1) := by decide +kernel
theorem dd_Txt_take_24 : decode prog_6_method_7_code 24 = .ok (.iload_n 2, 1) := by decide +kernel
theorem dd_Txt_take_25 : decode prog_6_method_7_code 25 = .ok (.isub, 1) := by decide +kernel
theorem dd_Txt_take_26 : decode prog_6_method_7_code 26 = .ok (.invokestatic 59, 3) := by decide +kernel
theorem dd_Txt_take_29 : decode prog_6_method_7_code 29 = .ok (.aload_n 0, 1) := by decide +kernel
theorem dd_Txt_take_30 : decode prog_6_method_7_code 30 = .ok (.aload_n 0, 1) := by decide +kernel
theorem dd_Txt_take_31 : decode prog_6_method_7_code 31 = .ok (.getfield 35, 3) := by decide +kernel
theorem dd_Txt_take_34 : decode prog_6_method_7_code 34 = .ok (.iload_n 2, 1) := by decide +kernel
theorem dd_Txt_take_35 : decode prog_6_method_7_code 35 = .ok (.isub, 1) := by decide +kernel
theorem dd_Txt_take_36 : decode prog_6_method_7_code 36 = .ok (.invokevirtual 65, 3) := by decide +kernel
theorem dd_Txt_take_39 : decode prog_6_method_7_code 39 = .ok (.ireturn, 1) := by decide +kernel
theorem dd_Cb_copy_0 : decode prog_1_method_8_code 0 = .ok (.iload_n 1, 1) := by decide +kernel
theorem dd_Cb_copy_1 : decode prog_1_method_8_code 1 = .ok (.invokestatic 45, 3) := by decide +kernel
theorem dd_Cb_copy_4 : decode prog_1_method_8_code 4 = .ok (.ifCond .eq 10, 3) := by decide +kernel
theorem dd_Cb_copy_7 : decode prog_1_method_8_code 7 = .ok (.iload_n 2, 1) := by decide +kernel
theorem dd_Cb_copy_8 : decode prog_1_method_8_code 8 = .ok (.invokestatic 45, 3) := by decide +kernel
theorem dd_Cb_copy_11 : decode prog_1_method_8_code 11 = .ok (.ifCond .ne 5, 3) := by decide +kernel
theorem dd_Cb_copy_14 : decode prog_1_method_8_code 14 = .ok (.iconst (-1), 1) := by decide +kernel
theorem dd_Cb_copy_15 : decode prog_1_method_8_code 15 = .ok (.ireturn, 1) := by decide +kernel
theorem dd_Cb_copy_16 : decode prog_1_method_8_code 16 = .ok (.aload_n 0, 1) := by decide +kernel
theorem dd_Cb_copy_17 : decode prog_1_method_8_code 17 = .ok (.getfield 18, 3) := by decide +kernel
theorem dd_Cb_copy_20 : decode prog_1_method_8_code 20 = .ok (.iload_n 1, 1) := by decide +kernel
theorem dd_Cb_copy_21 : decode prog_1_method_8_code 21 = .ok (.aaload, 1) := by decide +kernel
theorem dd_Cb_copy_22 : decode prog_1_method_8_code 22 = .ok (.aload_n 0, 1) := by decide +kernel
theorem dd_Cb_copy_23 : decode prog_1_method_8_code 23 = .ok (.getfield 18, 3) := by decide +kernel
theorem dd_Cb_copy_26 : decode prog_1_method_8_code 26 = .ok (.iload_n 2, 1) := by decide +kernel
theorem dd_Cb_copy_27 : decode prog_1_method_8_code 27 = .ok (.aaload, 1) := by decide +kernel
theorem dd_Cb_copy_28 : decode prog_1_method_8_code 28 = .ok (.invokevirtual 65, 3) := by decide +kernel
theorem dd_Cb_copy_31 : decode prog_1_method_8_code 31 = .ok (.ireturn, 1) := by decide +kernel
theorem dd_Txt_become_0 : decode prog_6_method_8_code 0 = .ok (.aload_n 1, 1) := by decide +kernel
theorem dd_Txt_become_1 : decode prog_6_method_8_code 1 = .ok (.getfield 14, 3) := by decide +kernel
theorem dd_Txt_become_4 : decode prog_6_method_8_code 4 = .ok (.getfield 38, 3) := by decide +kernel
theorem dd_Txt_become_7 : decode prog_6_method_8_code 7 = .ok (.iconst 0, 1) := by decide +kernel
theorem dd_Txt_become_8 : decode prog_6_method_8_code 8 = .ok (.aload_n 0, 1) := by decide +kernel
theorem dd_Txt_become_9 : decode prog_6_method_8_code 9 = .ok (.getfield 14, 3) := by decide +kernel
theorem dd_Txt_become_12 : decode prog_6_method_8_code 12 = .ok (.getfield 38, 3) := by decide +kernel
theorem dd_Txt_become_15 : decode prog_6_method_8_code 15 = .ok (.iconst 0, 1) := by decide +kernel
theorem dd_Txt_become_16 : decode prog_6_method_8_code 16 = .ok (.aload_n 1, 1) := by decide +kernel
theorem dd_Txt_become_17 : decode prog_6_method_8_code 17 = .ok (.getfield 35, 3) := by decide +kernel
theorem dd_Txt_become_20 : decode prog_6_method_8_code 20 = .ok (.invokestatic 59, 3) := by decide +kernel
theorem dd_Txt_become_23 : decode prog_6_method_8_code 23 = .ok (.aload_n 0, 1) := by decide +kernel
theorem dd_Txt_become_24 : decode prog_6_method_8_code 24 = .ok (.aload_n 1, 1) := by decide +kernel
theorem dd_Txt_become_25 : decode prog_6_method_8_code 25 = .ok (.getfield 35, 3) := by decide +kernel
theorem dd_Txt_become_28 : decode prog_6_method_8_code 28 = .ok (.invokevirtual 65, 3) := by decide +kernel
theorem dd_Txt_become_31 : decode prog_6_method_8_code 31 = .ok (.ireturn, 1) := by decide +kernel
theorem dd_Cb_size_0 : decode prog_1_method_9_code 0 = .ok (.iload_n 1, 1) := by decide +kernel
theorem dd_Cb_size_1 : decode prog_1_method_9_code 1 = .ok (.invokestatic 45, 3) := by decide +kernel
theorem dd_Cb_size_4 : decode prog_1_method_9_code 4 = .ok (.ifCond .eq 15, 3) := by decide +kernel
theorem dd_Cb_size_7 : decode prog_1_method_9_code 7 = .ok (.aload_n 0, 1) := by decide +kernel
theorem dd_Cb_size_8 : decode prog_1_method_9_code 8 = .ok (.getfield 18, 3) := by decide +kernel
theorem dd_Cb_size_11 : decode prog_1_method_9_code 11 = .ok (.iload_n 1, 1) := by decide +kernel
theorem dd_Cb_size_12 : decode prog_1_method_9_code 12 = .ok (.aaload, 1) := by decide +kernel
theorem dd_Cb_size_13 : decode prog_1_method_9_code 13 = .ok (.getfield 52, 3) := by decide +kernel
theorem dd_Cb_size_16 : decode prog_1_method_9_code 16 = .ok (.goto 4, 3) := by decide +kernel
theorem dd_Cb_size_19 : decode prog_1_method_9_code 19 = .ok (.iconst (-1), 1) := by decide +kernel
theorem dd_Cb_size_20 : decode prog_1_method_9_code 20 = .ok (.ireturn, 1) := by decide +kernel
theorem dd_Cb_byteAt_0 : decode prog_1_method_10_code 0 = .ok (.aload_n 0, 1) := by decide +kernel
theorem dd_Cb_byteAt_1 : decode prog_1_method_10_code 1 = .ok (.iload_n 1, 1) := by decide +kernel
theorem dd_Cb_byteAt_2 : decode prog_1_method_10_code 2 = .ok (.iload_n 2, 1) := by decide +kernel
theorem dd_Cb_byteAt_3 : decode prog_1_method_10_code 3 = .ok (.invokevirtual 69, 3) := by decide +kernel
theorem dd_Cb_byteAt_6 : decode prog_1_method_10_code 6 = .ok (.ifCond .eq 20, 3) := by decide +kernel
theorem dd_Cb_byteAt_9 : decode prog_1_method_10_code 9 = .ok (.aload_n 0, 1) := by decide +kernel
theorem dd_Cb_byteAt_10 : decode prog_1_method_10_code 10 = .ok (.getfield 18, 3) := by decide +kernel
theorem dd_Cb_byteAt_13 : decode prog_1_method_10_code 13 = .ok (.iload_n 1, 1) := by decide +kernel
theorem dd_Cb_byteAt_14 : decode prog_1_method_10_code 14 = .ok (.aaload, 1) := by decide +kernel
theorem dd_Cb_byteAt_15 : decode prog_1_method_10_code 15 = .ok (.getfield 73, 3) := by decide +kernel
theorem dd_Cb_byteAt_18 : decode prog_1_method_10_code 18 = .ok (.getfield 77, 3) := by decide +kernel
theorem dd_Cb_byteAt_21 : decode prog_1_method_10_code 21 = .ok (.iload_n 2, 1) := by decide +kernel
theorem dd_Cb_byteAt_22 : decode prog_1_method_10_code 22 = .ok (.iaload, 1) := by decide +kernel
theorem dd_Cb_byteAt_23 : decode prog_1_method_10_code 23 = .ok (.goto 4, 3) := by decide +kernel
theorem dd_Cb_byteAt_26 : decode prog_1_method_10_code 26 = .ok (.iconst (-1), 1) := by decide +kernel
theorem dd_Cb_byteAt_27 : decode prog_1_method_10_code 27 = .ok (.ireturn, 1) := by decide +kernel
theorem dd_Cb_hasByte_0 : decode prog_1_method_24_code 0 = .ok (.iload_n 1, 1) := by decide +kernel
theorem dd_Cb_hasByte_1 : decode prog_1_method_24_code 1 = .ok (.invokestatic 45, 3) := by decide +kernel
theorem dd_Cb_hasByte_4 : decode prog_1_method_24_code 4 = .ok (.ifCond .eq 24, 3) := by decide +kernel
theorem dd_Cb_hasByte_7 : decode prog_1_method_24_code 7 = .ok (.iload_n 2, 1) := by decide +kernel
theorem dd_Cb_hasByte_8 : decode prog_1_method_24_code 8 = .ok (.ifCond .lt 20, 3) := by decide +kernel
theorem dd_Cb_hasByte_11 : decode prog_1_method_24_code 11 = .ok (.iload_n 2, 1) := by decide +kernel
theorem dd_Cb_hasByte_12 : decode prog_1_method_24_code 12 = .ok (.aload_n 0, 1) := by decide +kernel
theorem dd_Cb_hasByte_13 : decode prog_1_method_24_code 13 = .ok (.getfield 18, 3) := by decide +kernel
theorem dd_Cb_hasByte_16 : decode prog_1_method_24_code 16 = .ok (.iload_n 1, 1) := by decide +kernel
theorem dd_Cb_hasByte_17 : decode prog_1_method_24_code 17 = .ok (.aaload, 1) := by decide +kernel
theorem dd_Cb_hasByte_18 : decode prog_1_method_24_code 18 = .ok (.getfield 52, 3) := by decide +kernel
theorem dd_Cb_hasByte_21 : decode prog_1_method_24_code 21 = .ok (.if_icmp .ge 7, 3) := by decide +kernel
theorem dd_Cb_hasByte_24 : decode prog_1_method_24_code 24 = .ok (.iconst 1, 1) := by decide +kernel
theorem dd_Cb_hasByte_25 : decode prog_1_method_24_code 25 = .ok (.goto 4, 3) := by decide +kernel
theorem dd_Cb_hasByte_28 : decode prog_1_method_24_code 28 = .ok (.iconst 0, 1) := by decide +kernel
theorem dd_Cb_hasByte_29 : decode prog_1_method_24_code 29 = .ok (.ireturn, 1) := by decide +kernel
theorem dd_Cb_blocks_0 : decode prog_1_method_11_code 0 = .ok (.iload_n 1, 1) := by decide +kernel
theorem dd_Cb_blocks_1 : decode prog_1_method_11_code 1 = .ok (.invokestatic 45, 3) := by decide +kernel
theorem dd_Cb_blocks_4 : decode prog_1_method_11_code 4 = .ok (.ifCond .eq 14, 3) := by decide +kernel
theorem dd_Cb_blocks_7 : decode prog_1_method_11_code 7 = .ok (.aload_n 0, 1) := by decide +kernel
theorem dd_Cb_blocks_8 : decode prog_1_method_11_code 8 = .ok (.iload_n 1, 1) := by decide +kernel
theorem dd_Cb_blocks_9 : decode prog_1_method_11_code 9 = .ok (.invokevirtual 83, 3) := by decide +kernel
theorem dd_Cb_blocks_12 : decode prog_1_method_11_code 12 = .ok (.getfield 87, 3) := by decide +kernel
theorem dd_Cb_blocks_15 : decode prog_1_method_11_code 15 = .ok (.goto 4, 3) := by decide +kernel
theorem dd_Cb_blocks_18 : decode prog_1_method_11_code 18 = .ok (.iconst (-1), 1) := by decide +kernel
theorem dd_Cb_blocks_19 : decode prog_1_method_11_code 19 = .ok (.ireturn, 1) := by decide +kernel
theorem dd_Cb_cutRow_0 : decode prog_1_method_27_code 0 = .ok (.aload_n 0, 1) := by decide +kernel
theorem dd_Cb_cutRow_1 : decode prog_1_method_27_code 1 = .ok (.getfield 18, 3) := by decide +kernel
theorem dd_Cb_cutRow_4 : decode prog_1_method_27_code 4 = .ok (.iload_n 1, 1) := by decide +kernel
theorem dd_Cb_cutRow_5 : decode prog_1_method_27_code 5 = .ok (.aaload, 1) := by decide +kernel
theorem dd_Cb_cutRow_6 : decode prog_1_method_27_code 6 = .ok (.aload_n 0, 1) := by decide +kernel
theorem dd_Cb_cutRow_7 : decode prog_1_method_27_code 7 = .ok (.getfield 10, 3) := by decide +kernel
theorem dd_Cb_cutRow_10 : decode prog_1_method_27_code 10 = .ok (.invokevirtual 179, 3) := by decide +kernel
theorem dd_Cb_cutRow_13 : decode prog_1_method_27_code 13 = .ok (.aload_n 0, 1) := by decide +kernel
theorem dd_Cb_cutRow_14 : decode prog_1_method_27_code 14 = .ok (.getfield 18, 3) := by decide +kernel
theorem dd_Cb_cutRow_17 : decode prog_1_method_27_code 17 = .ok (.iload_n 1, 1) := by decide +kernel
theorem dd_Cb_cutRow_18 : decode prog_1_method_27_code 18 = .ok (.aaload, 1) := by decide +kernel
theorem dd_Cb_cutRow_19 : decode prog_1_method_27_code 19 = .ok (.getfield 73, 3) := by decide +kernel
theorem dd_Cb_cutRow_22 : decode prog_1_method_27_code 22 = .ok (.areturn, 1) := by decide +kernel
theorem dd_Txt_cutBy_0 : decode prog_6_method_3_code 0 = .ok (.aload_n 0, 1) := by decide +kernel
theorem dd_Txt_cutBy_1 : decode prog_6_method_3_code 1 = .ok (.getfield 20, 3) := by decide +kernel
theorem dd_Txt_cutBy_4 : decode prog_6_method_3_code 4 = .ok (.ifCond .eq 4, 3) := by decide +kernel
theorem dd_Txt_cutBy_7 : decode prog_6_method_3_code 7 = .ok (.return_, 1) := by decide +kernel
theorem dd_Txt_cutBy_8 : decode prog_6_method_3_code 8 = .ok (.aload_n 0, 1) := by decide +kernel
theorem dd_Txt_cutBy_9 : decode prog_6_method_3_code 9 = .ok (.getfield 14, 3) := by decide +kernel
theorem dd_Txt_cutBy_12 : decode prog_6_method_3_code 12 = .ok (.iconst 0, 1) := by decide +kernel
theorem dd_Txt_cutBy_13 : decode prog_6_method_3_code 13 = .ok (.putfield 27, 3) := by decide +kernel
theorem dd_Txt_cutBy_16 : decode prog_6_method_3_code 16 = .ok (.iconst 0, 1) := by decide +kernel
theorem dd_Txt_cutBy_17 : decode prog_6_method_3_code 17 = .ok (.istore_n 2, 1) := by decide +kernel
theorem dd_Txt_cutBy_18 : decode prog_6_method_3_code 18 = .ok (.iload_n 2, 1) := by decide +kernel
theorem dd_Txt_cutBy_19 : decode prog_6_method_3_code 19 = .ok (.sipush 1500, 3) := by decide +kernel
theorem dd_Txt_cutBy_22 : decode prog_6_method_3_code 22 = .ok (.if_icmp .ge 52, 3) := by decide +kernel
theorem dd_Txt_cutBy_25 : decode prog_6_method_3_code 25 = .ok (.aload_n 0, 1) := by decide +kernel
theorem dd_Txt_cutBy_26 : decode prog_6_method_3_code 26 = .ok (.getfield 14, 3) := by decide +kernel
theorem dd_Txt_cutBy_29 : decode prog_6_method_3_code 29 = .ok (.invokevirtual 31, 3) := by decide +kernel
theorem dd_Txt_cutBy_32 : decode prog_6_method_3_code 32 = .ok (.aload_n 0, 1) := by decide +kernel
theorem dd_Txt_cutBy_33 : decode prog_6_method_3_code 33 = .ok (.getfield 35, 3) := by decide +kernel
theorem dd_Txt_cutBy_36 : decode prog_6_method_3_code 36 = .ok (.if_icmp .ge 38, 3) := by decide +kernel
theorem dd_Txt_cutBy_39 : decode prog_6_method_3_code 39 = .ok (.aload_n 0, 1) := by decide +kernel
theorem dd_Txt_cutBy_40 : decode prog_6_method_3_code 40 = .ok (.getfield 14, 3) := by decide +kernel
theorem dd_Txt_cutBy_43 : decode prog_6_method_3_code 43 = .ok (.aload_n 1, 1) := by decide +kernel
theorem dd_Txt_cutBy_44 : decode prog_6_method_3_code 44 = .ok (.aload_n 0, 1) := by decide +kernel
theorem dd_Txt_cutBy_45 : decode prog_6_method_3_code 45 = .ok (.getfield 14, 3) := by decide +kernel
theorem dd_Txt_cutBy_48 : decode prog_6_method_3_code 48 = .ok (.getfield 38, 3) := by decide +kernel
theorem dd_Txt_cutBy_51 : decode prog_6_method_3_code 51 = .ok (.aload_n 0, 1) := by decide +kernel
theorem dd_Txt_cutBy_52 : decode prog_6_method_3_code 52 = .ok (.getfield 14, 3) := by decide +kernel
theorem dd_Txt_cutBy_55 : decode prog_6_method_3_code 55 = .ok (.invokevirtual 31, 3) := by decide +kernel
theorem dd_Txt_cutBy_58 : decode prog_6_method_3_code 58 = .ok (.aload_n 0, 1) := by decide +kernel
theorem dd_Txt_cutBy_59 : decode prog_6_method_3_code 59 = .ok (.getfield 35, 3) := by decide +kernel
theorem dd_Txt_cutBy_62 : decode prog_6_method_3_code 62 = .ok (.invokevirtual 42, 3) := by decide +kernel
theorem dd_Txt_cutBy_65 : decode prog_6_method_3_code 65 = .ok (.invokevirtual 48, 3) := by decide +kernel
theorem dd_Txt_cutBy_68 : decode prog_6_method_3_code 68 = .ok (.iinc 2 1, 3) := by decide +kernel
theorem dd_Txt_cutBy_71 : decode prog_6_method_3_code 71 = .ok (.goto (-53), 3) := by decide +kernel
theorem dd_Txt_cutBy_74 : decode prog_6_method_3_code 74 = .ok (.aload_n 0, 1) := by decide +kernel
theorem dd_Txt_cutBy_75 : decode prog_6_method_3_code 75 = .ok (.iconst 1, 1) := by decide +kernel
theorem dd_Txt_cutBy_76 : decode prog_6_method_3_code 76 = .ok (.putfield 20, 3) := by decide +kernel
theorem dd_Txt_cutBy_79 : decode prog_6_method_3_code 79 = .ok (.return_, 1) := by decide +kernel
theorem dd_Row_end_0 : decode prog_2_method_2_code 0 = .ok (.aload_n 0, 1) := by decide +kernel
theorem dd_Row_end_1 : decode prog_2_method_2_code 1 = .ok (.getfield 15, 3) := by decide +kernel
theorem dd_Row_end_4 : decode prog_2_method_2_code 4 = .ok (.aload_n 0, 1) := by decide +kernel
theorem dd_Row_end_5 : decode prog_2_method_2_code 5 = .ok (.getfield 30, 3) := by decide +kernel
theorem dd_Row_end_8 : decode prog_2_method_2_code 8 = .ok (.iaload, 1) := by decide +kernel
theorem dd_Row_end_9 : decode prog_2_method_2_code 9 = .ok (.ireturn, 1) := by decide +kernel
theorem dd_Rul_endOfBlock_0 : decode prog_3_method_5_code 0 = .ok (.iconst 0, 1) := by decide +kernel
theorem dd_Rul_endOfBlock_1 : decode prog_3_method_5_code 1 = .ok (.istore 4, 2) := by decide +kernel
theorem dd_Rul_endOfBlock_3 : decode prog_3_method_5_code 3 = .ok (.iconst (-1), 1) := by decide +kernel
theorem dd_Rul_endOfBlock_4 : decode prog_3_method_5_code 4 = .ok (.istore 5, 2) := by decide +kernel
theorem dd_Rul_endOfBlock_6 : decode prog_3_method_5_code 6 = .ok (.iload_n 2, 1) := by decide +kernel
theorem dd_Rul_endOfBlock_7 : decode prog_3_method_5_code 7 = .ok (.istore 6, 2) := by decide +kernel
theorem dd_Rul_endOfBlock_9 : decode prog_3_method_5_code 9 = .ok (.iload 6, 2) := by decide +kernel
theorem dd_Rul_endOfBlock_11 : decode prog_3_method_5_code 11 = .ok (.iload_n 3, 1) := by decide +kernel
theorem dd_Rul_endOfBlock_12 : decode prog_3_method_5_code 12 = .ok (.if_icmp .ge 121, 3) := by decide +kernel
theorem dd_Rul_endOfBlock_15 : decode prog_3_method_5_code 15 = .ok (.aload_n 0, 1) := by decide +kernel
theorem dd_Rul_endOfBlock_16 : decode prog_3_method_5_code 16 = .ok (.iload 4, 2) := by decide +kernel
theorem dd_Rul_endOfBlock_18 : decode prog_3_method_5_code 18 = .ok (.aload_n 1, 1) := by decide +kernel
theorem dd_Rul_endOfBlock_19 : decode prog_3_method_5_code 19 = .ok (.iload_n 2, 1) := by decide +kernel
theorem dd_Rul_endOfBlock_20 : decode prog_3_method_5_code 20 = .ok (.iload 6, 2) := by decide +kernel
theorem dd_Rul_endOfBlock_22 : decode prog_3_method_5_code 22 = .ok (.invokevirtual 44, 3) := by decide +kernel
theorem dd_Rul_endOfBlock_25 : decode prog_3_method_5_code 25 = .ok (.istore 4, 2) := by decide +kernel
theorem dd_Rul_endOfBlock_27 : decode prog_3_method_5_code 27 = .ok (.iload 6, 2) := by decide +kernel
theorem dd_Rul_endOfBlock_29 : decode prog_3_method_5_code 29 = .ok (.iload_n 2, 1) := by decide +kernel
theorem dd_Rul_endOfBlock_30 : decode prog_3_method_5_code 30 = .ok (.isub, 1) := by decide +kernel
theorem dd_Rul_endOfBlock_31 : decode prog_3_method_5_code 31 = .ok (.iconst 1, 1) := by decide +kernel
theorem dd_Rul_endOfBlock_32 : decode prog_3_method_5_code 32 = .ok (.iadd, 1) := by decide +kernel
theorem dd_Rul_endOfBlock_33 : decode prog_3_method_5_code 33 = .ok (.istore 7, 2) := by decide +kernel
theorem dd_Rul_endOfBlock_35 : decode prog_3_method_5_code 35 = .ok (.aload_n 0, 1) := by decide +kernel
theorem dd_Rul_endOfBlock_36 : decode prog_3_method_5_code 36 = .ok (.iload 7, 2) := by decide +kernel
theorem dd_Rul_endOfBlock_38 : decode prog_3_method_5_code 38 = .ok (.invokevirtual 48, 3) := by decide +kernel
theorem dd_Rul_endOfBlock_41 : decode prog_3_method_5_code 41 = .ok (.ifCond .ne 6, 3) := by decide +kernel
theorem dd_Rul_endOfBlock_44 : decode prog_3_method_5_code 44 = .ok (.goto 83, 3) := by decide +kernel
theorem dd_Rul_endOfBlock_47 : decode prog_3_method_5_code 47 = .ok (.iload 4, 2) := by decide +kernel
theorem dd_Rul_endOfBlock_49 : decode prog_3_method_5_code 49 = .ok (.aload_n 0, 1) := by decide +kernel
theorem dd_Rul_endOfBlock_50 : decode prog_3_method_5_code 50 = .ok (.iload 7, 2) := by decide +kernel
theorem dd_Rul_endOfBlock_52 : decode prog_3_method_5_code 52 = .ok (.invokevirtual 52, 3) := by decide +kernel
theorem dd_Rul_endOfBlock_55 : decode prog_3_method_5_code 55 = .ok (.invokestatic 56, 3) := by decide +kernel
theorem dd_Rul_endOfBlock_58 : decode prog_3_method_5_code 58 = .ok (.ifCond .eq 8, 3) := by decide +kernel
theorem dd_Rul_endOfBlock_61 : decode prog_3_method_5_code 61 = .ok (.iload 6, 2) := by decide +kernel
theorem dd_Rul_endOfBlock_63 : decode prog_3_method_5_code 63 = .ok (.iconst 1, 1) := by decide +kernel
theorem dd_Rul_endOfBlock_64 : decode prog_3_method_5_code 64 = .ok (.iadd, 1) := by decide +kernel
theorem dd_Rul_endOfBlock_65 : decode prog_3_method_5_code 65 = .ok (.ireturn, 1) := by decide +kernel
theorem dd_Rul_endOfBlock_66 : decode prog_3_method_5_code 66 = .ok (.iload 7, 2) := by decide +kernel
theorem dd_Rul_endOfBlock_68 : decode prog_3_method_5_code 68 = .ok (.aload_n 0, 1) := by decide +kernel
theorem dd_Rul_endOfBlock_69 : decode prog_3_method_5_code 69 = .ok (.getfield 39, 3) := by decide +kernel
theorem dd_Rul_endOfBlock_72 : decode prog_3_method_5_code 72 = .ok (.iadd, 1) := by decide +kernel
theorem dd_Rul_endOfBlock_73 : decode prog_3_method_5_code 73 = .ok (.aload_n 0, 1) := by decide +kernel
theorem dd_Rul_endOfBlock_74 : decode prog_3_method_5_code 74 = .ok (.getfield 30, 3) := by decide +kernel
theorem dd_Rul_endOfBlock_77 : decode prog_3_method_5_code 77 = .ok (.if_icmp .le 19, 3) := by decide +kernel
theorem dd_Rul_endOfBlock_80 : decode prog_3_method_5_code 80 = .ok (.iload 5, 2) := by decide +kernel
theorem dd_Rul_endOfBlock_82 : decode prog_3_method_5_code 82 = .ok (.iconst (-1), 1) := by decide +kernel
theorem dd_Rul_endOfBlock_83 : decode prog_3_method_5_code 83 = .ok (.if_icmp .ne 10, 3) := by decide +kernel
theorem dd_Rul_endOfBlock_86 : decode prog_3_method_5_code 86 = .ok (.iload 6, 2) := by decide +kernel
theorem dd_Rul_endOfBlock_88 : decode prog_3_method_5_code 88 = .ok (.iconst 1, 1) := by decide +kernel
theorem dd_Rul_endOfBlock_89 : decode prog_3_method_5_code 89 = .ok (.iadd, 1) := by decide +kernel
theorem dd_Rul_endOfBlock_90 : decode prog_3_method_5_code 90 = .ok (.goto 5, 3) := by decide +kernel
theorem dd_Rul_endOfBlock_93 : decode prog_3_method_5_code 93 = .ok (.iload 5, 2) := by decide +kernel
theorem dd_Rul_endOfBlock_95 : decode prog_3_method_5_code 95 = .ok (.ireturn, 1) := by decide +kernel
theorem dd_Rul_endOfBlock_96 : decode prog_3_method_5_code 96 = .ok (.aload_n 0, 1) := by decide +kernel
theorem dd_Rul_endOfBlock_97 : decode prog_3_method_5_code 97 = .ok (.getfield 23, 3) := by decide +kernel
theorem dd_Rul_endOfBlock_100 : decode prog_3_method_5_code 100 = .ok (.iconst 2, 1) := by decide +kernel
theorem dd_Rul_endOfBlock_101 : decode prog_3_method_5_code 101 = .ok (.if_icmp .ne 26, 3) := by decide +kernel
theorem dd_Rul_endOfBlock_104 : decode prog_3_method_5_code 104 = .ok (.iload 4, 2) := by decide +kernel
theorem dd_Rul_endOfBlock_106 : decode prog_3_method_5_code 106 = .ok (.aload_n 0, 1) := by decide +kernel
theorem dd_Rul_endOfBlock_107 : decode prog_3_method_5_code 107 = .ok (.getfield 33, 3) := by decide +kernel
theorem dd_Rul_endOfBlock_110 : decode prog_3_method_5_code 110 = .ok (.aload_n 0, 1) := by decide +kernel
theorem dd_Rul_endOfBlock_111 : decode prog_3_method_5_code 111 = .ok (.getfield 36, 3) := by decide +kernel
theorem dd_Rul_endOfBlock_114 : decode prog_3_method_5_code 114 = .ok (.isub, 1) := by decide +kernel
theorem dd_Rul_endOfBlock_115 : decode prog_3_method_5_code 115 = .ok (.invokestatic 56, 3) := by decide +kernel
theorem dd_Rul_endOfBlock_118 : decode prog_3_method_5_code 118 = .ok (.ifCond .eq 9, 3) := by decide +kernel
theorem dd_Rul_endOfBlock_121 : decode prog_3_method_5_code 121 = .ok (.iload 6, 2) := by decide +kernel
theorem dd_Rul_endOfBlock_123 : decode prog_3_method_5_code 123 = .ok (.iconst 1, 1) := by decide +kernel
theorem dd_Rul_endOfBlock_124 : decode prog_3_method_5_code 124 = .ok (.iadd, 1) := by decide +kernel
theorem dd_Rul_endOfBlock_125 : decode prog_3_method_5_code 125 = .ok (.istore 5, 2) := by decide +kernel
theorem dd_Rul_endOfBlock_127 : decode prog_3_method_5_code 127 = .ok (.iinc 6 1, 3) := by decide +kernel
theorem dd_Rul_endOfBlock_130 : decode prog_3_method_5_code 130 = .ok (.goto (-121), 3) := by decide +kernel
theorem dd_Rul_endOfBlock_133 : decode prog_3_method_5_code 133 = .ok (.iload_n 3, 1) := by decide +kernel
theorem dd_Rul_endOfBlock_134 : decode prog_3_method_5_code 134 = .ok (.ireturn, 1) := by decide +kernel
theorem dd_Rul_numberWith_0 : decode prog_3_method_7_code 0 = .ok (.aload_n 0, 1) := by decide +kernel
theorem dd_Rul_numberWith_1 : decode prog_3_method_7_code 1 = .ok (.getfield 9, 3) := by decide +kernel
theorem dd_Rul_numberWith_4 : decode prog_3_method_7_code 4 = .ok (.aload_n 2, 1) := by decide +kernel
theorem dd_Rul_numberWith_5 : decode prog_3_method_7_code 5 = .ok (.iload 4, 2) := by decide +kernel
theorem dd_Rul_numberWith_7 : decode prog_3_method_7_code 7 = .ok (.iaload, 1) := by decide +kernel
theorem dd_Rul_numberWith_8 : decode prog_3_method_7_code 8 = .ok (.iaload, 1) := by decide +kernel
theorem dd_Rul_numberWith_9 : decode prog_3_method_7_code 9 = .ok (.istore 5, 2) := by decide +kernel
theorem dd_Rul_numberWith_11 : decode prog_3_method_7_code 11 = .ok (.aload_n 0, 1) := by decide +kernel
theorem dd_Rul_numberWith_12 : decode prog_3_method_7_code 12 = .ok (.getfield 23, 3) := by decide +kernel
theorem dd_Rul_numberWith_15 : decode prog_3_method_7_code 15 = .ok (.iconst 3, 1) := by decide +kernel
theorem dd_Rul_numberWith_16 : decode prog_3_method_7_code 16 = .ok (.if_icmp .eq 10, 3) := by decide +kernel
theorem dd_Rul_numberWith_19 : decode prog_3_method_7_code 19 = .ok (.iload_n 1, 1) := by decide +kernel
theorem dd_Rul_numberWith_20 : decode prog_3_method_7_code 20 = .ok (.iconst 1, 1) := by decide +kernel
theorem dd_Rul_numberWith_21 : decode prog_3_method_7_code 21 = .ok (.ishl, 1) := by decide +kernel
theorem dd_Rul_numberWith_22 : decode prog_3_method_7_code 22 = .ok (.iload 5, 2) := by decide +kernel
theorem dd_Rul_numberWith_24 : decode prog_3_method_7_code 24 = .ok (.iadd, 1) := by decide +kernel
theorem dd_Rul_numberWith_25 : decode prog_3_method_7_code 25 = .ok (.ireturn, 1) := by decide +kernel
theorem dd_Rul_numberWith_26 : decode prog_3_method_7_code 26 = .ok (.iload_n 1, 1) := by decide +kernel
theorem dd_Rul_numberWith_27 : decode prog_3_method_7_code 27 = .ok (.iconst 1, 1) := by decide +kernel
theorem dd_Rul_numberWith_28 : decode prog_3_method_7_code 28 = .ok (.invokestatic 60, 3) := by decide +kernel
theorem dd_Rul_numberWith_31 : decode prog_3_method_7_code 31 = .ok (.iload 5, 2) := by decide +kernel
theorem dd_Rul_numberWith_33 : decode prog_3_method_7_code 33 = .ok (.ixor, 1) := by decide +kernel
theorem dd_Rul_numberWith_34 : decode prog_3_method_7_code 34 = .ok (.istore 6, 2) := by decide +kernel
theorem dd_Rul_numberWith_36 : decode prog_3_method_7_code 36 = .ok (.iload 4, 2) := by decide +kernel
theorem dd_Rul_numberWith_38 : decode prog_3_method_7_code 38 = .ok (.iload_n 3, 1) := by decide +kernel
theorem dd_Rul_numberWith_39 : decode prog_3_method_7_code 39 = .ok (.isub, 1) := by decide +kernel
theorem dd_Rul_numberWith_40 : decode prog_3_method_7_code 40 = .ok (.bipush 16, 2) := by decide +kernel
theorem dd_Rul_numberWith_42 : decode prog_3_method_7_code 42 = .ok (.if_icmp .ge 6, 3) := by decide +kernel
theorem dd_Rul_numberWith_45 : decode prog_3_method_7_code 45 = .ok (.iload 6, 2) := by decide +kernel
theorem dd_Rul_numberWith_47 : decode prog_3_method_7_code 47 = .ok (.ireturn, 1) := by decide +kernel
theorem dd_Rul_numberWith_48 : decode prog_3_method_7_code 48 = .ok (.iload 6, 2) := by decide +kernel
theorem dd_Rul_numberWith_50 : decode prog_3_method_7_code 50 = .ok (.aload_n 0, 1) := by decide +kernel
theorem dd_Rul_numberWith_51 : decode prog_3_method_7_code 51 = .ok (.getfield 9, 3) := by decide +kernel
theorem dd_Rul_numberWith_54 : decode prog_3_method_7_code 54 = .ok (.aload_n 2, 1) := by decide +kernel
theorem dd_Rul_numberWith_55 : decode prog_3_method_7_code 55 = .ok (.iload 4, 2) := by decide +kernel
theorem dd_Rul_numberWith_57 : decode prog_3_method_7_code 57 = .ok (.bipush 16, 2) := by decide +kernel
theorem dd_Rul_numberWith_59 : decode prog_3_method_7_code 59 = .ok (.isub, 1) := by decide +kernel
theorem dd_Rul_numberWith_60 : decode prog_3_method_7_code 60 = .ok (.iaload, 1) := by decide +kernel
theorem dd_Rul_numberWith_61 : decode prog_3_method_7_code 61 = .ok (.iaload, 1) := by decide +kernel
theorem dd_Rul_numberWith_62 : decode prog_3_method_7_code 62 = .ok (.bipush 16, 2) := by decide +kernel
theorem dd_Rul_numberWith_64 : decode prog_3_method_7_code 64 = .ok (.invokestatic 60, 3) := by decide +kernel
theorem dd_Rul_numberWith_67 : decode prog_3_method_7_code 67 = .ok (.ixor, 1) := by decide +kernel
theorem dd_Rul_numberWith_68 : decode prog_3_method_7_code 68 = .ok (.ireturn, 1) := by decide +kernel
theorem dd_Rul_turnedLeft_0 : decode prog_3_method_11_code 0 = .ok (.iload_n 0, 1) := by decide +kernel
theorem dd_Rul_turnedLeft_1 : decode prog_3_method_11_code 1 = .ok (.iload_n 1, 1) := by decide +kernel
theorem dd_Rul_turnedLeft_2 : decode prog_3_method_11_code 2 = .ok (.ishl, 1) := by decide +kernel
theorem dd_Rul_turnedLeft_3 : decode prog_3_method_11_code 3 = .ok (.iload_n 0, 1) := by decide +kernel
theorem dd_Rul_turnedLeft_4 : decode prog_3_method_11_code 4 = .ok (.bipush 32, 2) := by decide +kernel
theorem dd_Rul_turnedLeft_6 : decode prog_3_method_11_code 6 = .ok (.iload_n 1, 1) := by decide +kernel
theorem dd_Rul_turnedLeft_7 : decode prog_3_method_11_code 7 = .ok (.isub, 1) := by decide +kernel
theorem dd_Rul_turnedLeft_8 : decode prog_3_method_11_code 8 = .ok (.iushr, 1) := by decide +kernel
theorem dd_Rul_turnedLeft_9 : decode prog_3_method_11_code 9 = .ok (.ior, 1) := by decide +kernel
theorem dd_Rul_turnedLeft_10 : decode prog_3_method_11_code 10 = .ok (.ireturn, 1) := by decide +kernel
theorem dd_Rul_allowed_0 : decode prog_3_method_8_code 0 = .ok (.iload_n 1, 1) := by decide +kernel
theorem dd_Rul_allowed_1 : decode prog_3_method_8_code 1 = .ok (.aload_n 0, 1) := by decide +kernel
theorem dd_Rul_allowed_2 : decode prog_3_method_8_code 2 = .ok (.getfield 27, 3) := by decide +kernel
theorem dd_Rul_allowed_5 : decode prog_3_method_8_code 5 = .ok (.if_icmp .lt 23, 3) := by decide +kernel
theorem dd_Rul_allowed_8 : decode prog_3_method_8_code 8 = .ok (.aload_n 0, 1) := by decide +kernel
theorem dd_Rul_allowed_9 : decode prog_3_method_8_code 9 = .ok (.getfield 39, 3) := by decide +kernel
theorem dd_Rul_allowed_12 : decode prog_3_method_8_code 12 = .ok (.ifCond .le 16, 3) := by decide +kernel
theorem dd_Rul_allowed_15 : decode prog_3_method_8_code 15 = .ok (.iload_n 1, 1) := by decide +kernel
theorem dd_Rul_allowed_16 : decode prog_3_method_8_code 16 = .ok (.aload_n 0, 1) := by decide +kernel
theorem dd_Rul_allowed_17 : decode prog_3_method_8_code 17 = .ok (.getfield 39, 3) := by decide +kernel
theorem dd_Rul_allowed_20 : decode prog_3_method_8_code 20 = .ok (.irem, 1) := by decide +kernel
theorem dd_Rul_allowed_21 : decode prog_3_method_8_code 21 = .ok (.ifCond .ne 7, 3) := by decide +kernel
theorem dd_Rul_allowed_24 : decode prog_3_method_8_code 24 = .ok (.iconst 1, 1) := by decide +kernel
theorem dd_Rul_allowed_25 : decode prog_3_method_8_code 25 = .ok (.goto 4, 3) := by decide +kernel
theorem dd_Rul_allowed_28 : decode prog_3_method_8_code 28 = .ok (.iconst 0, 1) := by decide +kernel
theorem dd_Rul_allowed_29 : decode prog_3_method_8_code 29 = .ok (.ireturn, 1) := by decide +kernel
theorem dd_Rul_marksAt_0 : decode prog_3_method_9_code 0 = .ok (.aload_n 0, 1) := by decide +kernel
theorem dd_Rul_marksAt_1 : decode prog_3_method_9_code 1 = .ok (.getfield 23, 3) := by decide +kernel
theorem dd_Rul_marksAt_4 : decode prog_3_method_9_code 4 = .ok (.iconst 1, 1) := by decide +kernel
theorem dd_Rul_marksAt_5 : decode prog_3_method_9_code 5 = .ok (.if_icmp .eq 8, 3) := by decide +kernel
theorem dd_Rul_marksAt_8 : decode prog_3_method_9_code 8 = .ok (.aload_n 0, 1) := by decide +kernel
theorem dd_Rul_marksAt_9 : decode prog_3_method_9_code 9 = .ok (.getfield 33, 3) := by decide +kernel
theorem dd_Rul_marksAt_12 : decode prog_3_method_9_code 12 = .ok (.ireturn, 1) := by decide +kernel
theorem dd_Rul_marksAt_13 : decode prog_3_method_9_code 13 = .ok (.iload_n 1, 1) := by decide +kernel
theorem dd_Rul_marksAt_14 : decode prog_3_method_9_code 14 = .ok (.iconst 1, 1) := by decide +kernel
theorem dd_Rul_marksAt_15 : decode prog_3_method_9_code 15 = .ok (.aload_n 0, 1) := by decide +kernel
theorem dd_Rul_marksAt_16 : decode prog_3_method_9_code 16 = .ok (.getfield 33, 3) := by decide +kernel
theorem dd_Rul_marksAt_19 : decode prog_3_method_9_code 19 = .ok (.ishl, 1) := by decide +kernel
theorem dd_Rul_marksAt_20 : decode prog_3_method_9_code 20 = .ok (.if_icmp .ge 15, 3) := by decide +kernel
theorem dd_Rul_marksAt_23 : decode prog_3_method_9_code 23 = .ok (.aload_n 0, 1) := by decide +kernel
theorem dd_Rul_marksAt_24 : decode prog_3_method_9_code 24 = .ok (.getfield 33, 3) := by decide +kernel
theorem dd_Rul_marksAt_27 : decode prog_3_method_9_code 27 = .ok (.aload_n 0, 1) := by decide +kernel
theorem dd_Rul_marksAt_28 : decode prog_3_method_9_code 28 = .ok (.getfield 36, 3) := by decide +kernel
theorem dd_Rul_marksAt_31 : decode prog_3_method_9_code 31 = .ok (.iadd, 1) := by decide +kernel
theorem dd_Rul_marksAt_32 : decode prog_3_method_9_code 32 = .ok (.goto 12, 3) := by decide +kernel
theorem dd_Rul_marksAt_35 : decode prog_3_method_9_code 35 = .ok (.aload_n 0, 1) := by decide +kernel
theorem dd_Rul_marksAt_36 : decode prog_3_method_9_code 36 = .ok (.getfield 33, 3) := by decide +kernel
theorem dd_Rul_marksAt_39 : decode prog_3_method_9_code 39 = .ok (.aload_n 0, 1) := by decide +kernel
theorem dd_Rul_marksAt_40 : decode prog_3_method_9_code 40 = .ok (.getfield 36, 3) := by decide +kernel
theorem dd_Rul_marksAt_43 : decode prog_3_method_9_code 43 = .ok (.isub, 1) := by decide +kernel
theorem dd_Rul_marksAt_44 : decode prog_3_method_9_code 44 = .ok (.ireturn, 1) := by decide +kernel
theorem dd_Rul_marked_0 : decode prog_3_method_10_code 0 = .ok (.iload_n 1, 1) := by decide +kernel
theorem dd_Rul_marked_1 : decode prog_3_method_10_code 1 = .ok (.ifCond .eq 12, 3) := by decide +kernel
theorem dd_Rul_marked_4 : decode prog_3_method_10_code 4 = .ok (.iload_n 0, 1) := by decide +kernel
theorem dd_Rul_marked_5 : decode prog_3_method_10_code 5 = .ok (.bipush 32, 2) := by decide +kernel
theorem dd_Rul_marked_7 : decode prog_3_method_10_code 7 = .ok (.iload_n 1, 1) := by decide +kernel
theorem dd_Rul_marked_8 : decode prog_3_method_10_code 8 = .ok (.isub, 1) := by decide +kernel
theorem dd_Rul_marked_9 : decode prog_3_method_10_code 9 = .ok (.iushr, 1) := by decide +kernel
theorem dd_Rul_marked_10 : decode prog_3_method_10_code 10 = .ok (.ifCond .ne 7, 3) := by decide +kernel
theorem dd_Rul_marked_13 : decode prog_3_method_10_code 13 = .ok (.iconst 1, 1) := by decide +kernel
theorem dd_Rul_marked_14 : decode prog_3_method_10_code 14 = .ok (.goto 4, 3) := by decide +kernel
theorem dd_Rul_marked_17 : decode prog_3_method_10_code 17 = .ok (.iconst 0, 1) := by decide +kernel
theorem dd_Rul_marked_18 : decode prog_3_method_10_code 18 = .ok (.ireturn, 1) := by decide +kernel
theorem dd_Row_close_0 : decode prog_2_method_4_code 0 = .ok (.aload_n 0, 1) := by decide +kernel
theorem dd_Row_close_1 : decode prog_2_method_4_code 1 = .ok (.getfield 15, 3) := by decide +kernel
theorem dd_Row_close_4 : decode prog_2_method_4_code 4 = .ok (.aload_n 0, 1) := by decide +kernel
theorem dd_Row_close_5 : decode prog_2_method_4_code 5 = .ok (.getfield 30, 3) := by decide +kernel
theorem dd_Row_close_8 : decode prog_2_method_4_code 8 = .ok (.iconst 1, 1) := by decide +kernel
theorem dd_Row_close_9 : decode prog_2_method_4_code 9 = .ok (.iadd, 1) := by decide +kernel
theorem dd_Row_close_10 : decode prog_2_method_4_code 10 = .ok (.iload_n 1, 1) := by decide +kernel
theorem dd_Row_close_11 : decode prog_2_method_4_code 11 = .ok (.iastore, 1) := by decide +kernel
theorem dd_Row_close_12 : decode prog_2_method_4_code 12 = .ok (.aload_n 0, 1) := by decide +kernel
theorem dd_Row_close_13 : decode prog_2_method_4_code 13 = .ok (.dup, 1) := by decide +kernel
theorem dd_Row_close_14 : decode prog_2_method_4_code 14 = .ok (.getfield 30, 3) := by decide +kernel
theorem dd_Row_close_17 : decode prog_2_method_4_code 17 = .ok (.iconst 1, 1) := by decide +kernel
theorem dd_Row_close_18 : decode prog_2_method_4_code 18 = .ok (.iadd, 1) := by decide +kernel
theorem dd_Row_close_19 : decode prog_2_method_4_code 19 = .ok (.putfield 30, 3) := by decide +kernel
theorem dd_Row_close_22 : decode prog_2_method_4_code 22 = .ok (.return_, 1) := by decide +kernel
theorem dd_Cb_block_0 : decode prog_1_method_12_code 0 = .ok (.aload_n 0, 1) := by decide +kernel
theorem dd_Cb_block_1 : decode prog_1_method_12_code 1 = .ok (.iload_n 1, 1) := by decide +kernel
theorem dd_Cb_block_2 : decode prog_1_method_12_code 2 = .ok (.iload_n 2, 1) := by decide +kernel
theorem dd_Cb_block_3 : decode prog_1_method_12_code 3 = .ok (.invokevirtual 90, 3) := by decide +kernel
theorem dd_Cb_block_6 : decode prog_1_method_12_code 6 = .ok (.ifCond .eq 12, 3) := by decide +kernel
theorem dd_Cb_block_9 : decode prog_1_method_12_code 9 = .ok (.iload_n 3, 1) := by decide +kernel
theorem dd_Cb_block_10 : decode prog_1_method_12_code 10 = .ok (.ifCond .lt 8, 3) := by decide +kernel
theorem dd_Cb_block_13 : decode prog_1_method_12_code 13 = .ok (.iload_n 3, 1) := by decide +kernel
theorem dd_Cb_block_14 : decode prog_1_method_12_code 14 = .ok (.iconst 1, 1) := by decide +kernel
theorem dd_Cb_block_15 : decode prog_1_method_12_code 15 = .ok (.if_icmp .le 5, 3) := by decide +kernel
theorem dd_Cb_block_18 : decode prog_1_method_12_code 18 = .ok (.iconst (-1), 1) := by decide +kernel
theorem dd_Cb_block_19 : decode prog_1_method_12_code 19 = .ok (.ireturn, 1) := by decide +kernel
theorem dd_Cb_block_20 : decode prog_1_method_12_code 20 = .ok (.aload_n 0, 1) := by decide +kernel
theorem dd_Cb_block_21 : decode prog_1_method_12_code 21 = .ok (.iload_n 1, 1) := by decide +kernel
theorem dd_Cb_block_22 : decode prog_1_method_12_code 22 = .ok (.invokevirtual 83, 3) := by decide +kernel
theorem dd_Cb_block_25 : decode prog_1_method_12_code 25 = .ok (.astore 4, 2) := by decide +kernel
theorem dd_Cb_block_27 : decode prog_1_method_12_code 27 = .ok (.iload_n 3, 1) := by decide +kernel
theorem dd_Cb_block_28 : decode prog_1_method_12_code 28 = .ok (.ifCond .ne 13, 3) := by decide +kernel
theorem dd_Cb_block_31 : decode prog_1_method_12_code 31 = .ok (.aload 4, 2) := by decide +kernel
theorem dd_Cb_block_33 : decode prog_1_method_12_code 33 = .ok (.getfield 93, 3) := by decide +kernel
theorem dd_Cb_block_36 : decode prog_1_method_12_code 36 = .ok (.iload_n 2, 1) := by decide +kernel
theorem dd_Cb_block_37 : decode prog_1_method_12_code 37 = .ok (.iaload, 1) := by decide +kernel
theorem dd_Cb_block_38 : decode prog_1_method_12_code 38 = .ok (.goto 9, 3) := by decide +kernel
theorem dd_Cb_block_41 : decode prog_1_method_12_code 41 = .ok (.aload 4, 2) := by decide +kernel
theorem dd_Cb_block_43 : decode prog_1_method_12_code 43 = .ok (.iload_n 2, 1) := by decide +kernel
theorem dd_Cb_block_44 : decode prog_1_method_12_code 44 = .ok (.invokevirtual 96, 3) := by decide +kernel
theorem dd_Cb_block_47 : decode prog_1_method_12_code 47 = .ok (.ireturn, 1) := by decide +kernel
theorem dd_Cb_hasBlock_0 : decode prog_1_method_25_code 0 = .ok (.iload_n 1, 1) := by decide +kernel
theorem dd_Cb_hasBlock_1 : decode prog_1_method_25_code 1 = .ok (.invokestatic 45, 3) := by decide +kernel
theorem dd_Cb_hasBlock_4 : decode prog_1_method_25_code 4 = .ok (.ifCond .eq 23, 3) := by decide +kernel
theorem dd_Cb_hasBlock_7 : decode prog_1_method_25_code 7 = .ok (.iload_n 2, 1) := by decide +kernel
theorem dd_Cb_hasBlock_8 : decode prog_1_method_25_code 8 = .ok (.ifCond .lt 19, 3) := by decide +kernel
theorem dd_Cb_hasBlock_11 : decode prog_1_method_25_code 11 = .ok (.iload_n 2, 1) := by decide +kernel
theorem dd_Cb_hasBlock_12 : decode prog_1_method_25_code 12 = .ok (.aload_n 0, 1) := by decide +kernel
theorem dd_Cb_hasBlock_13 : decode prog_1_method_25_code 13 = .ok (.iload_n 1, 1) := by decide +kernel
theorem dd_Cb_hasBlock_14 : decode prog_1_method_25_code 14 = .ok (.invokevirtual 83, 3) := by decide +kernel
theorem dd_Cb_hasBlock_17 : decode prog_1_method_25_code 17 = .ok (.getfield 87, 3) := by decide +kernel
theorem dd_Cb_hasBlock_20 : decode prog_1_method_25_code 20 = .ok (.if_icmp .ge 7, 3) := by decide +kernel
theorem dd_Cb_hasBlock_23 : decode prog_1_method_25_code 23 = .ok (.iconst 1, 1) := by decide +kernel
theorem dd_Cb_hasBlock_24 : decode prog_1_method_25_code 24 = .ok (.goto 4, 3) := by decide +kernel
theorem dd_Cb_hasBlock_27 : decode prog_1_method_25_code 27 = .ok (.iconst 0, 1) := by decide +kernel
theorem dd_Cb_hasBlock_28 : decode prog_1_method_25_code 28 = .ok (.ireturn, 1) := by decide +kernel
theorem dd_Row_bytesOf_0 : decode prog_2_method_3_code 0 = .ok (.aload_n 0, 1) := by decide +kernel
theorem dd_Row_bytesOf_1 : decode prog_2_method_3_code 1 = .ok (.getfield 15, 3) := by decide +kernel
theorem dd_Row_bytesOf_4 : decode prog_2_method_3_code 4 = .ok (.iload_n 1, 1) := by decide +kernel
theorem dd_Row_bytesOf_5 : decode prog_2_method_3_code 5 = .ok (.iconst 1, 1) := by decide +kernel
theorem dd_Row_bytesOf_6 : decode prog_2_method_3_code 6 = .ok (.iadd, 1) := by decide +kernel
theorem dd_Row_bytesOf_7 : decode prog_2_method_3_code 7 = .ok (.iaload, 1) := by decide +kernel
theorem dd_Row_bytesOf_8 : decode prog_2_method_3_code 8 = .ok (.aload_n 0, 1) := by decide +kernel
theorem dd_Row_bytesOf_9 : decode prog_2_method_3_code 9 = .ok (.getfield 15, 3) := by decide +kernel
theorem dd_Row_bytesOf_12 : decode prog_2_method_3_code 12 = .ok (.iload_n 1, 1) := by decide +kernel
theorem dd_Row_bytesOf_13 : decode prog_2_method_3_code 13 = .ok (.iaload, 1) := by decide +kernel
theorem dd_Row_bytesOf_14 : decode prog_2_method_3_code 14 = .ok (.isub, 1) := by decide +kernel
theorem dd_Row_bytesOf_15 : decode prog_2_method_3_code 15 = .ok (.ireturn, 1) := by decide +kernel
theorem dd_Cb_digest_0 : decode prog_1_method_13_code 0 = .ok (.aload_n 0, 1) := by decide +kernel
theorem dd_Cb_digest_1 : decode prog_1_method_13_code 1 = .ok (.iload_n 1, 1) := by decide +kernel
theorem dd_Cb_digest_2 : decode prog_1_method_13_code 2 = .ok (.iload_n 2, 1) := by decide +kernel
theorem dd_Cb_digest_3 : decode prog_1_method_13_code 3 = .ok (.invokevirtual 90, 3) := by decide +kernel
theorem dd_Cb_digest_6 : decode prog_1_method_13_code 6 = .ok (.ifCond .eq 12, 3) := by decide +kernel
theorem dd_Cb_digest_9 : decode prog_1_method_13_code 9 = .ok (.iload_n 3, 1) := by decide +kernel
theorem dd_Cb_digest_10 : decode prog_1_method_13_code 10 = .ok (.ifCond .lt 8, 3) := by decide +kernel
theorem dd_Cb_digest_13 : decode prog_1_method_13_code 13 = .ok (.iload_n 3, 1) := by decide +kernel
theorem dd_Cb_digest_14 : decode prog_1_method_13_code 14 = .ok (.iconst 1, 1) := by decide +kernel
theorem dd_Cb_digest_15 : decode prog_1_method_13_code 15 = .ok (.if_icmp .le 7, 3) := by decide +kernel
theorem dd_Cb_digest_18 : decode prog_1_method_13_code 18 = .ok (.ldc2_w 100, 3) := by decide +kernel
theorem dd_Cb_digest_21 : decode prog_1_method_13_code 21 = .ok (.lreturn, 1) := by decide +kernel
theorem dd_Cb_digest_22 : decode prog_1_method_13_code 22 = .ok (.aload_n 0, 1) := by decide +kernel
theorem dd_Cb_digest_23 : decode prog_1_method_13_code 23 = .ok (.iload_n 1, 1) := by decide +kernel
theorem dd_Cb_digest_24 : decode prog_1_method_13_code 24 = .ok (.invokevirtual 83, 3) := by decide +kernel
theorem dd_Cb_digest_27 : decode prog_1_method_13_code 27 = .ok (.astore 4, 2) := by decide +kernel
theorem dd_Cb_digest_29 : decode prog_1_method_13_code 29 = .ok (.iload_n 3, 1) := by decide +kernel
theorem dd_Cb_digest_30 : decode prog_1_method_13_code 30 = .ok (.ifCond .ne 15, 3) := by decide +kernel
theorem dd_Cb_digest_33 : decode prog_1_method_13_code 33 = .ok (.aload 4, 2) := by decide +kernel
theorem dd_Cb_digest_35 : decode prog_1_method_13_code 35 = .ok (.iload_n 2, 1) := by decide +kernel
theorem dd_Cb_digest_36 : decode prog_1_method_13_code 36 = .ok (.invokevirtual 102, 3) := by decide +kernel
theorem dd_Cb_digest_39 : decode prog_1_method_13_code 39 = .ok (.invokestatic 105, 3) := by decide +kernel
theorem dd_Cb_digest_42 : decode prog_1_method_13_code 42 = .ok (.goto 9, 3) := by decide +kernel
theorem dd_Cb_digest_45 : decode prog_1_method_13_code 45 = .ok (.aload 4, 2) := by decide +kernel
theorem dd_Cb_digest_47 : decode prog_1_method_13_code 47 = .ok (.iload_n 2, 1) := by decide +kernel
theorem dd_Cb_digest_48 : decode prog_1_method_13_code 48 = .ok (.invokevirtual 109, 3) := by decide +kernel
theorem dd_Cb_digest_51 : decode prog_1_method_13_code 51 = .ok (.lreturn, 1) := by decide +kernel
theorem dd_Row_mixedSum_0 : decode prog_2_method_6_code 0 = .ok (.ldc 34, 2) := by decide +kernel
theorem dd_Row_mixedSum_2 : decode prog_2_method_6_code 2 = .ok (.istore_n 2, 1) := by decide +kernel
theorem dd_Row_mixedSum_3 : decode prog_2_method_6_code 3 = .ok (.aload_n 0, 1) := by decide +kernel
theorem dd_Row_mixedSum_4 : decode prog_2_method_6_code 4 = .ok (.getfield 15, 3) := by decide +kernel
theorem dd_Row_mixedSum_7 : decode prog_2_method_6_code 7 = .ok (.iload_n 1, 1) := by decide +kernel
theorem dd_Row_mixedSum_8 : decode prog_2_method_6_code 8 = .ok (.iaload, 1) := by decide +kernel
theorem dd_Row_mixedSum_9 : decode prog_2_method_6_code 9 = .ok (.istore_n 3, 1) := by decide +kernel
theorem dd_Row_mixedSum_10 : decode prog_2_method_6_code 10 = .ok (.iload_n 3, 1) := by decide +kernel
theorem dd_Row_mixedSum_11 : decode prog_2_method_6_code 11 = .ok (.aload_n 0, 1) := by decide +kernel
theorem dd_Row_mixedSum_12 : decode prog_2_method_6_code 12 = .ok (.getfield 15, 3) := by decide +kernel
theorem dd_Row_mixedSum_15 : decode prog_2_method_6_code 15 = .ok (.iload_n 1, 1) := by decide +kernel
theorem dd_Row_mixedSum_16 : decode prog_2_method_6_code 16 = .ok (.iconst 1, 1) := by decide +kernel
theorem dd_Row_mixedSum_17 : decode prog_2_method_6_code 17 = .ok (.iadd, 1) := by decide +kernel
theorem dd_Row_mixedSum_18 : decode prog_2_method_6_code 18 = .ok (.iaload, 1) := by decide +kernel
theorem dd_Row_mixedSum_19 : decode prog_2_method_6_code 19 = .ok (.if_icmp .ge 21, 3) := by decide +kernel
theorem dd_Row_mixedSum_22 : decode prog_2_method_6_code 22 = .ok (.iload_n 2, 1) := by decide +kernel
theorem dd_Row_mixedSum_23 : decode prog_2_method_6_code 23 = .ok (.aload_n 0, 1) := by decide +kernel
theorem dd_Row_mixedSum_24 : decode prog_2_method_6_code 24 = .ok (.getfield 9, 3) := by decide +kernel
theorem dd_Row_mixedSum_27 : decode prog_2_method_6_code 27 = .ok (.iload_n 3, 1) := by decide +kernel
theorem dd_Row_mixedSum_28 : decode prog_2_method_6_code 28 = .ok (.iaload, 1) := by decide +kernel
theorem dd_Row_mixedSum_29 : decode prog_2_method_6_code 29 = .ok (.ixor, 1) := by decide +kernel
theorem dd_Row_mixedSum_30 : decode prog_2_method_6_code 30 = .ok (.ldc 35, 2) := by decide +kernel
theorem dd_Row_mixedSum_32 : decode prog_2_method_6_code 32 = .ok (.imul, 1) := by decide +kernel
theorem dd_Row_mixedSum_33 : decode prog_2_method_6_code 33 = .ok (.istore_n 2, 1) := by decide +kernel
theorem dd_Row_mixedSum_34 : decode prog_2_method_6_code 34 = .ok (.iinc 3 1, 3) := by decide +kernel
theorem dd_Row_mixedSum_37 : decode prog_2_method_6_code 37 = .ok (.goto (-27), 3) := by decide +kernel
theorem dd_Row_mixedSum_40 : decode prog_2_method_6_code 40 = .ok (.iload_n 2, 1) := by decide +kernel
theorem dd_Row_mixedSum_41 : decode prog_2_method_6_code 41 = .ok (.ireturn, 1) := by decide +kernel
theorem dd_Cb_unsigned_0 : decode prog_1_method_26_code 0 = .ok (.iload_n 0, 1) := by decide +kernel
theorem dd_Cb_unsigned_1 : decode prog_1_method_26_code 1 = .ok (.i2l, 1) := by decide +kernel
theorem dd_Cb_unsigned_2 : decode prog_1_method_26_code 2 = .ok (.ldc2_w 177, 3) := by decide +kernel
theorem dd_Cb_unsigned_5 : decode prog_1_method_26_code 5 = .ok (.land, 1) := by decide +kernel
theorem dd_Cb_unsigned_6 : decode prog_1_method_26_code 6 = .ok (.lreturn, 1) := by decide +kernel
theorem dd_Row_doubleSum_0 : decode prog_2_method_7_code 0 = .ok (.iconst 1, 1) := by decide +kernel
theorem dd_Row_doubleSum_1 : decode prog_2_method_7_code 1 = .ok (.istore_n 2, 1) := by decide +kernel
theorem dd_Row_doubleSum_2 : decode prog_2_method_7_code 2 = .ok (.iconst 0, 1) := by decide +kernel
theorem dd_Row_doubleSum_3 : decode prog_2_method_7_code 3 = .ok (.istore_n 3, 1) := by decide +kernel
theorem dd_Row_doubleSum_4 : decode prog_2_method_7_code 4 = .ok (.aload_n 0, 1) := by decide +kernel
theorem dd_Row_doubleSum_5 : decode prog_2_method_7_code 5 = .ok (.getfield 15, 3) := by decide +kernel
theorem dd_Row_doubleSum_8 : decode prog_2_method_7_code 8 = .ok (.iload_n 1, 1) := by decide +kernel
theorem dd_Row_doubleSum_9 : decode prog_2_method_7_code 9 = .ok (.iaload, 1) := by decide +kernel
theorem dd_Row_doubleSum_10 : decode prog_2_method_7_code 10 = .ok (.istore 4, 2) := by decide +kernel
theorem dd_Row_doubleSum_12 : decode prog_2_method_7_code 12 = .ok (.iload 4, 2) := by decide +kernel
theorem dd_Row_doubleSum_14 : decode prog_2_method_7_code 14 = .ok (.aload_n 0, 1) := by decide +kernel
theorem dd_Row_doubleSum_15 : decode prog_2_method_7_code 15 = .ok (.getfield 15, 3) := by decide +kernel
theorem dd_Row_doubleSum_18 : decode prog_2_method_7_code 18 = .ok (.iload_n 1, 1) := by decide +kernel
theorem dd_Row_doubleSum_19 : decode prog_2_method_7_code 19 = .ok (.iconst 1, 1) := by decide +kernel
theorem dd_Row_doubleSum_20 : decode prog_2_method_7_code 20 = .ok (.iadd, 1) := by decide +kernel
theorem dd_Row_doubleSum_21 : decode prog_2_method_7_code 21 = .ok (.iaload, 1) := by decide +kernel
theorem dd_Row_doubleSum_22 : decode prog_2_method_7_code 22 = .ok (.if_icmp .ge 29, 3) := by decide +kernel
theorem dd_Row_doubleSum_25 : decode prog_2_method_7_code 25 = .ok (.iload_n 2, 1) := by decide +kernel
theorem dd_Row_doubleSum_26 : decode prog_2_method_7_code 26 = .ok (.aload_n 0, 1) := by decide +kernel
theorem dd_Row_doubleSum_27 : decode prog_2_method_7_code 27 = .ok (.getfield 9, 3) := by decide +kernel
theorem dd_Row_doubleSum_30 : decode prog_2_method_7_code 30 = .ok (.iload 4, 2) := by decide +kernel
theorem dd_Row_doubleSum_32 : decode prog_2_method_7_code 32 = .ok (.iaload, 1) := by decide +kernel
theorem dd_Row_doubleSum_33 : decode prog_2_method_7_code 33 = .ok (.iadd, 1) := by decide +kernel
theorem dd_Row_doubleSum_34 : decode prog_2_method_7_code 34 = .ok (.ldc 36, 2) := by decide +kernel
theorem dd_Row_doubleSum_36 : decode prog_2_method_7_code 36 = .ok (.irem, 1) := by decide +kernel
theorem dd_Row_doubleSum_37 : decode prog_2_method_7_code 37 = .ok (.istore_n 2, 1) := by decide +kernel
theorem dd_Row_doubleSum_38 : decode prog_2_method_7_code 38 = .ok (.iload_n 3, 1) := by decide +kernel
theorem dd_Row_doubleSum_39 : decode prog_2_method_7_code 39 = .ok (.iload_n 2, 1) := by decide +kernel
theorem dd_Row_doubleSum_40 : decode prog_2_method_7_code 40 = .ok (.iadd, 1) := by decide +kernel
theorem dd_Row_doubleSum_41 : decode prog_2_method_7_code 41 = .ok (.ldc 36, 2) := by decide +kernel
theorem dd_Row_doubleSum_43 : decode prog_2_method_7_code 43 = .ok (.irem, 1) := by decide +kernel
theorem dd_Row_doubleSum_44 : decode prog_2_method_7_code 44 = .ok (.istore_n 3, 1) := by decide +kernel
theorem dd_Row_doubleSum_45 : decode prog_2_method_7_code 45 = .ok (.iinc 4 1, 3) := by decide +kernel
theorem dd_Row_doubleSum_48 : decode prog_2_method_7_code 48 = .ok (.goto (-36), 3) := by decide +kernel
theorem dd_Row_doubleSum_51 : decode prog_2_method_7_code 51 = .ok (.ldc2_w 37, 3) := by decide +kernel
theorem dd_Row_doubleSum_54 : decode prog_2_method_7_code 54 = .ok (.iload_n 3, 1) := by decide +kernel
theorem dd_Row_doubleSum_55 : decode prog_2_method_7_code 55 = .ok (.i2l, 1) := by decide +kernel
theorem dd_Row_doubleSum_56 : decode prog_2_method_7_code 56 = .ok (.lmul, 1) := by decide +kernel
theorem dd_Row_doubleSum_57 : decode prog_2_method_7_code 57 = .ok (.iload_n 2, 1) := by decide +kernel
theorem dd_Row_doubleSum_58 : decode prog_2_method_7_code 58 = .ok (.i2l, 1) := by decide +kernel
theorem dd_Row_doubleSum_59 : decode prog_2_method_7_code 59 = .ok (.ladd, 1) := by decide +kernel
theorem dd_Row_doubleSum_60 : decode prog_2_method_7_code 60 = .ok (.lreturn, 1) := by decide +kernel
theorem dd_Cb_hash_0 : decode prog_1_method_14_code 0 = .ok (.aload_n 0, 1) := by decide +kernel
theorem dd_Cb_hash_1 : decode prog_1_method_14_code 1 = .ok (.iload_n 1, 1) := by decide +kernel
theorem dd_Cb_hash_2 : decode prog_1_method_14_code 2 = .ok (.iload_n 2, 1) := by decide +kernel
theorem dd_Cb_hash_3 : decode prog_1_method_14_code 3 = .ok (.invokevirtual 69, 3) := by decide +kernel
theorem dd_Cb_hash_6 : decode prog_1_method_14_code 6 = .ok (.ifCond .ne 7, 3) := by decide +kernel
theorem dd_Cb_hash_9 : decode prog_1_method_14_code 9 = .ok (.ldc2_w 100, 3) := by decide +kernel
theorem dd_Cb_hash_12 : decode prog_1_method_14_code 12 = .ok (.lreturn, 1) := by decide +kernel
theorem dd_Cb_hash_13 : decode prog_1_method_14_code 13 = .ok (.aload_n 0, 1) := by decide +kernel
theorem dd_Cb_hash_14 : decode prog_1_method_14_code 14 = .ok (.iload_n 1, 1) := by decide +kernel
theorem dd_Cb_hash_15 : decode prog_1_method_14_code 15 = .ok (.invokevirtual 83, 3) := by decide +kernel
theorem dd_Cb_hash_18 : decode prog_1_method_14_code 18 = .ok (.astore_n 3, 1) := by decide +kernel
theorem dd_Cb_hash_19 : decode prog_1_method_14_code 19 = .ok (.aload_n 0, 1) := by decide +kernel
theorem dd_Cb_hash_20 : decode prog_1_method_14_code 20 = .ok (.getfield 10, 3) := by decide +kernel
theorem dd_Cb_hash_23 : decode prog_1_method_14_code 23 = .ok (.aload_n 3, 1) := by decide +kernel
theorem dd_Cb_hash_24 : decode prog_1_method_14_code 24 = .ok (.getfield 77, 3) := by decide +kernel
theorem dd_Cb_hash_27 : decode prog_1_method_14_code 27 = .ok (.aload_n 3, 1) := by decide +kernel
theorem dd_Cb_hash_28 : decode prog_1_method_14_code 28 = .ok (.iload_n 2, 1) := by decide +kernel
theorem dd_Cb_hash_29 : decode prog_1_method_14_code 29 = .ok (.invokevirtual 112, 3) := by decide +kernel
theorem dd_Cb_hash_32 : decode prog_1_method_14_code 32 = .ok (.iload_n 2, 1) := by decide +kernel
theorem dd_Cb_hash_33 : decode prog_1_method_14_code 33 = .ok (.invokevirtual 115, 3) := by decide +kernel
theorem dd_Cb_hash_36 : decode prog_1_method_14_code 36 = .ok (.invokestatic 105, 3) := by decide +kernel
theorem dd_Cb_hash_39 : decode prog_1_method_14_code 39 = .ok (.lreturn, 1) := by decide +kernel
theorem dd_Row_startOfBlockWith_0 : decode prog_2_method_5_code 0 = .ok (.iconst 0, 1) := by decide +kernel
theorem dd_Row_startOfBlockWith_1 : decode prog_2_method_5_code 1 = .ok (.istore_n 2, 1) := by decide +kernel
theorem dd_Row_startOfBlockWith_2 : decode prog_2_method_5_code 2 = .ok (.iload_n 2, 1) := by decide +kernel
theorem dd_Row_startOfBlockWith_3 : decode prog_2_method_5_code 3 = .ok (.iconst 1, 1) := by decide +kernel
theorem dd_Row_startOfBlockWith_4 : decode prog_2_method_5_code 4 = .ok (.iadd, 1) := by decide +kernel
theorem dd_Row_startOfBlockWith_5 : decode prog_2_method_5_code 5 = .ok (.aload_n 0, 1) := by decide +kernel
theorem dd_Row_startOfBlockWith_6 : decode prog_2_method_5_code 6 = .ok (.getfield 30, 3) := by decide +kernel
theorem dd_Row_startOfBlockWith_9 : decode prog_2_method_5_code 9 = .ok (.if_icmp .ge 21, 3) := by decide +kernel
theorem dd_Row_startOfBlockWith_12 : decode prog_2_method_5_code 12 = .ok (.aload_n 0, 1) := by decide +kernel
theorem dd_Row_startOfBlockWith_13 : decode prog_2_method_5_code 13 = .ok (.getfield 15, 3) := by decide +kernel
theorem dd_Row_startOfBlockWith_16 : decode prog_2_method_5_code 16 = .ok (.iload_n 2, 1) := by decide +kernel
theorem dd_Row_startOfBlockWith_17 : decode prog_2_method_5_code 17 = .ok (.iconst 1, 1) := by decide +kernel
theorem dd_Row_startOfBlockWith_18 : decode prog_2_method_5_code 18 = .ok (.iadd, 1) := by decide +kernel
theorem dd_Row_startOfBlockWith_19 : decode prog_2_method_5_code 19 = .ok (.iaload, 1) := by decide +kernel
theorem dd_Row_startOfBlockWith_20 : decode prog_2_method_5_code 20 = .ok (.iload_n 1, 1) := by decide +kernel
theorem dd_Row_startOfBlockWith_21 : decode prog_2_method_5_code 21 = .ok (.if_icmp .gt 9, 3) := by decide +kernel
theorem dd_Row_startOfBlockWith_24 : decode prog_2_method_5_code 24 = .ok (.iinc 2 1, 3) := by decide +kernel
theorem dd_Row_startOfBlockWith_27 : decode prog_2_method_5_code 27 = .ok (.goto (-25), 3) := by decide +kernel
theorem dd_Row_startOfBlockWith_30 : decode prog_2_method_5_code 30 = .ok (.aload_n 0, 1) := by decide +kernel
theorem dd_Row_startOfBlockWith_31 : decode prog_2_method_5_code 31 = .ok (.getfield 15, 3) := by decide +kernel
theorem dd_Row_startOfBlockWith_34 : decode prog_2_method_5_code 34 = .ok (.iload_n 2, 1) := by decide +kernel
theorem dd_Row_startOfBlockWith_35 : decode prog_2_method_5_code 35 = .ok (.iaload, 1) := by decide +kernel
theorem dd_Row_startOfBlockWith_36 : decode prog_2_method_5_code 36 = .ok (.ireturn, 1) := by decide +kernel
theorem dd_Rul_numberAt_0 : decode prog_3_method_6_code 0 = .ok (.iconst 0, 1) := by decide +kernel
theorem dd_Rul_numberAt_1 : decode prog_3_method_6_code 1 = .ok (.istore 4, 2) := by decide +kernel
theorem dd_Rul_numberAt_3 : decode prog_3_method_6_code 3 = .ok (.iload_n 2, 1) := by decide +kernel
theorem dd_Rul_numberAt_4 : decode prog_3_method_6_code 4 = .ok (.istore 5, 2) := by decide +kernel
theorem dd_Rul_numberAt_6 : decode prog_3_method_6_code 6 = .ok (.iload 5, 2) := by decide +kernel
theorem dd_Rul_numberAt_8 : decode prog_3_method_6_code 8 = .ok (.iload_n 3, 1) := by decide +kernel
theorem dd_Rul_numberAt_9 : decode prog_3_method_6_code 9 = .ok (.if_icmp .gt 21, 3) := by decide +kernel
theorem dd_Rul_numberAt_12 : decode prog_3_method_6_code 12 = .ok (.aload_n 0, 1) := by decide +kernel
theorem dd_Rul_numberAt_13 : decode prog_3_method_6_code 13 = .ok (.iload 4, 2) := by decide +kernel
theorem dd_Rul_numberAt_15 : decode prog_3_method_6_code 15 = .ok (.aload_n 1, 1) := by decide +kernel
theorem dd_Rul_numberAt_16 : decode prog_3_method_6_code 16 = .ok (.iload_n 2, 1) := by decide +kernel
theorem dd_Rul_numberAt_17 : decode prog_3_method_6_code 17 = .ok (.iload 5, 2) := by decide +kernel
theorem dd_Rul_numberAt_19 : decode prog_3_method_6_code 19 = .ok (.invokevirtual 44, 3) := by decide +kernel
theorem dd_Rul_numberAt_22 : decode prog_3_method_6_code 22 = .ok (.istore 4, 2) := by decide +kernel
theorem dd_Rul_numberAt_24 : decode prog_3_method_6_code 24 = .ok (.iinc 5 1, 3) := by decide +kernel
theorem dd_Rul_numberAt_27 : decode prog_3_method_6_code 27 = .ok (.goto (-21), 3) := by decide +kernel
theorem dd_Rul_numberAt_30 : decode prog_3_method_6_code 30 = .ok (.iload 4, 2) := by decide +kernel
theorem dd_Rul_numberAt_32 : decode prog_3_method_6_code 32 = .ok (.ireturn, 1) := by decide +kernel
theorem dd_Cb_alike_0 : decode prog_1_method_15_code 0 = .ok (.iload_n 1, 1) := by decide +kernel
theorem dd_Cb_alike_1 : decode prog_1_method_15_code 1 = .ok (.invokestatic 45, 3) := by decide +kernel
theorem dd_Cb_alike_4 : decode prog_1_method_15_code 4 = .ok (.ifCond .eq 19, 3) := by decide +kernel
theorem dd_Cb_alike_7 : decode prog_1_method_15_code 7 = .ok (.iload_n 2, 1) := by decide +kernel
theorem dd_Cb_alike_8 : decode prog_1_method_15_code 8 = .ok (.invokestatic 45, 3) := by decide +kernel
theorem dd_Cb_alike_11 : decode prog_1_method_15_code 11 = .ok (.ifCond .eq 12, 3) := by decide +kernel
theorem dd_Cb_alike_14 : decode prog_1_method_15_code 14 = .ok (.iload_n 3, 1) := by decide +kernel
theorem dd_Cb_alike_15 : decode prog_1_method_15_code 15 = .ok (.ifCond .lt 8, 3) := by decide +kernel
theorem dd_Cb_alike_18 : decode prog_1_method_15_code 18 = .ok (.iload_n 3, 1) := by decide +kernel
theorem dd_Cb_alike_19 : decode prog_1_method_15_code 19 = .ok (.iconst 3, 1) := by decide +kernel
theorem dd_Cb_alike_20 : decode prog_1_method_15_code 20 = .ok (.if_icmp .le 5, 3) := by decide +kernel
theorem dd_Cb_alike_23 : decode prog_1_method_15_code 23 = .ok (.iconst (-1), 1) := by decide +kernel
theorem dd_Cb_alike_24 : decode prog_1_method_15_code 24 = .ok (.ireturn, 1) := by decide +kernel
theorem dd_Cb_alike_25 : decode prog_1_method_15_code 25 = .ok (.aload_n 0, 1) := by decide +kernel
theorem dd_Cb_alike_26 : decode prog_1_method_15_code 26 = .ok (.iload_n 1, 1) := by decide +kernel
theorem dd_Cb_alike_27 : decode prog_1_method_15_code 27 = .ok (.invokevirtual 119, 3) := by decide +kernel
theorem dd_Cb_alike_30 : decode prog_1_method_15_code 30 = .ok (.astore 4, 2) := by decide +kernel
theorem dd_Cb_alike_32 : decode prog_1_method_15_code 32 = .ok (.aload_n 0, 1) := by decide +kernel
theorem dd_Cb_alike_33 : decode prog_1_method_15_code 33 = .ok (.iload_n 2, 1) := by decide +kernel
theorem dd_Cb_alike_34 : decode prog_1_method_15_code 34 = .ok (.invokevirtual 119, 3) := by decide +kernel
theorem dd_Cb_alike_37 : decode prog_1_method_15_code 37 = .ok (.astore 5, 2) := by decide +kernel
theorem dd_Cb_alike_39 : decode prog_1_method_15_code 39 = .ok (.iload_n 3, 1) := by decide +kernel
theorem dd_Cb_alike_40 : decode prog_1_method_15_code 40 = .ok (.tableswitch 52 0 2 #[28, 36, 44], 28) := by decide +kernel
theorem dd_Cb_alike_68 : decode prog_1_method_15_code 68 = .ok (.aload 4, 2) := by decide +kernel
theorem dd_Cb_alike_70 : decode prog_1_method_15_code 70 = .ok (.aload 5, 2) := by decide +kernel
theorem dd_Cb_alike_72 : decode prog_1_method_15_code 72 = .ok (.invokevirtual 122, 3) := by decide +kernel
theorem dd_Cb_alike_75 : decode prog_1_method_15_code 75 = .ok (.ireturn, 1) := by decide +kernel
theorem dd_Cb_alike_76 : decode prog_1_method_15_code 76 = .ok (.aload 4, 2) := by decide +kernel
theorem dd_Cb_alike_78 : decode prog_1_method_15_code 78 = .ok (.aload 5, 2) := by decide +kernel
theorem dd_Cb_alike_80 : decode prog_1_method_15_code 80 = .ok (.invokevirtual 126, 3) := by decide +kernel
theorem dd_Cb_alike_83 : decode prog_1_method_15_code 83 = .ok (.ireturn, 1) := by decide +kernel
theorem dd_Cb_alike_84 : decode prog_1_method_15_code 84 = .ok (.aload 4, 2) := by decide +kernel
theorem dd_Cb_alike_86 : decode prog_1_method_15_code 86 = .ok (.aload 5, 2) := by decide +kernel
theorem dd_Cb_alike_88 : decode prog_1_method_15_code 88 = .ok (.invokevirtual 129, 3) := by decide +kernel
theorem dd_Cb_alike_91 : decode prog_1_method_15_code 91 = .ok (.ireturn, 1) := by decide +kernel
theorem dd_Cb_alike_92 : decode prog_1_method_15_code 92 = .ok (.aload 4, 2) := by decide +kernel
theorem dd_Cb_alike_94 : decode prog_1_method_15_code 94 = .ok (.aload 5, 2) := by decide +kernel
theorem dd_Cb_alike_96 : decode prog_1_method_15_code 96 = .ok (.invokevirtual 132, 3) := by decide +kernel
theorem dd_Cb_alike_99 : decode prog_1_method_15_code 99 = .ok (.ireturn, 1) := by decide +kernel
theorem dd_Cb_indexedRow_0 : decode prog_1_method_28_code 0 = .ok (.aload_n 0, 1) := by decide +kernel
theorem dd_Cb_indexedRow_1 : decode prog_1_method_28_code 1 = .ok (.getfield 18, 3) := by decide +kernel
theorem dd_Cb_indexedRow_4 : decode prog_1_method_28_code 4 = .ok (.iload_n 1, 1) := by decide +kernel
theorem dd_Cb_indexedRow_5 : decode prog_1_method_28_code 5 = .ok (.aaload, 1) := by decide +kernel
theorem dd_Cb_indexedRow_6 : decode prog_1_method_28_code 6 = .ok (.aload_n 0, 1) := by decide +kernel
theorem dd_Cb_indexedRow_7 : decode prog_1_method_28_code 7 = .ok (.getfield 10, 3) := by decide +kernel
theorem dd_Cb_indexedRow_10 : decode prog_1_method_28_code 10 = .ok (.invokevirtual 183, 3) := by decide +kernel
theorem dd_Cb_indexedRow_13 : decode prog_1_method_28_code 13 = .ok (.aload_n 0, 1) := by decide +kernel
theorem dd_Cb_indexedRow_14 : decode prog_1_method_28_code 14 = .ok (.getfield 18, 3) := by decide +kernel
theorem dd_Cb_indexedRow_17 : decode prog_1_method_28_code 17 = .ok (.iload_n 1, 1) := by decide +kernel
theorem dd_Cb_indexedRow_18 : decode prog_1_method_28_code 18 = .ok (.aaload, 1) := by decide +kernel
theorem dd_Cb_indexedRow_19 : decode prog_1_method_28_code 19 = .ok (.getfield 73, 3) := by decide +kernel
theorem dd_Cb_indexedRow_22 : decode prog_1_method_28_code 22 = .ok (.areturn, 1) := by decide +kernel
theorem dd_Txt_indexBy_0 : decode prog_6_method_4_code 0 = .ok (.aload_n 0, 1) := by decide +kernel
theorem dd_Txt_indexBy_1 : decode prog_6_method_4_code 1 = .ok (.aload_n 1, 1) := by decide +kernel
theorem dd_Txt_indexBy_2 : decode prog_6_method_4_code 2 = .ok (.invokevirtual 52, 3) := by decide +kernel
theorem dd_Txt_indexBy_5 : decode prog_6_method_4_code 5 = .ok (.aload_n 0, 1) := by decide +kernel
theorem dd_Txt_indexBy_6 : decode prog_6_method_4_code 6 = .ok (.getfield 24, 3) := by decide +kernel
theorem dd_Txt_indexBy_9 : decode prog_6_method_4_code 9 = .ok (.ifCond .ne 15, 3) := by decide +kernel
theorem dd_Txt_indexBy_12 : decode prog_6_method_4_code 12 = .ok (.aload_n 0, 1) := by decide +kernel
theorem dd_Txt_indexBy_13 : decode prog_6_method_4_code 13 = .ok (.getfield 14, 3) := by decide +kernel
theorem dd_Txt_indexBy_16 : decode prog_6_method_4_code 16 = .ok (.invokevirtual 56, 3) := by decide +kernel
theorem dd_Txt_indexBy_19 : decode prog_6_method_4_code 19 = .ok (.aload_n 0, 1) := by decide +kernel
theorem dd_Txt_indexBy_20 : decode prog_6_method_4_code 20 = .ok (.iconst 1, 1) := by decide +kernel
theorem dd_Txt_indexBy_21 : decode prog_6_method_4_code 21 = .ok (.putfield 24, 3) := by decide +kernel
theorem dd_Txt_indexBy_24 : decode prog_6_method_4_code 24 = .ok (.return_, 1) := by decide +kernel
theorem dd_Row_index_0 : decode prog_2_method_9_code 0 = .ok (.aload_n 0, 1) := by decide +kernel
theorem dd_Row_index_1 : decode prog_2_method_9_code 1 = .ok (.invokevirtual 27, 3) := by decide +kernel
theorem dd_Row_index_4 : decode prog_2_method_9_code 4 = .ok (.iconst 0, 1) := by decide +kernel
theorem dd_Row_index_5 : decode prog_2_method_9_code 5 = .ok (.istore_n 1, 1) := by decide +kernel
theorem dd_Row_index_6 : decode prog_2_method_9_code 6 = .ok (.iload_n 1, 1) := by decide +kernel
theorem dd_Row_index_7 : decode prog_2_method_9_code 7 = .ok (.aload_n 0, 1) := by decide +kernel
theorem dd_Row_index_8 : decode prog_2_method_9_code 8 = .ok (.getfield 30, 3) := by decide +kernel
theorem dd_Row_index_11 : decode prog_2_method_9_code 11 = .ok (.if_icmp .ge 35, 3) := by decide +kernel
theorem dd_Row_index_14 : decode prog_2_method_9_code 14 = .ok (.aload_n 0, 1) := by decide +kernel
theorem dd_Row_index_15 : decode prog_2_method_9_code 15 = .ok (.getfield 18, 3) := by decide +kernel
theorem dd_Row_index_18 : decode prog_2_method_9_code 18 = .ok (.iload_n 1, 1) := by decide +kernel
theorem dd_Row_index_19 : decode prog_2_method_9_code 19 = .ok (.aload_n 0, 1) := by decide +kernel
theorem dd_Row_index_20 : decode prog_2_method_9_code 20 = .ok (.iload_n 1, 1) := by decide +kernel
theorem dd_Row_index_21 : decode prog_2_method_9_code 21 = .ok (.invokevirtual 45, 3) := by decide +kernel
theorem dd_Row_index_24 : decode prog_2_method_9_code 24 = .ok (.iastore, 1) := by decide +kernel
theorem dd_Row_index_25 : decode prog_2_method_9_code 25 = .ok (.aload_n 0, 1) := by decide +kernel
theorem dd_Row_index_26 : decode prog_2_method_9_code 26 = .ok (.aload_n 0, 1) := by decide +kernel
theorem dd_Row_index_27 : decode prog_2_method_9_code 27 = .ok (.iload_n 1, 1) := by decide +kernel
theorem dd_Row_index_28 : decode prog_2_method_9_code 28 = .ok (.invokevirtual 49, 3) := by decide +kernel
theorem dd_Row_index_31 : decode prog_2_method_9_code 31 = .ok (.iconst (-1), 1) := by decide +kernel
theorem dd_Row_index_32 : decode prog_2_method_9_code 32 = .ok (.if_icmp .ne 8, 3) := by decide +kernel
theorem dd_Row_index_35 : decode prog_2_method_9_code 35 = .ok (.aload_n 0, 1) := by decide +kernel
theorem dd_Row_index_36 : decode prog_2_method_9_code 36 = .ok (.iload_n 1, 1) := by decide +kernel
theorem dd_Row_index_37 : decode prog_2_method_9_code 37 = .ok (.invokevirtual 53, 3) := by decide +kernel
theorem dd_Row_index_40 : decode prog_2_method_9_code 40 = .ok (.iinc 1 1, 3) := by decide +kernel
theorem dd_Row_index_43 : decode prog_2_method_9_code 43 = .ok (.goto (-37), 3) := by decide +kernel
theorem dd_Row_index_46 : decode prog_2_method_9_code 46 = .ok (.return_, 1) := by decide +kernel
theorem dd_Row_find_0 : decode prog_2_method_11_code 0 = .ok (.aload_n 0, 1) := by decide +kernel
theorem dd_Row_find_1 : decode prog_2_method_11_code 1 = .ok (.getfield 24, 3) := by decide +kernel
theorem dd_Row_find_4 : decode prog_2_method_11_code 4 = .ok (.aload_n 1, 1) := by decide +kernel
theorem dd_Row_find_5 : decode prog_2_method_11_code 5 = .ok (.getfield 18, 3) := by decide +kernel
theorem dd_Row_find_8 : decode prog_2_method_11_code 8 = .ok (.iload_n 2, 1) := by decide +kernel
theorem dd_Row_find_9 : decode prog_2_method_11_code 9 = .ok (.iaload, 1) := by decide +kernel
theorem dd_Row_find_10 : decode prog_2_method_11_code 10 = .ok (.sipush 255, 3) := by decide +kernel
theorem dd_Row_find_13 : decode prog_2_method_11_code 13 = .ok (.iand, 1) := by decide +kernel
theorem dd_Row_find_14 : decode prog_2_method_11_code 14 = .ok (.iaload, 1) := by decide +kernel
theorem dd_Row_find_15 : decode prog_2_method_11_code 15 = .ok (.istore_n 3, 1) := by decide +kernel
theorem dd_Row_find_16 : decode prog_2_method_11_code 16 = .ok (.iconst 0, 1) := by decide +kernel
theorem dd_Row_find_17 : decode prog_2_method_11_code 17 = .ok (.istore 4, 2) := by decide +kernel
theorem dd_Row_find_19 : decode prog_2_method_11_code 19 = .ok (.iload 4, 2) := by decide +kernel
theorem dd_Row_find_21 : decode prog_2_method_11_code 21 = .ok (.aload_n 0, 1) := by decide +kernel
theorem dd_Row_find_22 : decode prog_2_method_11_code 22 = .ok (.getfield 30, 3) := by decide +kernel
theorem dd_Row_find_25 : decode prog_2_method_11_code 25 = .ok (.if_icmp .ge 33, 3) := by decide +kernel
theorem dd_Row_find_28 : decode prog_2_method_11_code 28 = .ok (.iload_n 3, 1) := by decide +kernel
theorem dd_Row_find_29 : decode prog_2_method_11_code 29 = .ok (.iconst (-1), 1) := by decide +kernel
theorem dd_Row_find_30 : decode prog_2_method_11_code 30 = .ok (.if_icmp .eq 28, 3) := by decide +kernel
theorem dd_Row_find_33 : decode prog_2_method_11_code 33 = .ok (.aload_n 0, 1) := by decide +kernel
theorem dd_Row_find_34 : decode prog_2_method_11_code 34 = .ok (.iload_n 3, 1) := by decide +kernel
theorem dd_Row_find_35 : decode prog_2_method_11_code 35 = .ok (.aload_n 1, 1) := by decide +kernel
theorem dd_Row_find_36 : decode prog_2_method_11_code 36 = .ok (.iload_n 2, 1) := by decide +kernel
theorem dd_Row_find_37 : decode prog_2_method_11_code 37 = .ok (.invokevirtual 57, 3) := by decide +kernel
theorem dd_Row_find_40 : decode prog_2_method_11_code 40 = .ok (.ifCond .eq 5, 3) := by decide +kernel
theorem dd_Row_find_43 : decode prog_2_method_11_code 43 = .ok (.iload_n 3, 1) := by decide +kernel
theorem dd_Row_find_44 : decode prog_2_method_11_code 44 = .ok (.ireturn, 1) := by decide +kernel
theorem dd_Row_find_45 : decode prog_2_method_11_code 45 = .ok (.aload_n 0, 1) := by decide +kernel
theorem dd_Row_find_46 : decode prog_2_method_11_code 46 = .ok (.getfield 21, 3) := by decide +kernel
theorem dd_Row_find_49 : decode prog_2_method_11_code 49 = .ok (.iload_n 3, 1) := by decide +kernel
theorem dd_Row_find_50 : decode prog_2_method_11_code 50 = .ok (.iaload, 1) := by decide +kernel
theorem dd_Row_find_51 : decode prog_2_method_11_code 51 = .ok (.istore_n 3, 1) := by decide +kernel
theorem dd_Row_find_52 : decode prog_2_method_11_code 52 = .ok (.iinc 4 1, 3) := by decide +kernel
theorem dd_Row_find_55 : decode prog_2_method_11_code 55 = .ok (.goto (-36), 3) := by decide +kernel
theorem dd_Row_find_58 : decode prog_2_method_11_code 58 = .ok (.iconst (-1), 1) := by decide +kernel
theorem dd_Row_find_59 : decode prog_2_method_11_code 59 = .ok (.ireturn, 1) := by decide +kernel
theorem dd_Row_isLike_0 : decode prog_2_method_12_code 0 = .ok (.aload_n 0, 1) := by decide +kernel
theorem dd_Row_isLike_1 : decode prog_2_method_12_code 1 = .ok (.getfield 18, 3) := by decide +kernel
theorem dd_Row_isLike_4 : decode prog_2_method_12_code 4 = .ok (.iload_n 1, 1) := by decide +kernel
theorem dd_Row_isLike_5 : decode prog_2_method_12_code 5 = .ok (.iaload, 1) := by decide +kernel
theorem dd_Row_isLike_6 : decode prog_2_method_12_code 6 = .ok (.aload_n 2, 1) := by decide +kernel
theorem dd_Row_isLike_7 : decode prog_2_method_12_code 7 = .ok (.getfield 18, 3) := by decide +kernel
theorem dd_Row_isLike_10 : decode prog_2_method_12_code 10 = .ok (.iload_n 3, 1) := by decide +kernel
theorem dd_Row_isLike_11 : decode prog_2_method_12_code 11 = .ok (.iaload, 1) := by decide +kernel
theorem dd_Row_isLike_12 : decode prog_2_method_12_code 12 = .ok (.if_icmp .ne 16, 3) := by decide +kernel
theorem dd_Row_isLike_15 : decode prog_2_method_12_code 15 = .ok (.aload_n 0, 1) := by decide +kernel
theorem dd_Row_isLike_16 : decode prog_2_method_12_code 16 = .ok (.iload_n 1, 1) := by decide +kernel
theorem dd_Row_isLike_17 : decode prog_2_method_12_code 17 = .ok (.invokevirtual 61, 3) := by decide +kernel
theorem dd_Row_isLike_20 : decode prog_2_method_12_code 20 = .ok (.aload_n 2, 1) := by decide +kernel
theorem dd_Row_isLike_21 : decode prog_2_method_12_code 21 = .ok (.iload_n 3, 1) := by decide +kernel
theorem dd_Row_isLike_22 : decode prog_2_method_12_code 22 = .ok (.invokevirtual 61, 3) := by decide +kernel
theorem dd_Row_isLike_25 : decode prog_2_method_12_code 25 = .ok (.if_icmp .eq 5, 3) := by decide +kernel
theorem dd_Row_isLike_28 : decode prog_2_method_12_code 28 = .ok (.iconst 0, 1) := by decide +kernel
theorem dd_Row_isLike_29 : decode prog_2_method_12_code 29 = .ok (.ireturn, 1) := by decide +kernel
theorem dd_Row_isLike_30 : decode prog_2_method_12_code 30 = .ok (.aload_n 0, 1) := by decide +kernel
theorem dd_Row_isLike_31 : decode prog_2_method_12_code 31 = .ok (.getfield 15, 3) := by decide +kernel
theorem dd_Row_isLike_34 : decode prog_2_method_12_code 34 = .ok (.iload_n 1, 1) := by decide +kernel
theorem dd_Row_isLike_35 : decode prog_2_method_12_code 35 = .ok (.iaload, 1) := by decide +kernel
theorem dd_Row_isLike_36 : decode prog_2_method_12_code 36 = .ok (.istore 4, 2) := by decide +kernel
theorem dd_Row_isLike_38 : decode prog_2_method_12_code 38 = .ok (.aload_n 2, 1) := by decide +kernel
theorem dd_Row_isLike_39 : decode prog_2_method_12_code 39 = .ok (.getfield 15, 3) := by decide +kernel
theorem dd_Row_isLike_42 : decode prog_2_method_12_code 42 = .ok (.iload_n 3, 1) := by decide +kernel
theorem dd_Row_isLike_43 : decode prog_2_method_12_code 43 = .ok (.iaload, 1) := by decide +kernel
theorem dd_Row_isLike_44 : decode prog_2_method_12_code 44 = .ok (.istore 5, 2) := by decide +kernel
theorem dd_Row_isLike_46 : decode prog_2_method_12_code 46 = .ok (.aload_n 0, 1) := by decide +kernel
theorem dd_Row_isLike_47 : decode prog_2_method_12_code 47 = .ok (.iload_n 1, 1) := by decide +kernel
theorem dd_Row_isLike_48 : decode prog_2_method_12_code 48 = .ok (.invokevirtual 61, 3) := by decide +kernel
theorem dd_Row_isLike_51 : decode prog_2_method_12_code 51 = .ok (.istore 6, 2) := by decide +kernel
theorem dd_Row_isLike_53 : decode prog_2_method_12_code 53 = .ok (.iconst 0, 1) := by decide +kernel
theorem dd_Row_isLike_54 : decode prog_2_method_12_code 54 = .ok (.istore 7, 2) := by decide +kernel
theorem dd_Row_isLike_56 : decode prog_2_method_12_code 56 = .ok (.iload 7, 2) := by decide +kernel
theorem dd_Row_isLike_58 : decode prog_2_method_12_code 58 = .ok (.iload 6, 2) := by decide +kernel
theorem dd_Row_isLike_60 : decode prog_2_method_12_code 60 = .ok (.if_icmp .ge 34, 3) := by decide +kernel
theorem dd_Row_isLike_63 : decode prog_2_method_12_code 63 = .ok (.aload_n 0, 1) := by decide +kernel
theorem dd_Row_isLike_64 : decode prog_2_method_12_code 64 = .ok (.getfield 9, 3) := by decide +kernel
theorem dd_Row_isLike_67 : decode prog_2_method_12_code 67 = .ok (.iload 4, 2) := by decide +kernel
theorem dd_Row_isLike_69 : decode prog_2_method_12_code 69 = .ok (.iload 7, 2) := by decide +kernel
theorem dd_Row_isLike_71 : decode prog_2_method_12_code 71 = .ok (.iadd, 1) := by decide +kernel
theorem dd_Row_isLike_72 : decode prog_2_method_12_code 72 = .ok (.iaload, 1) := by decide +kernel
theorem dd_Row_isLike_73 : decode prog_2_method_12_code 73 = .ok (.aload_n 2, 1) := by decide +kernel
theorem dd_Row_isLike_74 : decode prog_2_method_12_code 74 = .ok (.getfield 9, 3) := by decide +kernel
theorem dd_Row_isLike_77 : decode prog_2_method_12_code 77 = .ok (.iload 5, 2) := by decide +kernel
theorem dd_Row_isLike_79 : decode prog_2_method_12_code 79 = .ok (.iload 7, 2) := by decide +kernel
theorem dd_Row_isLike_81 : decode prog_2_method_12_code 81 = .ok (.iadd, 1) := by decide +kernel
theorem dd_Row_isLike_82 : decode prog_2_method_12_code 82 = .ok (.iaload, 1) := by decide +kernel
theorem dd_Row_isLike_83 : decode prog_2_method_12_code 83 = .ok (.if_icmp .eq 5, 3) := by decide +kernel
theorem dd_Row_isLike_86 : decode prog_2_method_12_code 86 = .ok (.iconst 0, 1) := by decide +kernel
theorem dd_Row_isLike_87 : decode prog_2_method_12_code 87 = .ok (.ireturn, 1) := by decide +kernel
theorem dd_Row_isLike_88 : decode prog_2_method_12_code 88 = .ok (.iinc 7 1, 3) := by decide +kernel
theorem dd_Row_isLike_91 : decode prog_2_method_12_code 91 = .ok (.goto (-35), 3) := by decide +kernel
theorem dd_Row_isLike_94 : decode prog_2_method_12_code 94 = .ok (.iconst 1, 1) := by decide +kernel
theorem dd_Row_isLike_95 : decode prog_2_method_12_code 95 = .ok (.ireturn, 1) := by decide +kernel
theorem dd_Row_chain_0 : decode prog_2_method_10_code 0 = .ok (.aload_n 0, 1) := by decide +kernel
theorem dd_Row_chain_1 : decode prog_2_method_10_code 1 = .ok (.getfield 18, 3) := by decide +kernel
theorem dd_Row_chain_4 : decode prog_2_method_10_code 4 = .ok (.iload_n 1, 1) := by decide +kernel
theorem dd_Row_chain_5 : decode prog_2_method_10_code 5 = .ok (.iaload, 1) := by decide +kernel
theorem dd_Row_chain_6 : decode prog_2_method_10_code 6 = .ok (.sipush 255, 3) := by decide +kernel
theorem dd_Row_chain_9 : decode prog_2_method_10_code 9 = .ok (.iand, 1) := by decide +kernel
theorem dd_Row_chain_10 : decode prog_2_method_10_code 10 = .ok (.istore_n 2, 1) := by decide +kernel
theorem dd_Row_chain_11 : decode prog_2_method_10_code 11 = .ok (.aload_n 0, 1) := by decide +kernel
theorem dd_Row_chain_12 : decode prog_2_method_10_code 12 = .ok (.getfield 21, 3) := by decide +kernel
theorem dd_Row_chain_15 : decode prog_2_method_10_code 15 = .ok (.iload_n 1, 1) := by decide +kernel
theorem dd_Row_chain_16 : decode prog_2_method_10_code 16 = .ok (.aload_n 0, 1) := by decide +kernel
theorem dd_Row_chain_17 : decode prog_2_method_10_code 17 = .ok (.getfield 24, 3) := by decide +kernel
theorem dd_Row_chain_20 : decode prog_2_method_10_code 20 = .ok (.iload_n 2, 1) := by decide +kernel
theorem dd_Row_chain_21 : decode prog_2_method_10_code 21 = .ok (.iaload, 1) := by decide +kernel
theorem dd_Row_chain_22 : decode prog_2_method_10_code 22 = .ok (.iastore, 1) := by decide +kernel
theorem dd_Row_chain_23 : decode prog_2_method_10_code 23 = .ok (.aload_n 0, 1) := by decide +kernel
theorem dd_Row_chain_24 : decode prog_2_method_10_code 24 = .ok (.getfield 24, 3) := by decide +kernel
theorem dd_Row_chain_27 : decode prog_2_method_10_code 27 = .ok (.iload_n 2, 1) := by decide +kernel
theorem dd_Row_chain_28 : decode prog_2_method_10_code 28 = .ok (.iload_n 1, 1) := by decide +kernel
theorem dd_Row_chain_29 : decode prog_2_method_10_code 29 = .ok (.iastore, 1) := by decide +kernel
theorem dd_Row_chain_30 : decode prog_2_method_10_code 30 = .ok (.return_, 1) := by decide +kernel
theorem dd_Row_blocksIn_0 : decode prog_2_method_13_code 0 = .ok (.iconst 0, 1) := by decide +kernel
theorem dd_Row_blocksIn_1 : decode prog_2_method_13_code 1 = .ok (.istore_n 2, 1) := by decide +kernel
theorem dd_Row_blocksIn_2 : decode prog_2_method_13_code 2 = .ok (.iconst 0, 1) := by decide +kernel
theorem dd_Row_blocksIn_3 : decode prog_2_method_13_code 3 = .ok (.istore_n 3, 1) := by decide +kernel
theorem dd_Row_blocksIn_4 : decode prog_2_method_13_code 4 = .ok (.iload_n 3, 1) := by decide +kernel
theorem dd_Row_blocksIn_5 : decode prog_2_method_13_code 5 = .ok (.aload_n 0, 1) := by decide +kernel
theorem dd_Row_blocksIn_6 : decode prog_2_method_13_code 6 = .ok (.getfield 30, 3) := by decide +kernel
theorem dd_Row_blocksIn_9 : decode prog_2_method_13_code 9 = .ok (.if_icmp .ge 22, 3) := by decide +kernel
theorem dd_Row_blocksIn_12 : decode prog_2_method_13_code 12 = .ok (.aload_n 1, 1) := by decide +kernel
theorem dd_Row_blocksIn_13 : decode prog_2_method_13_code 13 = .ok (.aload_n 0, 1) := by decide +kernel
theorem dd_Row_blocksIn_14 : decode prog_2_method_13_code 14 = .ok (.iload_n 3, 1) := by decide +kernel
theorem dd_Row_blocksIn_15 : decode prog_2_method_13_code 15 = .ok (.invokevirtual 49, 3) := by decide +kernel
theorem dd_Row_blocksIn_18 : decode prog_2_method_13_code 18 = .ok (.iconst (-1), 1) := by decide +kernel
theorem dd_Row_blocksIn_19 : decode prog_2_method_13_code 19 = .ok (.if_icmp .eq 6, 3) := by decide +kernel
theorem dd_Row_blocksIn_22 : decode prog_2_method_13_code 22 = .ok (.iinc 2 1, 3) := by decide +kernel
theorem dd_Row_blocksIn_25 : decode prog_2_method_13_code 25 = .ok (.iinc 3 1, 3) := by decide +kernel
theorem dd_Row_blocksIn_28 : decode prog_2_method_13_code 28 = .ok (.goto (-24), 3) := by decide +kernel
theorem dd_Row_blocksIn_31 : decode prog_2_method_13_code 31 = .ok (.iload_n 2, 1) := by decide +kernel
theorem dd_Row_blocksIn_32 : decode prog_2_method_13_code 32 = .ok (.ireturn, 1) := by decide +kernel
theorem dd_Row_bytesIn_0 : decode prog_2_method_14_code 0 = .ok (.iconst 0, 1) := by decide +kernel
theorem dd_Row_bytesIn_1 : decode prog_2_method_14_code 1 = .ok (.istore_n 2, 1) := by decide +kernel
theorem dd_Row_bytesIn_2 : decode prog_2_method_14_code 2 = .ok (.iconst 0, 1) := by decide +kernel
theorem dd_Row_bytesIn_3 : decode prog_2_method_14_code 3 = .ok (.istore_n 3, 1) := by decide +kernel
theorem dd_Row_bytesIn_4 : decode prog_2_method_14_code 4 = .ok (.iload_n 3, 1) := by decide +kernel
theorem dd_Row_bytesIn_5 : decode prog_2_method_14_code 5 = .ok (.aload_n 0, 1) := by decide +kernel
theorem dd_Row_bytesIn_6 : decode prog_2_method_14_code 6 = .ok (.getfield 30, 3) := by decide +kernel
theorem dd_Row_bytesIn_9 : decode prog_2_method_14_code 9 = .ok (.if_icmp .ge 27, 3) := by decide +kernel
theorem dd_Row_bytesIn_12 : decode prog_2_method_14_code 12 = .ok (.aload_n 1, 1) := by decide +kernel
theorem dd_Row_bytesIn_13 : decode prog_2_method_14_code 13 = .ok (.aload_n 0, 1) := by decide +kernel
theorem dd_Row_bytesIn_14 : decode prog_2_method_14_code 14 = .ok (.iload_n 3, 1) := by decide +kernel
theorem dd_Row_bytesIn_15 : decode prog_2_method_14_code 15 = .ok (.invokevirtual 49, 3) := by decide +kernel
theorem dd_Row_bytesIn_18 : decode prog_2_method_14_code 18 = .ok (.iconst (-1), 1) := by decide +kernel
theorem dd_Row_bytesIn_19 : decode prog_2_method_14_code 19 = .ok (.if_icmp .eq 11, 3) := by decide +kernel
theorem dd_Row_bytesIn_22 : decode prog_2_method_14_code 22 = .ok (.iload_n 2, 1) := by decide +kernel
theorem dd_Row_bytesIn_23 : decode prog_2_method_14_code 23 = .ok (.aload_n 0, 1) := by decide +kernel
theorem dd_Row_bytesIn_24 : decode prog_2_method_14_code 24 = .ok (.iload_n 3, 1) := by decide +kernel
theorem dd_Row_bytesIn_25 : decode prog_2_method_14_code 25 = .ok (.invokevirtual 61, 3) := by decide +kernel
theorem dd_Row_bytesIn_28 : decode prog_2_method_14_code 28 = .ok (.iadd, 1) := by decide +kernel
theorem dd_Row_bytesIn_29 : decode prog_2_method_14_code 29 = .ok (.istore_n 2, 1) := by decide +kernel
theorem dd_Row_bytesIn_30 : decode prog_2_method_14_code 30 = .ok (.iinc 3 1, 3) := by decide +kernel
theorem dd_Row_bytesIn_33 : decode prog_2_method_14_code 33 = .ok (.goto (-29), 3) := by decide +kernel
theorem dd_Row_bytesIn_36 : decode prog_2_method_14_code 36 = .ok (.iload_n 2, 1) := by decide +kernel
theorem dd_Row_bytesIn_37 : decode prog_2_method_14_code 37 = .ok (.ireturn, 1) := by decide +kernel
theorem dd_Row_firstLike_0 : decode prog_2_method_15_code 0 = .ok (.aload_n 0, 1) := by decide +kernel
theorem dd_Row_firstLike_1 : decode prog_2_method_15_code 1 = .ok (.getfield 30, 3) := by decide +kernel
theorem dd_Row_firstLike_4 : decode prog_2_method_15_code 4 = .ok (.aload_n 1, 1) := by decide +kernel
theorem dd_Row_firstLike_5 : decode prog_2_method_15_code 5 = .ok (.getfield 30, 3) := by decide +kernel
theorem dd_Row_firstLike_8 : decode prog_2_method_15_code 8 = .ok (.invokestatic 64, 3) := by decide +kernel
theorem dd_Row_firstLike_11 : decode prog_2_method_15_code 11 = .ok (.istore_n 2, 1) := by decide +kernel
theorem dd_Row_firstLike_12 : decode prog_2_method_15_code 12 = .ok (.iconst 0, 1) := by decide +kernel
theorem dd_Row_firstLike_13 : decode prog_2_method_15_code 13 = .ok (.istore_n 3, 1) := by decide +kernel
theorem dd_Row_firstLike_14 : decode prog_2_method_15_code 14 = .ok (.iload_n 3, 1) := by decide +kernel
theorem dd_Row_firstLike_15 : decode prog_2_method_15_code 15 = .ok (.iload_n 2, 1) := by decide +kernel
theorem dd_Row_firstLike_16 : decode prog_2_method_15_code 16 = .ok (.if_icmp .ge 21, 3) := by decide +kernel
theorem dd_Row_firstLike_19 : decode prog_2_method_15_code 19 = .ok (.aload_n 0, 1) := by decide +kernel
theorem dd_Row_firstLike_20 : decode prog_2_method_15_code 20 = .ok (.iload_n 3, 1) := by decide +kernel
theorem dd_Row_firstLike_21 : decode prog_2_method_15_code 21 = .ok (.aload_n 1, 1) := by decide +kernel
theorem dd_Row_firstLike_22 : decode prog_2_method_15_code 22 = .ok (.iload_n 3, 1) := by decide +kernel
theorem dd_Row_firstLike_23 : decode prog_2_method_15_code 23 = .ok (.invokevirtual 57, 3) := by decide +kernel
theorem dd_Row_firstLike_26 : decode prog_2_method_15_code 26 = .ok (.ifCond .ne 5, 3) := by decide +kernel
theorem dd_Row_firstLike_29 : decode prog_2_method_15_code 29 = .ok (.iload_n 3, 1) := by decide +kernel
theorem dd_Row_firstLike_30 : decode prog_2_method_15_code 30 = .ok (.ireturn, 1) := by decide +kernel
theorem dd_Row_firstLike_31 : decode prog_2_method_15_code 31 = .ok (.iinc 3 1, 3) := by decide +kernel
theorem dd_Row_firstLike_34 : decode prog_2_method_15_code 34 = .ok (.goto (-20), 3) := by decide +kernel
theorem dd_Row_firstLike_37 : decode prog_2_method_15_code 37 = .ok (.iload_n 2, 1) := by decide +kernel
theorem dd_Row_firstLike_38 : decode prog_2_method_15_code 38 = .ok (.ireturn, 1) := by decide +kernel
theorem dd_Row_lastLike_0 : decode prog_2_method_16_code 0 = .ok (.aload_n 0, 1) := by decide +kernel
theorem dd_Row_lastLike_1 : decode prog_2_method_16_code 1 = .ok (.getfield 30, 3) := by decide +kernel
theorem dd_Row_lastLike_4 : decode prog_2_method_16_code 4 = .ok (.aload_n 1, 1) := by decide +kernel
theorem dd_Row_lastLike_5 : decode prog_2_method_16_code 5 = .ok (.getfield 30, 3) := by decide +kernel
theorem dd_Row_lastLike_8 : decode prog_2_method_16_code 8 = .ok (.invokestatic 64, 3) := by decide +kernel
theorem dd_Row_lastLike_11 : decode prog_2_method_16_code 11 = .ok (.istore_n 2, 1) := by decide +kernel
theorem dd_Row_lastLike_12 : decode prog_2_method_16_code 12 = .ok (.iconst 0, 1) := by decide +kernel
theorem dd_Row_lastLike_13 : decode prog_2_method_16_code 13 = .ok (.istore_n 3, 1) := by decide +kernel
theorem dd_Row_lastLike_14 : decode prog_2_method_16_code 14 = .ok (.iload_n 3, 1) := by decide +kernel
theorem dd_Row_lastLike_15 : decode prog_2_method_16_code 15 = .ok (.iload_n 2, 1) := by decide +kernel
theorem dd_Row_lastLike_16 : decode prog_2_method_16_code 16 = .ok (.if_icmp .ge 35, 3) := by decide +kernel
theorem dd_Row_lastLike_19 : decode prog_2_method_16_code 19 = .ok (.aload_n 0, 1) := by decide +kernel
theorem dd_Row_lastLike_20 : decode prog_2_method_16_code 20 = .ok (.aload_n 0, 1) := by decide +kernel
theorem dd_Row_lastLike_21 : decode prog_2_method_16_code 21 = .ok (.getfield 30, 3) := by decide +kernel
theorem dd_Row_lastLike_24 : decode prog_2_method_16_code 24 = .ok (.iconst 1, 1) := by decide +kernel
theorem dd_Row_lastLike_25 : decode prog_2_method_16_code 25 = .ok (.isub, 1) := by decide +kernel
theorem dd_Row_lastLike_26 : decode prog_2_method_16_code 26 = .ok (.iload_n 3, 1) := by decide +kernel
theorem dd_Row_lastLike_27 : decode prog_2_method_16_code 27 = .ok (.isub, 1) := by decide +kernel
theorem dd_Row_lastLike_28 : decode prog_2_method_16_code 28 = .ok (.aload_n 1, 1) := by decide +kernel
theorem dd_Row_lastLike_29 : decode prog_2_method_16_code 29 = .ok (.aload_n 1, 1) := by decide +kernel
theorem dd_Row_lastLike_30 : decode prog_2_method_16_code 30 = .ok (.getfield 30, 3) := by decide +kernel
theorem dd_Row_lastLike_33 : decode prog_2_method_16_code 33 = .ok (.iconst 1, 1) := by decide +kernel
theorem dd_Row_lastLike_34 : decode prog_2_method_16_code 34 = .ok (.isub, 1) := by decide +kernel
theorem dd_Row_lastLike_35 : decode prog_2_method_16_code 35 = .ok (.iload_n 3, 1) := by decide +kernel
theorem dd_Row_lastLike_36 : decode prog_2_method_16_code 36 = .ok (.isub, 1) := by decide +kernel
theorem dd_Row_lastLike_37 : decode prog_2_method_16_code 37 = .ok (.invokevirtual 57, 3) := by decide +kernel
theorem dd_Row_lastLike_40 : decode prog_2_method_16_code 40 = .ok (.ifCond .ne 5, 3) := by decide +kernel
theorem dd_Row_lastLike_43 : decode prog_2_method_16_code 43 = .ok (.iload_n 3, 1) := by decide +kernel
theorem dd_Row_lastLike_44 : decode prog_2_method_16_code 44 = .ok (.ireturn, 1) := by decide +kernel
theorem dd_Row_lastLike_45 : decode prog_2_method_16_code 45 = .ok (.iinc 3 1, 3) := by decide +kernel
theorem dd_Row_lastLike_48 : decode prog_2_method_16_code 48 = .ok (.goto (-34), 3) := by decide +kernel
theorem dd_Row_lastLike_51 : decode prog_2_method_16_code 51 = .ok (.iload_n 2, 1) := by decide +kernel
theorem dd_Row_lastLike_52 : decode prog_2_method_16_code 52 = .ok (.ireturn, 1) := by decide +kernel
theorem dd_Cb_keep_0 : decode prog_1_method_16_code 0 = .ok (.iload_n 1, 1) := by decide +kernel
theorem dd_Cb_keep_1 : decode prog_1_method_16_code 1 = .ok (.invokestatic 45, 3) := by decide +kernel
theorem dd_Cb_keep_4 : decode prog_1_method_16_code 4 = .ok (.ifCond .eq 18, 3) := by decide +kernel
theorem dd_Cb_keep_7 : decode prog_1_method_16_code 7 = .ok (.aload_n 0, 1) := by decide +kernel
theorem dd_Cb_keep_8 : decode prog_1_method_16_code 8 = .ok (.getfield 26, 3) := by decide +kernel
theorem dd_Cb_keep_11 : decode prog_1_method_16_code 11 = .ok (.aload_n 0, 1) := by decide +kernel
theorem dd_Cb_keep_12 : decode prog_1_method_16_code 12 = .ok (.iload_n 1, 1) := by decide +kernel
theorem dd_Cb_keep_13 : decode prog_1_method_16_code 13 = .ok (.invokevirtual 119, 3) := by decide +kernel
theorem dd_Cb_keep_16 : decode prog_1_method_16_code 16 = .ok (.invokevirtual 135, 3) := by decide +kernel
theorem dd_Cb_keep_19 : decode prog_1_method_16_code 19 = .ok (.goto 4, 3) := by decide +kernel
theorem dd_Cb_keep_22 : decode prog_1_method_16_code 22 = .ok (.iconst (-1), 1) := by decide +kernel
theorem dd_Cb_keep_23 : decode prog_1_method_16_code 23 = .ok (.ireturn, 1) := by decide +kernel
theorem dd_Sto_takeIn_0 : decode prog_5_method_3_code 0 = .ok (.aload_n 0, 1) := by decide +kernel
theorem dd_Sto_takeIn_1 : decode prog_5_method_3_code 1 = .ok (.invokevirtual 38, 3) := by decide +kernel
theorem dd_Sto_takeIn_4 : decode prog_5_method_3_code 4 = .ok (.istore_n 2, 1) := by decide +kernel
theorem dd_Sto_takeIn_5 : decode prog_5_method_3_code 5 = .ok (.iload_n 2, 1) := by decide +kernel
theorem dd_Sto_takeIn_6 : decode prog_5_method_3_code 6 = .ok (.iconst (-1), 1) := by decide +kernel
theorem dd_Sto_takeIn_7 : decode prog_5_method_3_code 7 = .ok (.if_icmp .ne 6, 3) := by decide +kernel
theorem dd_Sto_takeIn_10 : decode prog_5_method_3_code 10 = .ok (.bipush (-2), 2) := by decide +kernel
theorem dd_Sto_takeIn_12 : decode prog_5_method_3_code 12 = .ok (.ireturn, 1) := by decide +kernel
theorem dd_Sto_takeIn_13 : decode prog_5_method_3_code 13 = .ok (.aload_n 0, 1) := by decide +kernel
theorem dd_Sto_takeIn_14 : decode prog_5_method_3_code 14 = .ok (.getfield 29, 3) := by decide +kernel
theorem dd_Sto_takeIn_17 : decode prog_5_method_3_code 17 = .ok (.iload_n 2, 1) := by decide +kernel
theorem dd_Sto_takeIn_18 : decode prog_5_method_3_code 18 = .ok (.aaload, 1) := by decide +kernel
theorem dd_Sto_takeIn_19 : decode prog_5_method_3_code 19 = .ok (.astore_n 3, 1) := by decide +kernel
theorem dd_Sto_takeIn_20 : decode prog_5_method_3_code 20 = .ok (.iconst 0, 1) := by decide +kernel
theorem dd_Sto_takeIn_21 : decode prog_5_method_3_code 21 = .ok (.istore 4, 2) := by decide +kernel
theorem dd_Sto_takeIn_23 : decode prog_5_method_3_code 23 = .ok (.iload 4, 2) := by decide +kernel
theorem dd_Sto_takeIn_25 : decode prog_5_method_3_code 25 = .ok (.aload_n 1, 1) := by decide +kernel
theorem dd_Sto_takeIn_26 : decode prog_5_method_3_code 26 = .ok (.getfield 42, 3) := by decide +kernel
theorem dd_Sto_takeIn_29 : decode prog_5_method_3_code 29 = .ok (.if_icmp .ge 76, 3) := by decide +kernel
theorem dd_Sto_takeIn_32 : decode prog_5_method_3_code 32 = .ok (.aload_n 0, 1) := by decide +kernel
theorem dd_Sto_takeIn_33 : decode prog_5_method_3_code 33 = .ok (.getfield 14, 3) := by decide +kernel
theorem dd_Sto_takeIn_36 : decode prog_5_method_3_code 36 = .ok (.aload_n 1, 1) := by decide +kernel
theorem dd_Sto_takeIn_37 : decode prog_5_method_3_code 37 = .ok (.iload 4, 2) := by decide +kernel
theorem dd_Sto_takeIn_39 : decode prog_5_method_3_code 39 = .ok (.invokevirtual 46, 3) := by decide +kernel
theorem dd_Sto_takeIn_42 : decode prog_5_method_3_code 42 = .ok (.istore 5, 2) := by decide +kernel
theorem dd_Sto_takeIn_44 : decode prog_5_method_3_code 44 = .ok (.iload 5, 2) := by decide +kernel
theorem dd_Sto_takeIn_46 : decode prog_5_method_3_code 46 = .ok (.iconst (-1), 1) := by decide +kernel
theorem dd_Sto_takeIn_47 : decode prog_5_method_3_code 47 = .ok (.if_icmp .ne 27, 3) := by decide +kernel
theorem dd_Sto_takeIn_50 : decode prog_5_method_3_code 50 = .ok (.aload_n 0, 1) := by decide +kernel
theorem dd_Sto_takeIn_51 : decode prog_5_method_3_code 51 = .ok (.getfield 14, 3) := by decide +kernel
theorem dd_Sto_takeIn_54 : decode prog_5_method_3_code 54 = .ok (.aload_n 1, 1) := by decide +kernel
theorem dd_Sto_takeIn_55 : decode prog_5_method_3_code 55 = .ok (.iload 4, 2) := by decide +kernel
theorem dd_Sto_takeIn_57 : decode prog_5_method_3_code 57 = .ok (.invokevirtual 50, 3) := by decide +kernel
theorem dd_Sto_takeIn_60 : decode prog_5_method_3_code 60 = .ok (.invokevirtual 54, 3) := by decide +kernel
theorem dd_Sto_takeIn_63 : decode prog_5_method_3_code 63 = .ok (.ifCond .ne 11, 3) := by decide +kernel
theorem dd_Sto_takeIn_66 : decode prog_5_method_3_code 66 = .ok (.aload_n 0, 1) := by decide +kernel
theorem dd_Sto_takeIn_67 : decode prog_5_method_3_code 67 = .ok (.invokevirtual 58, 3) := by decide +kernel
theorem dd_Sto_takeIn_70 : decode prog_5_method_3_code 70 = .ok (.pop, 1) := by decide +kernel
theorem dd_Sto_takeIn_71 : decode prog_5_method_3_code 71 = .ok (.bipush (-2), 2) := by decide +kernel
theorem dd_Sto_takeIn_73 : decode prog_5_method_3_code 73 = .ok (.ireturn, 1) := by decide +kernel
theorem dd_Sto_takeIn_74 : decode prog_5_method_3_code 74 = .ok (.aload_n 3, 1) := by decide +kernel
theorem dd_Sto_takeIn_75 : decode prog_5_method_3_code 75 = .ok (.getfield 61, 3) := by decide +kernel
theorem dd_Sto_takeIn_78 : decode prog_5_method_3_code 78 = .ok (.iload 4, 2) := by decide +kernel
theorem dd_Sto_takeIn_80 : decode prog_5_method_3_code 80 = .ok (.iload 5, 2) := by decide +kernel
theorem dd_Sto_takeIn_82 : decode prog_5_method_3_code 82 = .ok (.iconst (-1), 1) := by decide +kernel
theorem dd_Sto_takeIn_83 : decode prog_5_method_3_code 83 = .ok (.if_icmp .ne 13, 3) := by decide +kernel
theorem dd_Sto_takeIn_86 : decode prog_5_method_3_code 86 = .ok (.aload_n 0, 1) := by decide +kernel
theorem dd_Sto_takeIn_87 : decode prog_5_method_3_code 87 = .ok (.aload_n 1, 1) := by decide +kernel
theorem dd_Sto_takeIn_88 : decode prog_5_method_3_code 88 = .ok (.iload 4, 2) := by decide +kernel
theorem dd_Sto_takeIn_90 : decode prog_5_method_3_code 90 = .ok (.invokevirtual 64, 3) := by decide +kernel
theorem dd_Sto_takeIn_93 : decode prog_5_method_3_code 93 = .ok (.goto 5, 3) := by decide +kernel
theorem dd_Sto_takeIn_96 : decode prog_5_method_3_code 96 = .ok (.iload 5, 2) := by decide +kernel
theorem dd_Sto_takeIn_98 : decode prog_5_method_3_code 98 = .ok (.iastore, 1) := by decide +kernel
theorem dd_Sto_takeIn_99 : decode prog_5_method_3_code 99 = .ok (.iinc 4 1, 3) := by decide +kernel
theorem dd_Sto_takeIn_102 : decode prog_5_method_3_code 102 = .ok (.goto (-79), 3) := by decide +kernel
theorem dd_Sto_takeIn_105 : decode prog_5_method_3_code 105 = .ok (.aload_n 3, 1) := by decide +kernel
theorem dd_Sto_takeIn_106 : decode prog_5_method_3_code 106 = .ok (.aload_n 1, 1) := by decide +kernel
theorem dd_Sto_takeIn_107 : decode prog_5_method_3_code 107 = .ok (.getfield 42, 3) := by decide +kernel
theorem dd_Sto_takeIn_110 : decode prog_5_method_3_code 110 = .ok (.putfield 67, 3) := by decide +kernel
theorem dd_Sto_takeIn_113 : decode prog_5_method_3_code 113 = .ok (.aload_n 3, 1) := by decide +kernel
theorem dd_Sto_takeIn_114 : decode prog_5_method_3_code 114 = .ok (.aload_n 1, 1) := by decide +kernel
theorem dd_Sto_takeIn_115 : decode prog_5_method_3_code 115 = .ok (.invokevirtual 68, 3) := by decide +kernel
theorem dd_Sto_takeIn_118 : decode prog_5_method_3_code 118 = .ok (.putfield 71, 3) := by decide +kernel
theorem dd_Sto_takeIn_121 : decode prog_5_method_3_code 121 = .ok (.aload_n 3, 1) := by decide +kernel
theorem dd_Sto_takeIn_122 : decode prog_5_method_3_code 122 = .ok (.iconst 1, 1) := by decide +kernel
theorem dd_Sto_takeIn_123 : decode prog_5_method_3_code 123 = .ok (.putfield 34, 3) := by decide +kernel
theorem dd_Sto_takeIn_126 : decode prog_5_method_3_code 126 = .ok (.aload_n 0, 1) := by decide +kernel
theorem dd_Sto_takeIn_127 : decode prog_5_method_3_code 127 = .ok (.aload_n 3, 1) := by decide +kernel
theorem dd_Sto_takeIn_128 : decode prog_5_method_3_code 128 = .ok (.iconst 1, 1) := by decide +kernel
theorem dd_Sto_takeIn_129 : decode prog_5_method_3_code 129 = .ok (.invokevirtual 74, 3) := by decide +kernel
theorem dd_Sto_takeIn_132 : decode prog_5_method_3_code 132 = .ok (.iload_n 2, 1) := by decide +kernel
theorem dd_Sto_takeIn_133 : decode prog_5_method_3_code 133 = .ok (.ireturn, 1) := by decide +kernel
theorem dd_Sto_leastFree_0 : decode prog_5_method_9_code 0 = .ok (.iconst 0, 1) := by decide +kernel
theorem dd_Sto_leastFree_1 : decode prog_5_method_9_code 1 = .ok (.istore_n 1, 1) := by decide +kernel
theorem dd_Sto_leastFree_2 : decode prog_5_method_9_code 2 = .ok (.iload_n 1, 1) := by decide +kernel
theorem dd_Sto_leastFree_3 : decode prog_5_method_9_code 3 = .ok (.bipush 10, 2) := by decide +kernel
theorem dd_Sto_leastFree_5 : decode prog_5_method_9_code 5 = .ok (.if_icmp .ge 23, 3) := by decide +kernel
theorem dd_Sto_leastFree_8 : decode prog_5_method_9_code 8 = .ok (.aload_n 0, 1) := by decide +kernel
theorem dd_Sto_leastFree_9 : decode prog_5_method_9_code 9 = .ok (.getfield 29, 3) := by decide +kernel
theorem dd_Sto_leastFree_12 : decode prog_5_method_9_code 12 = .ok (.iload_n 1, 1) := by decide +kernel
theorem dd_Sto_leastFree_13 : decode prog_5_method_9_code 13 = .ok (.aaload, 1) := by decide +kernel
theorem dd_Sto_leastFree_14 : decode prog_5_method_9_code 14 = .ok (.getfield 34, 3) := by decide +kernel
theorem dd_Sto_leastFree_17 : decode prog_5_method_9_code 17 = .ok (.ifCond .ne 5, 3) := by decide +kernel
theorem dd_Sto_leastFree_20 : decode prog_5_method_9_code 20 = .ok (.iload_n 1, 1) := by decide +kernel
theorem dd_Sto_leastFree_21 : decode prog_5_method_9_code 21 = .ok (.ireturn, 1) := by decide +kernel
theorem dd_Sto_leastFree_22 : decode prog_5_method_9_code 22 = .ok (.iinc 1 1, 3) := by decide +kernel
theorem dd_Sto_leastFree_25 : decode prog_5_method_9_code 25 = .ok (.goto (-23), 3) := by decide +kernel
theorem dd_Sto_leastFree_28 : decode prog_5_method_9_code 28 = .ok (.iconst (-1), 1) := by decide +kernel
theorem dd_Sto_leastFree_29 : decode prog_5_method_9_code 29 = .ok (.ireturn, 1) := by decide +kernel
theorem dd_Row_hasRoomFor_0 : decode prog_2_method_17_code 0 = .ok (.aload_n 0, 1) := by decide +kernel
theorem dd_Row_hasRoomFor_1 : decode prog_2_method_17_code 1 = .ok (.getfield 30, 3) := by decide +kernel
theorem dd_Row_hasRoomFor_4 : decode prog_2_method_17_code 4 = .ok (.aload_n 0, 1) := by decide +kernel
theorem dd_Row_hasRoomFor_5 : decode prog_2_method_17_code 5 = .ok (.getfield 18, 3) := by decide +kernel
theorem dd_Row_hasRoomFor_8 : decode prog_2_method_17_code 8 = .ok (.arraylength, 1) := by decide +kernel
theorem dd_Row_hasRoomFor_9 : decode prog_2_method_17_code 9 = .ok (.if_icmp .ge 21, 3) := by decide +kernel
theorem dd_Row_hasRoomFor_12 : decode prog_2_method_17_code 12 = .ok (.iload_n 1, 1) := by decide +kernel
theorem dd_Row_hasRoomFor_13 : decode prog_2_method_17_code 13 = .ok (.aload_n 0, 1) := by decide +kernel
theorem dd_Row_hasRoomFor_14 : decode prog_2_method_17_code 14 = .ok (.getfield 9, 3) := by decide +kernel
theorem dd_Row_hasRoomFor_17 : decode prog_2_method_17_code 17 = .ok (.arraylength, 1) := by decide +kernel
theorem dd_Row_hasRoomFor_18 : decode prog_2_method_17_code 18 = .ok (.aload_n 0, 1) := by decide +kernel
theorem dd_Row_hasRoomFor_19 : decode prog_2_method_17_code 19 = .ok (.invokevirtual 70, 3) := by decide +kernel
theorem dd_Row_hasRoomFor_22 : decode prog_2_method_17_code 22 = .ok (.isub, 1) := by decide +kernel
theorem dd_Row_hasRoomFor_23 : decode prog_2_method_17_code 23 = .ok (.if_icmp .gt 7, 3) := by decide +kernel
theorem dd_Row_hasRoomFor_26 : decode prog_2_method_17_code 26 = .ok (.iconst 1, 1) := by decide +kernel
theorem dd_Row_hasRoomFor_27 : decode prog_2_method_17_code 27 = .ok (.goto 4, 3) := by decide +kernel
theorem dd_Row_hasRoomFor_30 : decode prog_2_method_17_code 30 = .ok (.iconst 0, 1) := by decide +kernel
theorem dd_Row_hasRoomFor_31 : decode prog_2_method_17_code 31 = .ok (.ireturn, 1) := by decide +kernel
theorem dd_Sto_sweep_0 : decode prog_5_method_12_code 0 = .ok (.aload_n 0, 1) := by decide +kernel
theorem dd_Sto_sweep_1 : decode prog_5_method_12_code 1 = .ok (.getfield 14, 3) := by decide +kernel
theorem dd_Sto_sweep_4 : decode prog_5_method_12_code 4 = .ok (.invokevirtual 68, 3) := by decide +kernel
theorem dd_Sto_sweep_7 : decode prog_5_method_12_code 7 = .ok (.istore_n 1, 1) := by decide +kernel
theorem dd_Sto_sweep_8 : decode prog_5_method_12_code 8 = .ok (.aload_n 0, 1) := by decide +kernel
theorem dd_Sto_sweep_9 : decode prog_5_method_12_code 9 = .ok (.getfield 14, 3) := by decide +kernel
theorem dd_Sto_sweep_12 : decode prog_5_method_12_code 12 = .ok (.getfield 42, 3) := by decide +kernel
theorem dd_Sto_sweep_15 : decode prog_5_method_12_code 15 = .ok (.istore_n 2, 1) := by decide +kernel
theorem dd_Sto_sweep_16 : decode prog_5_method_12_code 16 = .ok (.aload_n 0, 1) := by decide +kernel
theorem dd_Sto_sweep_17 : decode prog_5_method_12_code 17 = .ok (.getfield 14, 3) := by decide +kernel
theorem dd_Sto_sweep_20 : decode prog_5_method_12_code 20 = .ok (.iconst 0, 1) := by decide +kernel
theorem dd_Sto_sweep_21 : decode prog_5_method_12_code 21 = .ok (.putfield 42, 3) := by decide +kernel
theorem dd_Sto_sweep_24 : decode prog_5_method_12_code 24 = .ok (.aload_n 0, 1) := by decide +kernel
theorem dd_Sto_sweep_25 : decode prog_5_method_12_code 25 = .ok (.getfield 14, 3) := by decide +kernel
theorem dd_Sto_sweep_28 : decode prog_5_method_12_code 28 = .ok (.invokevirtual 100, 3) := by decide +kernel
theorem dd_Sto_sweep_31 : decode prog_5_method_12_code 31 = .ok (.iconst 0, 1) := by decide +kernel
theorem dd_Sto_sweep_32 : decode prog_5_method_12_code 32 = .ok (.istore_n 3, 1) := by decide +kernel
theorem dd_Sto_sweep_33 : decode prog_5_method_12_code 33 = .ok (.iload_n 3, 1) := by decide +kernel
theorem dd_Sto_sweep_34 : decode prog_5_method_12_code 34 = .ok (.iload_n 2, 1) := by decide +kernel
theorem dd_Sto_sweep_35 : decode prog_5_method_12_code 35 = .ok (.if_icmp .ge 61, 3) := by decide +kernel
theorem dd_Sto_sweep_38 : decode prog_5_method_12_code 38 = .ok (.aload_n 0, 1) := by decide +kernel
theorem dd_Sto_sweep_39 : decode prog_5_method_12_code 39 = .ok (.getfield 20, 3) := by decide +kernel
theorem dd_Sto_sweep_42 : decode prog_5_method_12_code 42 = .ok (.iload_n 3, 1) := by decide +kernel
theorem dd_Sto_sweep_43 : decode prog_5_method_12_code 43 = .ok (.iaload, 1) := by decide +kernel
theorem dd_Sto_sweep_44 : decode prog_5_method_12_code 44 = .ok (.ifCond .le 46, 3) := by decide +kernel
theorem dd_Sto_sweep_47 : decode prog_5_method_12_code 47 = .ok (.aload_n 0, 1) := by decide +kernel
theorem dd_Sto_sweep_48 : decode prog_5_method_12_code 48 = .ok (.getfield 24, 3) := by decide +kernel
theorem dd_Sto_sweep_51 : decode prog_5_method_12_code 51 = .ok (.iload_n 3, 1) := by decide +kernel
theorem dd_Sto_sweep_52 : decode prog_5_method_12_code 52 = .ok (.aload_n 0, 1) := by decide +kernel
theorem dd_Sto_sweep_53 : decode prog_5_method_12_code 53 = .ok (.getfield 14, 3) := by decide +kernel
theorem dd_Sto_sweep_56 : decode prog_5_method_12_code 56 = .ok (.getfield 42, 3) := by decide +kernel
theorem dd_Sto_sweep_59 : decode prog_5_method_12_code 59 = .ok (.iastore, 1) := by decide +kernel
theorem dd_Sto_sweep_60 : decode prog_5_method_12_code 60 = .ok (.aload_n 0, 1) := by decide +kernel
theorem dd_Sto_sweep_61 : decode prog_5_method_12_code 61 = .ok (.getfield 20, 3) := by decide +kernel
theorem dd_Sto_sweep_64 : decode prog_5_method_12_code 64 = .ok (.aload_n 0, 1) := by decide +kernel
theorem dd_Sto_sweep_65 : decode prog_5_method_12_code 65 = .ok (.getfield 14, 3) := by decide +kernel
theorem dd_Sto_sweep_68 : decode prog_5_method_12_code 68 = .ok (.getfield 42, 3) := by decide +kernel
theorem dd_Sto_sweep_71 : decode prog_5_method_12_code 71 = .ok (.aload_n 0, 1) := by decide +kernel
theorem dd_Sto_sweep_72 : decode prog_5_method_12_code 72 = .ok (.getfield 20, 3) := by decide +kernel
theorem dd_Sto_sweep_75 : decode prog_5_method_12_code 75 = .ok (.iload_n 3, 1) := by decide +kernel
theorem dd_Sto_sweep_76 : decode prog_5_method_12_code 76 = .ok (.iaload, 1) := by decide +kernel
theorem dd_Sto_sweep_77 : decode prog_5_method_12_code 77 = .ok (.iastore, 1) := by decide +kernel
theorem dd_Sto_sweep_78 : decode prog_5_method_12_code 78 = .ok (.aload_n 0, 1) := by decide +kernel
theorem dd_Sto_sweep_79 : decode prog_5_method_12_code 79 = .ok (.getfield 14, 3) := by decide +kernel
theorem dd_Sto_sweep_82 : decode prog_5_method_12_code 82 = .ok (.aload_n 0, 1) := by decide +kernel
theorem dd_Sto_sweep_83 : decode prog_5_method_12_code 83 = .ok (.getfield 14, 3) := by decide +kernel
theorem dd_Sto_sweep_86 : decode prog_5_method_12_code 86 = .ok (.iload_n 3, 1) := by decide +kernel
theorem dd_Sto_sweep_87 : decode prog_5_method_12_code 87 = .ok (.invokevirtual 96, 3) := by decide +kernel
theorem dd_Sto_sweep_90 : decode prog_5_method_12_code 90 = .ok (.iinc 3 1, 3) := by decide +kernel
theorem dd_Sto_sweep_93 : decode prog_5_method_12_code 93 = .ok (.goto (-60), 3) := by decide +kernel
theorem dd_Sto_sweep_96 : decode prog_5_method_12_code 96 = .ok (.aload_n 0, 1) := by decide +kernel
theorem dd_Sto_sweep_97 : decode prog_5_method_12_code 97 = .ok (.invokevirtual 103, 3) := by decide +kernel
theorem dd_Sto_sweep_100 : decode prog_5_method_12_code 100 = .ok (.iload_n 1, 1) := by decide +kernel
theorem dd_Sto_sweep_101 : decode prog_5_method_12_code 101 = .ok (.aload_n 0, 1) := by decide +kernel
theorem dd_Sto_sweep_102 : decode prog_5_method_12_code 102 = .ok (.getfield 14, 3) := by decide +kernel
theorem dd_Sto_sweep_105 : decode prog_5_method_12_code 105 = .ok (.invokevirtual 68, 3) := by decide +kernel
theorem dd_Sto_sweep_108 : decode prog_5_method_12_code 108 = .ok (.isub, 1) := by decide +kernel
theorem dd_Sto_sweep_109 : decode prog_5_method_12_code 109 = .ok (.ireturn, 1) := by decide +kernel
theorem dd_Row_append_0 : decode prog_2_method_18_code 0 = .ok (.aload_n 1, 1) := by decide +kernel
theorem dd_Row_append_1 : decode prog_2_method_18_code 1 = .ok (.iload_n 2, 1) := by decide +kernel
theorem dd_Row_append_2 : decode prog_2_method_18_code 2 = .ok (.invokevirtual 61, 3) := by decide +kernel
theorem dd_Row_append_5 : decode prog_2_method_18_code 5 = .ok (.istore_n 3, 1) := by decide +kernel
theorem dd_Row_append_6 : decode prog_2_method_18_code 6 = .ok (.aload_n 1, 1) := by decide +kernel
theorem dd_Row_append_7 : decode prog_2_method_18_code 7 = .ok (.getfield 9, 3) := by decide +kernel
theorem dd_Row_append_10 : decode prog_2_method_18_code 10 = .ok (.aload_n 1, 1) := by decide +kernel
theorem dd_Row_append_11 : decode prog_2_method_18_code 11 = .ok (.getfield 15, 3) := by decide +kernel
theorem dd_Row_append_14 : decode prog_2_method_18_code 14 = .ok (.iload_n 2, 1) := by decide +kernel
theorem dd_Row_append_15 : decode prog_2_method_18_code 15 = .ok (.iaload, 1) := by decide +kernel
theorem dd_Row_append_16 : decode prog_2_method_18_code 16 = .ok (.aload_n 0, 1) := by decide +kernel
theorem dd_Row_append_17 : decode prog_2_method_18_code 17 = .ok (.getfield 9, 3) := by decide +kernel
theorem dd_Row_append_20 : decode prog_2_method_18_code 20 = .ok (.aload_n 0, 1) := by decide +kernel
theorem dd_Row_append_21 : decode prog_2_method_18_code 21 = .ok (.invokevirtual 70, 3) := by decide +kernel
theorem dd_Row_append_24 : decode prog_2_method_18_code 24 = .ok (.iload_n 3, 1) := by decide +kernel
theorem dd_Row_append_25 : decode prog_2_method_18_code 25 = .ok (.invokestatic 74, 3) := by decide +kernel
theorem dd_Row_append_28 : decode prog_2_method_18_code 28 = .ok (.aload_n 0, 1) := by decide +kernel
theorem dd_Row_append_29 : decode prog_2_method_18_code 29 = .ok (.getfield 18, 3) := by decide +kernel
theorem dd_Row_append_32 : decode prog_2_method_18_code 32 = .ok (.aload_n 0, 1) := by decide +kernel
theorem dd_Row_append_33 : decode prog_2_method_18_code 33 = .ok (.getfield 30, 3) := by decide +kernel
theorem dd_Row_append_36 : decode prog_2_method_18_code 36 = .ok (.aload_n 1, 1) := by decide +kernel
theorem dd_Row_append_37 : decode prog_2_method_18_code 37 = .ok (.getfield 18, 3) := by decide +kernel
theorem dd_Row_append_40 : decode prog_2_method_18_code 40 = .ok (.iload_n 2, 1) := by decide +kernel
theorem dd_Row_append_41 : decode prog_2_method_18_code 41 = .ok (.iaload, 1) := by decide +kernel
theorem dd_Row_append_42 : decode prog_2_method_18_code 42 = .ok (.iastore, 1) := by decide +kernel
theorem dd_Row_append_43 : decode prog_2_method_18_code 43 = .ok (.aload_n 0, 1) := by decide +kernel
theorem dd_Row_append_44 : decode prog_2_method_18_code 44 = .ok (.aload_n 0, 1) := by decide +kernel
theorem dd_Row_append_45 : decode prog_2_method_18_code 45 = .ok (.getfield 30, 3) := by decide +kernel
theorem dd_Row_append_48 : decode prog_2_method_18_code 48 = .ok (.invokevirtual 53, 3) := by decide +kernel
theorem dd_Row_append_51 : decode prog_2_method_18_code 51 = .ok (.aload_n 0, 1) := by decide +kernel
theorem dd_Row_append_52 : decode prog_2_method_18_code 52 = .ok (.aload_n 0, 1) := by decide +kernel
theorem dd_Row_append_53 : decode prog_2_method_18_code 53 = .ok (.invokevirtual 70, 3) := by decide +kernel
theorem dd_Row_append_56 : decode prog_2_method_18_code 56 = .ok (.iload_n 3, 1) := by decide +kernel
theorem dd_Row_append_57 : decode prog_2_method_18_code 57 = .ok (.iadd, 1) := by decide +kernel
theorem dd_Row_append_58 : decode prog_2_method_18_code 58 = .ok (.invokevirtual 80, 3) := by decide +kernel
theorem dd_Row_append_61 : decode prog_2_method_18_code 61 = .ok (.return_, 1) := by decide +kernel
theorem dd_Sto_renumber_0 : decode prog_5_method_13_code 0 = .ok (.iconst 0, 1) := by decide +kernel
theorem dd_Sto_renumber_1 : decode prog_5_method_13_code 1 = .ok (.istore_n 1, 1) := by decide +kernel
theorem dd_Sto_renumber_2 : decode prog_5_method_13_code 2 = .ok (.iload_n 1, 1) := by decide +kernel
theorem dd_Sto_renumber_3 : decode prog_5_method_13_code 3 = .ok (.bipush 10, 2) := by decide +kernel
theorem dd_Sto_renumber_5 : decode prog_5_method_13_code 5 = .ok (.if_icmp .ge 56, 3) := by decide +kernel
theorem dd_Sto_renumber_8 : decode prog_5_method_13_code 8 = .ok (.aload_n 0, 1) := by decide +kernel
theorem dd_Sto_renumber_9 : decode prog_5_method_13_code 9 = .ok (.getfield 29, 3) := by decide +kernel
theorem dd_Sto_renumber_12 : decode prog_5_method_13_code 12 = .ok (.iload_n 1, 1) := by decide +kernel
theorem dd_Sto_renumber_13 : decode prog_5_method_13_code 13 = .ok (.aaload, 1) := by decide +kernel
theorem dd_Sto_renumber_14 : decode prog_5_method_13_code 14 = .ok (.astore_n 2, 1) := by decide +kernel
theorem dd_Sto_renumber_15 : decode prog_5_method_13_code 15 = .ok (.iconst 0, 1) := by decide +kernel
theorem dd_Sto_renumber_16 : decode prog_5_method_13_code 16 = .ok (.istore_n 3, 1) := by decide +kernel
theorem dd_Sto_renumber_17 : decode prog_5_method_13_code 17 = .ok (.aload_n 2, 1) := by decide +kernel
theorem dd_Sto_renumber_18 : decode prog_5_method_13_code 18 = .ok (.getfield 34, 3) := by decide +kernel
theorem dd_Sto_renumber_21 : decode prog_5_method_13_code 21 = .ok (.ifCond .eq 34, 3) := by decide +kernel
theorem dd_Sto_renumber_24 : decode prog_5_method_13_code 24 = .ok (.iload_n 3, 1) := by decide +kernel
theorem dd_Sto_renumber_25 : decode prog_5_method_13_code 25 = .ok (.aload_n 2, 1) := by decide +kernel
theorem dd_Sto_renumber_26 : decode prog_5_method_13_code 26 = .ok (.getfield 67, 3) := by decide +kernel
theorem dd_Sto_renumber_29 : decode prog_5_method_13_code 29 = .ok (.if_icmp .ge 26, 3) := by decide +kernel
theorem dd_Sto_renumber_32 : decode prog_5_method_13_code 32 = .ok (.aload_n 2, 1) := by decide +kernel
theorem dd_Sto_renumber_33 : decode prog_5_method_13_code 33 = .ok (.getfield 61, 3) := by decide +kernel
theorem dd_Sto_renumber_36 : decode prog_5_method_13_code 36 = .ok (.iload_n 3, 1) := by decide +kernel
theorem dd_Sto_renumber_37 : decode prog_5_method_13_code 37 = .ok (.aload_n 0, 1) := by decide +kernel
theorem dd_Sto_renumber_38 : decode prog_5_method_13_code 38 = .ok (.getfield 24, 3) := by decide +kernel
theorem dd_Sto_renumber_41 : decode prog_5_method_13_code 41 = .ok (.aload_n 2, 1) := by decide +kernel
theorem dd_Sto_renumber_42 : decode prog_5_method_13_code 42 = .ok (.getfield 61, 3) := by decide +kernel
theorem dd_Sto_renumber_45 : decode prog_5_method_13_code 45 = .ok (.iload_n 3, 1) := by decide +kernel
theorem dd_Sto_renumber_46 : decode prog_5_method_13_code 46 = .ok (.iaload, 1) := by decide +kernel
theorem dd_Sto_renumber_47 : decode prog_5_method_13_code 47 = .ok (.iaload, 1) := by decide +kernel
theorem dd_Sto_renumber_48 : decode prog_5_method_13_code 48 = .ok (.iastore, 1) := by decide +kernel
theorem dd_Sto_renumber_49 : decode prog_5_method_13_code 49 = .ok (.iinc 3 1, 3) := by decide +kernel
theorem dd_Sto_renumber_52 : decode prog_5_method_13_code 52 = .ok (.goto (-35), 3) := by decide +kernel
theorem dd_Sto_renumber_55 : decode prog_5_method_13_code 55 = .ok (.iinc 1 1, 3) := by decide +kernel
theorem dd_Sto_renumber_58 : decode prog_5_method_13_code 58 = .ok (.goto (-56), 3) := by decide +kernel
theorem dd_Sto_renumber_61 : decode prog_5_method_13_code 61 = .ok (.return_, 1) := by decide +kernel
theorem dd_Sto_takeInNew_0 : decode prog_5_method_10_code 0 = .ok (.aload_n 0, 1) := by decide +kernel
theorem dd_Sto_takeInNew_1 : decode prog_5_method_10_code 1 = .ok (.getfield 14, 3) := by decide +kernel
theorem dd_Sto_takeInNew_4 : decode prog_5_method_10_code 4 = .ok (.getfield 42, 3) := by decide +kernel
theorem dd_Sto_takeInNew_7 : decode prog_5_method_10_code 7 = .ok (.istore_n 3, 1) := by decide +kernel
theorem dd_Sto_takeInNew_8 : decode prog_5_method_10_code 8 = .ok (.aload_n 0, 1) := by decide +kernel
theorem dd_Sto_takeInNew_9 : decode prog_5_method_10_code 9 = .ok (.getfield 20, 3) := by decide +kernel
theorem dd_Sto_takeInNew_12 : decode prog_5_method_10_code 12 = .ok (.iload_n 3, 1) := by decide +kernel
theorem dd_Sto_takeInNew_13 : decode prog_5_method_10_code 13 = .ok (.iconst 0, 1) := by decide +kernel
theorem dd_Sto_takeInNew_14 : decode prog_5_method_10_code 14 = .ok (.iastore, 1) := by decide +kernel
theorem dd_Sto_takeInNew_15 : decode prog_5_method_10_code 15 = .ok (.aload_n 0, 1) := by decide +kernel
theorem dd_Sto_takeInNew_16 : decode prog_5_method_10_code 16 = .ok (.getfield 14, 3) := by decide +kernel
theorem dd_Sto_takeInNew_19 : decode prog_5_method_10_code 19 = .ok (.aload_n 1, 1) := by decide +kernel
theorem dd_Sto_takeInNew_20 : decode prog_5_method_10_code 20 = .ok (.iload_n 2, 1) := by decide +kernel
theorem dd_Sto_takeInNew_21 : decode prog_5_method_10_code 21 = .ok (.invokevirtual 96, 3) := by decide +kernel
theorem dd_Sto_takeInNew_24 : decode prog_5_method_10_code 24 = .ok (.iload_n 3, 1) := by decide +kernel
theorem dd_Sto_takeInNew_25 : decode prog_5_method_10_code 25 = .ok (.ireturn, 1) := by decide +kernel
theorem dd_Sto_countPlaces_0 : decode prog_5_method_11_code 0 = .ok (.iconst 0, 1) := by decide +kernel
theorem dd_Sto_countPlaces_1 : decode prog_5_method_11_code 1 = .ok (.istore_n 3, 1) := by decide +kernel
theorem dd_Sto_countPlaces_2 : decode prog_5_method_11_code 2 = .ok (.iload_n 3, 1) := by decide +kernel
theorem dd_Sto_countPlaces_3 : decode prog_5_method_11_code 3 = .ok (.aload_n 1, 1) := by decide +kernel
theorem dd_Sto_countPlaces_4 : decode prog_5_method_11_code 4 = .ok (.getfield 67, 3) := by decide +kernel
theorem dd_Sto_countPlaces_7 : decode prog_5_method_11_code 7 = .ok (.if_icmp .ge 24, 3) := by decide +kernel
theorem dd_Sto_countPlaces_10 : decode prog_5_method_11_code 10 = .ok (.aload_n 0, 1) := by decide +kernel
theorem dd_Sto_countPlaces_11 : decode prog_5_method_11_code 11 = .ok (.getfield 20, 3) := by decide +kernel
theorem dd_Sto_countPlaces_14 : decode prog_5_method_11_code 14 = .ok (.aload_n 1, 1) := by decide +kernel
theorem dd_Sto_countPlaces_15 : decode prog_5_method_11_code 15 = .ok (.getfield 61, 3) := by decide +kernel
theorem dd_Sto_countPlaces_18 : decode prog_5_method_11_code 18 = .ok (.iload_n 3, 1) := by decide +kernel
theorem dd_Sto_countPlaces_19 : decode prog_5_method_11_code 19 = .ok (.iaload, 1) := by decide +kernel
theorem dd_Sto_countPlaces_20 : decode prog_5_method_11_code 20 = .ok (.dup2, 1) := by decide +kernel
theorem dd_Sto_countPlaces_21 : decode prog_5_method_11_code 21 = .ok (.iaload, 1) := by decide +kernel
theorem dd_Sto_countPlaces_22 : decode prog_5_method_11_code 22 = .ok (.iload_n 2, 1) := by decide +kernel
theorem dd_Sto_countPlaces_23 : decode prog_5_method_11_code 23 = .ok (.iadd, 1) := by decide +kernel
theorem dd_Sto_countPlaces_24 : decode prog_5_method_11_code 24 = .ok (.iastore, 1) := by decide +kernel
theorem dd_Sto_countPlaces_25 : decode prog_5_method_11_code 25 = .ok (.iinc 3 1, 3) := by decide +kernel
theorem dd_Sto_countPlaces_28 : decode prog_5_method_11_code 28 = .ok (.goto (-26), 3) := by decide +kernel
theorem dd_Sto_countPlaces_31 : decode prog_5_method_11_code 31 = .ok (.return_, 1) := by decide +kernel
theorem dd_Cb_drop_0 : decode prog_1_method_17_code 0 = .ok (.aload_n 0, 1) := by decide +kernel
theorem dd_Cb_drop_1 : decode prog_1_method_17_code 1 = .ok (.getfield 26, 3) := by decide +kernel
theorem dd_Cb_drop_4 : decode prog_1_method_17_code 4 = .ok (.iload_n 1, 1) := by decide +kernel
theorem dd_Cb_drop_5 : decode prog_1_method_17_code 5 = .ok (.invokevirtual 138, 3) := by decide +kernel
theorem dd_Cb_drop_8 : decode prog_1_method_17_code 8 = .ok (.ifCond .eq 14, 3) := by decide +kernel
theorem dd_Cb_drop_11 : decode prog_1_method_17_code 11 = .ok (.aload_n 0, 1) := by decide +kernel
theorem dd_Cb_drop_12 : decode prog_1_method_17_code 12 = .ok (.getfield 26, 3) := by decide +kernel
theorem dd_Cb_drop_15 : decode prog_1_method_17_code 15 = .ok (.iload_n 1, 1) := by decide +kernel
theorem dd_Cb_drop_16 : decode prog_1_method_17_code 16 = .ok (.invokevirtual 141, 3) := by decide +kernel
theorem dd_Cb_drop_19 : decode prog_1_method_17_code 19 = .ok (.goto 4, 3) := by decide +kernel
theorem dd_Cb_drop_22 : decode prog_1_method_17_code 22 = .ok (.iconst (-1), 1) := by decide +kernel
theorem dd_Cb_drop_23 : decode prog_1_method_17_code 23 = .ok (.ireturn, 1) := by decide +kernel
theorem dd_Sto_has_0 : decode prog_5_method_2_code 0 = .ok (.iload_n 1, 1) := by decide +kernel
theorem dd_Sto_has_1 : decode prog_5_method_2_code 1 = .ok (.ifCond .lt 25, 3) := by decide +kernel
theorem dd_Sto_has_4 : decode prog_5_method_2_code 4 = .ok (.iload_n 1, 1) := by decide +kernel
theorem dd_Sto_has_5 : decode prog_5_method_2_code 5 = .ok (.bipush 10, 2) := by decide +kernel
theorem dd_Sto_has_7 : decode prog_5_method_2_code 7 = .ok (.if_icmp .ge 19, 3) := by decide +kernel
theorem dd_Sto_has_10 : decode prog_5_method_2_code 10 = .ok (.aload_n 0, 1) := by decide +kernel
theorem dd_Sto_has_11 : decode prog_5_method_2_code 11 = .ok (.getfield 29, 3) := by decide +kernel
theorem dd_Sto_has_14 : decode prog_5_method_2_code 14 = .ok (.iload_n 1, 1) := by decide +kernel
theorem dd_Sto_has_15 : decode prog_5_method_2_code 15 = .ok (.aaload, 1) := by decide +kernel
theorem dd_Sto_has_16 : decode prog_5_method_2_code 16 = .ok (.getfield 34, 3) := by decide +kernel
theorem dd_Sto_has_19 : decode prog_5_method_2_code 19 = .ok (.ifCond .eq 7, 3) := by decide +kernel
theorem dd_Sto_has_22 : decode prog_5_method_2_code 22 = .ok (.iconst 1, 1) := by decide +kernel
theorem dd_Sto_has_23 : decode prog_5_method_2_code 23 = .ok (.goto 4, 3) := by decide +kernel
theorem dd_Sto_has_26 : decode prog_5_method_2_code 26 = .ok (.iconst 0, 1) := by decide +kernel
theorem dd_Sto_has_27 : decode prog_5_method_2_code 27 = .ok (.ireturn, 1) := by decide +kernel
theorem dd_Sto_letGo_0 : decode prog_5_method_4_code 0 = .ok (.aload_n 0, 1) := by decide +kernel
theorem dd_Sto_letGo_1 : decode prog_5_method_4_code 1 = .ok (.getfield 29, 3) := by decide +kernel
theorem dd_Sto_letGo_4 : decode prog_5_method_4_code 4 = .ok (.iload_n 1, 1) := by decide +kernel
theorem dd_Sto_letGo_5 : decode prog_5_method_4_code 5 = .ok (.aaload, 1) := by decide +kernel
theorem dd_Sto_letGo_6 : decode prog_5_method_4_code 6 = .ok (.astore_n 2, 1) := by decide +kernel
theorem dd_Sto_letGo_7 : decode prog_5_method_4_code 7 = .ok (.aload_n 0, 1) := by decide +kernel
theorem dd_Sto_letGo_8 : decode prog_5_method_4_code 8 = .ok (.aload_n 2, 1) := by decide +kernel
theorem dd_Sto_letGo_9 : decode prog_5_method_4_code 9 = .ok (.iconst (-1), 1) := by decide +kernel
theorem dd_Sto_letGo_10 : decode prog_5_method_4_code 10 = .ok (.invokevirtual 74, 3) := by decide +kernel
theorem dd_Sto_letGo_13 : decode prog_5_method_4_code 13 = .ok (.aload_n 2, 1) := by decide +kernel
theorem dd_Sto_letGo_14 : decode prog_5_method_4_code 14 = .ok (.iconst 0, 1) := by decide +kernel
theorem dd_Sto_letGo_15 : decode prog_5_method_4_code 15 = .ok (.putfield 34, 3) := by decide +kernel
theorem dd_Sto_letGo_18 : decode prog_5_method_4_code 18 = .ok (.aload_n 0, 1) := by decide +kernel
theorem dd_Sto_letGo_19 : decode prog_5_method_4_code 19 = .ok (.invokevirtual 58, 3) := by decide +kernel
theorem dd_Sto_letGo_22 : decode prog_5_method_4_code 22 = .ok (.ireturn, 1) := by decide +kernel
theorem dd_Cb_restore_0 : decode prog_1_method_18_code 0 = .ok (.aload_n 0, 1) := by decide +kernel
theorem dd_Cb_restore_1 : decode prog_1_method_18_code 1 = .ok (.getfield 26, 3) := by decide +kernel
theorem dd_Cb_restore_4 : decode prog_1_method_18_code 4 = .ok (.iload_n 1, 1) := by decide +kernel
theorem dd_Cb_restore_5 : decode prog_1_method_18_code 5 = .ok (.invokevirtual 138, 3) := by decide +kernel
theorem dd_Cb_restore_8 : decode prog_1_method_18_code 8 = .ok (.ifCond .eq 10, 3) := by decide +kernel
theorem dd_Cb_restore_11 : decode prog_1_method_18_code 11 = .ok (.iload_n 2, 1) := by decide +kernel
theorem dd_Cb_restore_12 : decode prog_1_method_18_code 12 = .ok (.invokestatic 45, 3) := by decide +kernel
theorem dd_Cb_restore_15 : decode prog_1_method_18_code 15 = .ok (.ifCond .ne 5, 3) := by decide +kernel
theorem dd_Cb_restore_18 : decode prog_1_method_18_code 18 = .ok (.iconst (-1), 1) := by decide +kernel
theorem dd_Cb_restore_19 : decode prog_1_method_18_code 19 = .ok (.ireturn, 1) := by decide +kernel
theorem dd_Cb_restore_20 : decode prog_1_method_18_code 20 = .ok (.aload_n 0, 1) := by decide +kernel
theorem dd_Cb_restore_21 : decode prog_1_method_18_code 21 = .ok (.getfield 26, 3) := by decide +kernel
theorem dd_Cb_restore_24 : decode prog_1_method_18_code 24 = .ok (.iload_n 1, 1) := by decide +kernel
theorem dd_Cb_restore_25 : decode prog_1_method_18_code 25 = .ok (.aload_n 0, 1) := by decide +kernel
theorem dd_Cb_restore_26 : decode prog_1_method_18_code 26 = .ok (.getfield 18, 3) := by decide +kernel
theorem dd_Cb_restore_29 : decode prog_1_method_18_code 29 = .ok (.iload_n 2, 1) := by decide +kernel
theorem dd_Cb_restore_30 : decode prog_1_method_18_code 30 = .ok (.aaload, 1) := by decide +kernel
theorem dd_Cb_restore_31 : decode prog_1_method_18_code 31 = .ok (.invokevirtual 144, 3) := by decide +kernel
theorem dd_Cb_restore_34 : decode prog_1_method_18_code 34 = .ok (.ireturn, 1) := by decide +kernel
theorem dd_Sto_giveBack_0 : decode prog_5_method_5_code 0 = .ok (.aload_n 0, 1) := by decide +kernel
theorem dd_Sto_giveBack_1 : decode prog_5_method_5_code 1 = .ok (.getfield 29, 3) := by decide +kernel
theorem dd_Sto_giveBack_4 : decode prog_5_method_5_code 4 = .ok (.iload_n 1, 1) := by decide +kernel
theorem dd_Sto_giveBack_5 : decode prog_5_method_5_code 5 = .ok (.aaload, 1) := by decide +kernel
theorem dd_Sto_giveBack_6 : decode prog_5_method_5_code 6 = .ok (.astore_n 3, 1) := by decide +kernel
theorem dd_Sto_giveBack_7 : decode prog_5_method_5_code 7 = .ok (.iconst 0, 1) := by decide +kernel
theorem dd_Sto_giveBack_8 : decode prog_5_method_5_code 8 = .ok (.istore 4, 2) := by decide +kernel
theorem dd_Sto_giveBack_10 : decode prog_5_method_5_code 10 = .ok (.iconst 0, 1) := by decide +kernel
theorem dd_Sto_giveBack_11 : decode prog_5_method_5_code 11 = .ok (.istore 5, 2) := by decide +kernel
theorem dd_Sto_giveBack_13 : decode prog_5_method_5_code 13 = .ok (.iload 5, 2) := by decide +kernel
theorem dd_Sto_giveBack_15 : decode prog_5_method_5_code 15 = .ok (.aload_n 3, 1) := by decide +kernel
theorem dd_Sto_giveBack_16 : decode prog_5_method_5_code 16 = .ok (.getfield 67, 3) := by decide +kernel
theorem dd_Sto_giveBack_19 : decode prog_5_method_5_code 19 = .ok (.if_icmp .ge 67, 3) := by decide +kernel
theorem dd_Sto_giveBack_22 : decode prog_5_method_5_code 22 = .ok (.aload_n 3, 1) := by decide +kernel
theorem dd_Sto_giveBack_23 : decode prog_5_method_5_code 23 = .ok (.getfield 61, 3) := by decide +kernel
theorem dd_Sto_giveBack_26 : decode prog_5_method_5_code 26 = .ok (.iload 5, 2) := by decide +kernel
theorem dd_Sto_giveBack_28 : decode prog_5_method_5_code 28 = .ok (.iaload, 1) := by decide +kernel
theorem dd_Sto_giveBack_29 : decode prog_5_method_5_code 29 = .ok (.istore 6, 2) := by decide +kernel
theorem dd_Sto_giveBack_31 : decode prog_5_method_5_code 31 = .ok (.aload_n 0, 1) := by decide +kernel
theorem dd_Sto_giveBack_32 : decode prog_5_method_5_code 32 = .ok (.getfield 14, 3) := by decide +kernel
theorem dd_Sto_giveBack_35 : decode prog_5_method_5_code 35 = .ok (.iload 6, 2) := by decide +kernel
theorem dd_Sto_giveBack_37 : decode prog_5_method_5_code 37 = .ok (.invokevirtual 50, 3) := by decide +kernel
theorem dd_Sto_giveBack_40 : decode prog_5_method_5_code 40 = .ok (.istore 7, 2) := by decide +kernel
theorem dd_Sto_giveBack_42 : decode prog_5_method_5_code 42 = .ok (.aload_n 0, 1) := by decide +kernel
theorem dd_Sto_giveBack_43 : decode prog_5_method_5_code 43 = .ok (.getfield 14, 3) := by decide +kernel
theorem dd_Sto_giveBack_46 : decode prog_5_method_5_code 46 = .ok (.getfield 78, 3) := by decide +kernel
theorem dd_Sto_giveBack_49 : decode prog_5_method_5_code 49 = .ok (.aload_n 0, 1) := by decide +kernel
theorem dd_Sto_giveBack_50 : decode prog_5_method_5_code 50 = .ok (.getfield 14, 3) := by decide +kernel
theorem dd_Sto_giveBack_53 : decode prog_5_method_5_code 53 = .ok (.getfield 81, 3) := by decide +kernel
theorem dd_Sto_giveBack_56 : decode prog_5_method_5_code 56 = .ok (.iload 6, 2) := by decide +kernel
theorem dd_Sto_giveBack_58 : decode prog_5_method_5_code 58 = .ok (.iaload, 1) := by decide +kernel
theorem dd_Sto_giveBack_59 : decode prog_5_method_5_code 59 = .ok (.aload_n 2, 1) := by decide +kernel
theorem dd_Sto_giveBack_60 : decode prog_5_method_5_code 60 = .ok (.getfield 84, 3) := by decide +kernel
theorem dd_Sto_giveBack_63 : decode prog_5_method_5_code 63 = .ok (.getfield 78, 3) := by decide +kernel
theorem dd_Sto_giveBack_66 : decode prog_5_method_5_code 66 = .ok (.iload 4, 2) := by decide +kernel
theorem dd_Sto_giveBack_68 : decode prog_5_method_5_code 68 = .ok (.iload 7, 2) := by decide +kernel
theorem dd_Sto_giveBack_70 : decode prog_5_method_5_code 70 = .ok (.invokestatic 87, 3) := by decide +kernel
theorem dd_Sto_giveBack_73 : decode prog_5_method_5_code 73 = .ok (.iload 4, 2) := by decide +kernel
theorem dd_Sto_giveBack_75 : decode prog_5_method_5_code 75 = .ok (.iload 7, 2) := by decide +kernel
theorem dd_Sto_giveBack_77 : decode prog_5_method_5_code 77 = .ok (.iadd, 1) := by decide +kernel
theorem dd_Sto_giveBack_78 : decode prog_5_method_5_code 78 = .ok (.istore 4, 2) := by decide +kernel
theorem dd_Sto_giveBack_80 : decode prog_5_method_5_code 80 = .ok (.iinc 5 1, 3) := by decide +kernel
theorem dd_Sto_giveBack_83 : decode prog_5_method_5_code 83 = .ok (.goto (-70), 3) := by decide +kernel
theorem dd_Sto_giveBack_86 : decode prog_5_method_5_code 86 = .ok (.aload_n 2, 1) := by decide +kernel
theorem dd_Sto_giveBack_87 : decode prog_5_method_5_code 87 = .ok (.iload 4, 2) := by decide +kernel
theorem dd_Sto_giveBack_89 : decode prog_5_method_5_code 89 = .ok (.invokevirtual 93, 3) := by decide +kernel
theorem dd_Sto_giveBack_92 : decode prog_5_method_5_code 92 = .ok (.ireturn, 1) := by decide +kernel
theorem dd_Cb_told_0 : decode prog_1_method_19_code 0 = .ok (.aload_n 0, 1) := by decide +kernel
theorem dd_Cb_told_1 : decode prog_1_method_19_code 1 = .ok (.getfield 26, 3) := by decide +kernel
theorem dd_Cb_told_4 : decode prog_1_method_19_code 4 = .ok (.iload_n 1, 1) := by decide +kernel
theorem dd_Cb_told_5 : decode prog_1_method_19_code 5 = .ok (.invokevirtual 138, 3) := by decide +kernel
theorem dd_Cb_told_8 : decode prog_1_method_19_code 8 = .ok (.ifCond .eq 12, 3) := by decide +kernel
theorem dd_Cb_told_11 : decode prog_1_method_19_code 11 = .ok (.iload_n 2, 1) := by decide +kernel
theorem dd_Cb_told_12 : decode prog_1_method_19_code 12 = .ok (.ifCond .lt 8, 3) := by decide +kernel
theorem dd_Cb_told_15 : decode prog_1_method_19_code 15 = .ok (.iload_n 2, 1) := by decide +kernel
theorem dd_Cb_told_16 : decode prog_1_method_19_code 16 = .ok (.iconst 1, 1) := by decide +kernel
theorem dd_Cb_told_17 : decode prog_1_method_19_code 17 = .ok (.if_icmp .le 5, 3) := by decide +kernel
theorem dd_Cb_told_20 : decode prog_1_method_19_code 20 = .ok (.iconst (-1), 1) := by decide +kernel
theorem dd_Cb_told_21 : decode prog_1_method_19_code 21 = .ok (.ireturn, 1) := by decide +kernel
theorem dd_Cb_told_22 : decode prog_1_method_19_code 22 = .ok (.aload_n 0, 1) := by decide +kernel
theorem dd_Cb_told_23 : decode prog_1_method_19_code 23 = .ok (.getfield 26, 3) := by decide +kernel
theorem dd_Cb_told_26 : decode prog_1_method_19_code 26 = .ok (.getfield 148, 3) := by decide +kernel
theorem dd_Cb_told_29 : decode prog_1_method_19_code 29 = .ok (.iload_n 1, 1) := by decide +kernel
theorem dd_Cb_told_30 : decode prog_1_method_19_code 30 = .ok (.aaload, 1) := by decide +kernel
theorem dd_Cb_told_31 : decode prog_1_method_19_code 31 = .ok (.astore_n 3, 1) := by decide +kernel
theorem dd_Cb_told_32 : decode prog_1_method_19_code 32 = .ok (.iload_n 2, 1) := by decide +kernel
theorem dd_Cb_told_33 : decode prog_1_method_19_code 33 = .ok (.ifCond .ne 10, 3) := by decide +kernel
theorem dd_Cb_told_36 : decode prog_1_method_19_code 36 = .ok (.aload_n 3, 1) := by decide +kernel
theorem dd_Cb_told_37 : decode prog_1_method_19_code 37 = .ok (.getfield 152, 3) := by decide +kernel
theorem dd_Cb_told_40 : decode prog_1_method_19_code 40 = .ok (.goto 7, 3) := by decide +kernel
theorem dd_Cb_told_43 : decode prog_1_method_19_code 43 = .ok (.aload_n 3, 1) := by decide +kernel
theorem dd_Cb_told_44 : decode prog_1_method_19_code 44 = .ok (.getfield 155, 3) := by decide +kernel
theorem dd_Cb_told_47 : decode prog_1_method_19_code 47 = .ok (.ireturn, 1) := by decide +kernel
theorem dd_Cb_uses_0 : decode prog_1_method_20_code 0 = .ok (.aload_n 0, 1) := by decide +kernel
theorem dd_Cb_uses_1 : decode prog_1_method_20_code 1 = .ok (.iload_n 1, 1) := by decide +kernel
theorem dd_Cb_uses_2 : decode prog_1_method_20_code 2 = .ok (.iload_n 2, 1) := by decide +kernel
theorem dd_Cb_uses_3 : decode prog_1_method_20_code 3 = .ok (.invokevirtual 90, 3) := by decide +kernel
theorem dd_Cb_uses_6 : decode prog_1_method_20_code 6 = .ok (.ifCond .eq 19, 3) := by decide +kernel
theorem dd_Cb_uses_9 : decode prog_1_method_20_code 9 = .ok (.aload_n 0, 1) := by decide +kernel
theorem dd_Cb_uses_10 : decode prog_1_method_20_code 10 = .ok (.getfield 26, 3) := by decide +kernel
theorem dd_Cb_uses_13 : decode prog_1_method_20_code 13 = .ok (.aload_n 0, 1) := by decide +kernel
theorem dd_Cb_uses_14 : decode prog_1_method_20_code 14 = .ok (.iload_n 1, 1) := by decide +kernel
theorem dd_Cb_uses_15 : decode prog_1_method_20_code 15 = .ok (.invokevirtual 119, 3) := by decide +kernel
theorem dd_Cb_uses_18 : decode prog_1_method_20_code 18 = .ok (.iload_n 2, 1) := by decide +kernel
theorem dd_Cb_uses_19 : decode prog_1_method_20_code 19 = .ok (.invokevirtual 156, 3) := by decide +kernel
theorem dd_Cb_uses_22 : decode prog_1_method_20_code 22 = .ok (.goto 4, 3) := by decide +kernel
theorem dd_Cb_uses_25 : decode prog_1_method_20_code 25 = .ok (.iconst (-1), 1) := by decide +kernel
theorem dd_Cb_uses_26 : decode prog_1_method_20_code 26 = .ok (.ireturn, 1) := by decide +kernel
theorem dd_Sto_placesOf_0 : decode prog_5_method_6_code 0 = .ok (.aload_n 0, 1) := by decide +kernel
theorem dd_Sto_placesOf_1 : decode prog_5_method_6_code 1 = .ok (.getfield 14, 3) := by decide +kernel
theorem dd_Sto_placesOf_4 : decode prog_5_method_6_code 4 = .ok (.aload_n 1, 1) := by decide +kernel
theorem dd_Sto_placesOf_5 : decode prog_5_method_6_code 5 = .ok (.iload_n 2, 1) := by decide +kernel
theorem dd_Sto_placesOf_6 : decode prog_5_method_6_code 6 = .ok (.invokevirtual 46, 3) := by decide +kernel
theorem dd_Sto_placesOf_9 : decode prog_5_method_6_code 9 = .ok (.istore_n 3, 1) := by decide +kernel
theorem dd_Sto_placesOf_10 : decode prog_5_method_6_code 10 = .ok (.iload_n 3, 1) := by decide +kernel
theorem dd_Sto_placesOf_11 : decode prog_5_method_6_code 11 = .ok (.iconst (-1), 1) := by decide +kernel
theorem dd_Sto_placesOf_12 : decode prog_5_method_6_code 12 = .ok (.if_icmp .ne 7, 3) := by decide +kernel
theorem dd_Sto_placesOf_15 : decode prog_5_method_6_code 15 = .ok (.iconst 0, 1) := by decide +kernel
theorem dd_Sto_placesOf_16 : decode prog_5_method_6_code 16 = .ok (.goto 9, 3) := by decide +kernel
theorem dd_Sto_placesOf_19 : decode prog_5_method_6_code 19 = .ok (.aload_n 0, 1) := by decide +kernel
theorem dd_Sto_placesOf_20 : decode prog_5_method_6_code 20 = .ok (.getfield 20, 3) := by decide +kernel
theorem dd_Sto_placesOf_23 : decode prog_5_method_6_code 23 = .ok (.iload_n 3, 1) := by decide +kernel
theorem dd_Sto_placesOf_24 : decode prog_5_method_6_code 24 = .ok (.iaload, 1) := by decide +kernel
theorem dd_Sto_placesOf_25 : decode prog_5_method_6_code 25 = .ok (.ireturn, 1) := by decide +kernel
theorem dd_Cb_kept_0 : decode prog_1_method_21_code 0 = .ok (.iload_n 1, 1) := by decide +kernel
theorem dd_Cb_kept_1 : decode prog_1_method_21_code 1 = .ok (.tableswitch 99 0 5 #[39, 47, 58, 69, 77, 88], 39) := by decide +kernel
theorem dd_Cb_kept_40 : decode prog_1_method_21_code 40 = .ok (.aload_n 0, 1) := by decide +kernel
theorem dd_Cb_kept_41 : decode prog_1_method_21_code 41 = .ok (.getfield 26, 3) := by decide +kernel
theorem dd_Cb_kept_44 : decode prog_1_method_21_code 44 = .ok (.invokevirtual 160, 3) := by decide +kernel
theorem dd_Cb_kept_47 : decode prog_1_method_21_code 47 = .ok (.ireturn, 1) := by decide +kernel
theorem dd_Cb_kept_48 : decode prog_1_method_21_code 48 = .ok (.aload_n 0, 1) := by decide +kernel
theorem dd_Cb_kept_49 : decode prog_1_method_21_code 49 = .ok (.getfield 26, 3) := by decide +kernel
theorem dd_Cb_kept_52 : decode prog_1_method_21_code 52 = .ok (.getfield 164, 3) := by decide +kernel
theorem dd_Cb_kept_55 : decode prog_1_method_21_code 55 = .ok (.getfield 87, 3) := by decide +kernel
theorem dd_Cb_kept_58 : decode prog_1_method_21_code 58 = .ok (.ireturn, 1) := by decide +kernel
theorem dd_Cb_kept_59 : decode prog_1_method_21_code 59 = .ok (.aload_n 0, 1) := by decide +kernel
theorem dd_Cb_kept_60 : decode prog_1_method_21_code 60 = .ok (.getfield 26, 3) := by decide +kernel
theorem dd_Cb_kept_63 : decode prog_1_method_21_code 63 = .ok (.getfield 164, 3) := by decide +kernel
theorem dd_Cb_kept_66 : decode prog_1_method_21_code 66 = .ok (.invokevirtual 165, 3) := by decide +kernel
theorem dd_Cb_kept_69 : decode prog_1_method_21_code 69 = .ok (.ireturn, 1) := by decide +kernel
theorem dd_Cb_kept_70 : decode prog_1_method_21_code 70 = .ok (.aload_n 0, 1) := by decide +kernel
theorem dd_Cb_kept_71 : decode prog_1_method_21_code 71 = .ok (.getfield 26, 3) := by decide +kernel
theorem dd_Cb_kept_74 : decode prog_1_method_21_code 74 = .ok (.invokevirtual 168, 3) := by decide +kernel
theorem dd_Cb_kept_77 : decode prog_1_method_21_code 77 = .ok (.ireturn, 1) := by decide +kernel
theorem dd_Cb_kept_78 : decode prog_1_method_21_code 78 = .ok (.aload_n 0, 1) := by decide +kernel
theorem dd_Cb_kept_79 : decode prog_1_method_21_code 79 = .ok (.getfield 26, 3) := by decide +kernel
theorem dd_Cb_kept_82 : decode prog_1_method_21_code 82 = .ok (.getfield 164, 3) := by decide +kernel
theorem dd_Cb_kept_85 : decode prog_1_method_21_code 85 = .ok (.invokevirtual 171, 3) := by decide +kernel
theorem dd_Cb_kept_88 : decode prog_1_method_21_code 88 = .ok (.ireturn, 1) := by decide +kernel
theorem dd_Cb_kept_89 : decode prog_1_method_21_code 89 = .ok (.aload_n 0, 1) := by decide +kernel
theorem dd_Cb_kept_90 : decode prog_1_method_21_code 90 = .ok (.getfield 26, 3) := by decide +kernel
theorem dd_Cb_kept_93 : decode prog_1_method_21_code 93 = .ok (.getfield 164, 3) := by decide +kernel
theorem dd_Cb_kept_96 : decode prog_1_method_21_code 96 = .ok (.invokevirtual 174, 3) := by decide +kernel
theorem dd_Cb_kept_99 : decode prog_1_method_21_code 99 = .ok (.ireturn, 1) := by decide +kernel
theorem dd_Cb_kept_100 : decode prog_1_method_21_code 100 = .ok (.iconst (-1), 1) := by decide +kernel
theorem dd_Cb_kept_101 : decode prog_1_method_21_code 101 = .ok (.ireturn, 1) := by decide +kernel
theorem dd_Sto_snapshotsThere_0 : decode prog_5_method_8_code 0 = .ok (.iconst 0, 1) := by decide +kernel
theorem dd_Sto_snapshotsThere_1 : decode prog_5_method_8_code 1 = .ok (.istore_n 1, 1) := by decide +kernel
theorem dd_Sto_snapshotsThere_2 : decode prog_5_method_8_code 2 = .ok (.iconst 0, 1) := by decide +kernel
theorem dd_Sto_snapshotsThere_3 : decode prog_5_method_8_code 3 = .ok (.istore_n 2, 1) := by decide +kernel
theorem dd_Sto_snapshotsThere_4 : decode prog_5_method_8_code 4 = .ok (.iload_n 2, 1) := by decide +kernel
theorem dd_Sto_snapshotsThere_5 : decode prog_5_method_8_code 5 = .ok (.bipush 10, 2) := by decide +kernel
theorem dd_Sto_snapshotsThere_7 : decode prog_5_method_8_code 7 = .ok (.if_icmp .ge 24, 3) := by decide +kernel
theorem dd_Sto_snapshotsThere_10 : decode prog_5_method_8_code 10 = .ok (.aload_n 0, 1) := by decide +kernel
theorem dd_Sto_snapshotsThere_11 : decode prog_5_method_8_code 11 = .ok (.getfield 29, 3) := by decide +kernel
theorem dd_Sto_snapshotsThere_14 : decode prog_5_method_8_code 14 = .ok (.iload_n 2, 1) := by decide +kernel
theorem dd_Sto_snapshotsThere_15 : decode prog_5_method_8_code 15 = .ok (.aaload, 1) := by decide +kernel
theorem dd_Sto_snapshotsThere_16 : decode prog_5_method_8_code 16 = .ok (.getfield 34, 3) := by decide +kernel
theorem dd_Sto_snapshotsThere_19 : decode prog_5_method_8_code 19 = .ok (.ifCond .eq 6, 3) := by decide +kernel
theorem dd_Sto_snapshotsThere_22 : decode prog_5_method_8_code 22 = .ok (.iinc 1 1, 3) := by decide +kernel
theorem dd_Sto_snapshotsThere_25 : decode prog_5_method_8_code 25 = .ok (.iinc 2 1, 3) := by decide +kernel
theorem dd_Sto_snapshotsThere_28 : decode prog_5_method_8_code 28 = .ok (.goto (-24), 3) := by decide +kernel
theorem dd_Sto_snapshotsThere_31 : decode prog_5_method_8_code 31 = .ok (.iload_n 1, 1) := by decide +kernel
theorem dd_Sto_snapshotsThere_32 : decode prog_5_method_8_code 32 = .ok (.ireturn, 1) := by decide +kernel
theorem dd_Sto_allPlaces_0 : decode prog_5_method_7_code 0 = .ok (.iconst 0, 1) := by decide +kernel
theorem dd_Sto_allPlaces_1 : decode prog_5_method_7_code 1 = .ok (.istore_n 1, 1) := by decide +kernel
theorem dd_Sto_allPlaces_2 : decode prog_5_method_7_code 2 = .ok (.iconst 0, 1) := by decide +kernel
theorem dd_Sto_allPlaces_3 : decode prog_5_method_7_code 3 = .ok (.istore_n 2, 1) := by decide +kernel
theorem dd_Sto_allPlaces_4 : decode prog_5_method_7_code 4 = .ok (.iload_n 2, 1) := by decide +kernel
theorem dd_Sto_allPlaces_5 : decode prog_5_method_7_code 5 = .ok (.aload_n 0, 1) := by decide +kernel
theorem dd_Sto_allPlaces_6 : decode prog_5_method_7_code 6 = .ok (.getfield 14, 3) := by decide +kernel
theorem dd_Sto_allPlaces_9 : decode prog_5_method_7_code 9 = .ok (.getfield 42, 3) := by decide +kernel
theorem dd_Sto_allPlaces_12 : decode prog_5_method_7_code 12 = .ok (.if_icmp .ge 18, 3) := by decide +kernel
theorem dd_Sto_allPlaces_15 : decode prog_5_method_7_code 15 = .ok (.iload_n 1, 1) := by decide +kernel
theorem dd_Sto_allPlaces_16 : decode prog_5_method_7_code 16 = .ok (.aload_n 0, 1) := by decide +kernel
theorem dd_Sto_allPlaces_17 : decode prog_5_method_7_code 17 = .ok (.getfield 20, 3) := by decide +kernel
theorem dd_Sto_allPlaces_20 : decode prog_5_method_7_code 20 = .ok (.iload_n 2, 1) := by decide +kernel
theorem dd_Sto_allPlaces_21 : decode prog_5_method_7_code 21 = .ok (.iaload, 1) := by decide +kernel
theorem dd_Sto_allPlaces_22 : decode prog_5_method_7_code 22 = .ok (.iadd, 1) := by decide +kernel
theorem dd_Sto_allPlaces_23 : decode prog_5_method_7_code 23 = .ok (.istore_n 1, 1) := by decide +kernel
theorem dd_Sto_allPlaces_24 : decode prog_5_method_7_code 24 = .ok (.iinc 2 1, 3) := by decide +kernel
theorem dd_Sto_allPlaces_27 : decode prog_5_method_7_code 27 = .ok (.goto (-23), 3) := by decide +kernel
theorem dd_Sto_allPlaces_30 : decode prog_5_method_7_code 30 = .ok (.iload_n 1, 1) := by decide +kernel
theorem dd_Sto_allPlaces_31 : decode prog_5_method_7_code 31 = .ok (.ireturn, 1) := by decide +kernel
theorem dd_Row_pairsOfOneKey_0 : decode prog_2_method_19_code 0 = .ok (.iconst 0, 1) := by decide +kernel
theorem dd_Row_pairsOfOneKey_1 : decode prog_2_method_19_code 1 = .ok (.istore_n 1, 1) := by decide +kernel
theorem dd_Row_pairsOfOneKey_2 : decode prog_2_method_19_code 2 = .ok (.iconst 0, 1) := by decide +kernel
theorem dd_Row_pairsOfOneKey_3 : decode prog_2_method_19_code 3 = .ok (.istore_n 2, 1) := by decide +kernel
theorem dd_Row_pairsOfOneKey_4 : decode prog_2_method_19_code 4 = .ok (.iload_n 2, 1) := by decide +kernel
theorem dd_Row_pairsOfOneKey_5 : decode prog_2_method_19_code 5 = .ok (.sipush 256, 3) := by decide +kernel
theorem dd_Row_pairsOfOneKey_8 : decode prog_2_method_19_code 8 = .ok (.if_icmp .ge 25, 3) := by decide +kernel
theorem dd_Row_pairsOfOneKey_11 : decode prog_2_method_19_code 11 = .ok (.aload_n 0, 1) := by decide +kernel
theorem dd_Row_pairsOfOneKey_12 : decode prog_2_method_19_code 12 = .ok (.iload_n 2, 1) := by decide +kernel
theorem dd_Row_pairsOfOneKey_13 : decode prog_2_method_19_code 13 = .ok (.invokevirtual 83, 3) := by decide +kernel
theorem dd_Row_pairsOfOneKey_16 : decode prog_2_method_19_code 16 = .ok (.istore_n 3, 1) := by decide +kernel
theorem dd_Row_pairsOfOneKey_17 : decode prog_2_method_19_code 17 = .ok (.iload_n 1, 1) := by decide +kernel
theorem dd_Row_pairsOfOneKey_18 : decode prog_2_method_19_code 18 = .ok (.iload_n 3, 1) := by decide +kernel
theorem dd_Row_pairsOfOneKey_19 : decode prog_2_method_19_code 19 = .ok (.iload_n 3, 1) := by decide +kernel
theorem dd_Row_pairsOfOneKey_20 : decode prog_2_method_19_code 20 = .ok (.iconst 1, 1) := by decide +kernel
theorem dd_Row_pairsOfOneKey_21 : decode prog_2_method_19_code 21 = .ok (.isub, 1) := by decide +kernel
theorem dd_Row_pairsOfOneKey_22 : decode prog_2_method_19_code 22 = .ok (.imul, 1) := by decide +kernel
theorem dd_Row_pairsOfOneKey_23 : decode prog_2_method_19_code 23 = .ok (.iconst 2, 1) := by decide +kernel
theorem dd_Row_pairsOfOneKey_24 : decode prog_2_method_19_code 24 = .ok (.idiv, 1) := by decide +kernel
theorem dd_Row_pairsOfOneKey_25 : decode prog_2_method_19_code 25 = .ok (.iadd, 1) := by decide +kernel
theorem dd_Row_pairsOfOneKey_26 : decode prog_2_method_19_code 26 = .ok (.istore_n 1, 1) := by decide +kernel
theorem dd_Row_pairsOfOneKey_27 : decode prog_2_method_19_code 27 = .ok (.iinc 2 1, 3) := by decide +kernel
theorem dd_Row_pairsOfOneKey_30 : decode prog_2_method_19_code 30 = .ok (.goto (-26), 3) := by decide +kernel
theorem dd_Row_pairsOfOneKey_33 : decode prog_2_method_19_code 33 = .ok (.iload_n 1, 1) := by decide +kernel
theorem dd_Row_pairsOfOneKey_34 : decode prog_2_method_19_code 34 = .ok (.ireturn, 1) := by decide +kernel
theorem dd_Row_chainLength_0 : decode prog_2_method_21_code 0 = .ok (.iconst 0, 1) := by decide +kernel
theorem dd_Row_chainLength_1 : decode prog_2_method_21_code 1 = .ok (.istore_n 2, 1) := by decide +kernel
theorem dd_Row_chainLength_2 : decode prog_2_method_21_code 2 = .ok (.aload_n 0, 1) := by decide +kernel
theorem dd_Row_chainLength_3 : decode prog_2_method_21_code 3 = .ok (.getfield 24, 3) := by decide +kernel
theorem dd_Row_chainLength_6 : decode prog_2_method_21_code 6 = .ok (.iload_n 1, 1) := by decide +kernel
theorem dd_Row_chainLength_7 : decode prog_2_method_21_code 7 = .ok (.iaload, 1) := by decide +kernel
theorem dd_Row_chainLength_8 : decode prog_2_method_21_code 8 = .ok (.istore_n 3, 1) := by decide +kernel
theorem dd_Row_chainLength_9 : decode prog_2_method_21_code 9 = .ok (.iload_n 3, 1) := by decide +kernel
theorem dd_Row_chainLength_10 : decode prog_2_method_21_code 10 = .ok (.iconst (-1), 1) := by decide +kernel
theorem dd_Row_chainLength_11 : decode prog_2_method_21_code 11 = .ok (.if_icmp .eq 24, 3) := by decide +kernel
theorem dd_Row_chainLength_14 : decode prog_2_method_21_code 14 = .ok (.iload_n 2, 1) := by decide +kernel
theorem dd_Row_chainLength_15 : decode prog_2_method_21_code 15 = .ok (.aload_n 0, 1) := by decide +kernel
theorem dd_Row_chainLength_16 : decode prog_2_method_21_code 16 = .ok (.getfield 30, 3) := by decide +kernel
theorem dd_Row_chainLength_19 : decode prog_2_method_21_code 19 = .ok (.if_icmp .ge 16, 3) := by decide +kernel
theorem dd_Row_chainLength_22 : decode prog_2_method_21_code 22 = .ok (.iinc 2 1, 3) := by decide +kernel
theorem dd_Row_chainLength_25 : decode prog_2_method_21_code 25 = .ok (.aload_n 0, 1) := by decide +kernel
theorem dd_Row_chainLength_26 : decode prog_2_method_21_code 26 = .ok (.getfield 21, 3) := by decide +kernel
theorem dd_Row_chainLength_29 : decode prog_2_method_21_code 29 = .ok (.iload_n 3, 1) := by decide +kernel
theorem dd_Row_chainLength_30 : decode prog_2_method_21_code 30 = .ok (.iaload, 1) := by decide +kernel
theorem dd_Row_chainLength_31 : decode prog_2_method_21_code 31 = .ok (.istore_n 3, 1) := by decide +kernel
theorem dd_Row_chainLength_32 : decode prog_2_method_21_code 32 = .ok (.goto (-23), 3) := by decide +kernel
theorem dd_Row_chainLength_35 : decode prog_2_method_21_code 35 = .ok (.iload_n 2, 1) := by decide +kernel
theorem dd_Row_chainLength_36 : decode prog_2_method_21_code 36 = .ok (.ireturn, 1) := by decide +kernel
theorem dd_Row_mostOfOneKey_0 : decode prog_2_method_20_code 0 = .ok (.iconst 0, 1) := by decide +kernel
theorem dd_Row_mostOfOneKey_1 : decode prog_2_method_20_code 1 = .ok (.istore_n 1, 1) := by decide +kernel
theorem dd_Row_mostOfOneKey_2 : decode prog_2_method_20_code 2 = .ok (.iconst 0, 1) := by decide +kernel
theorem dd_Row_mostOfOneKey_3 : decode prog_2_method_20_code 3 = .ok (.istore_n 2, 1) := by decide +kernel
theorem dd_Row_mostOfOneKey_4 : decode prog_2_method_20_code 4 = .ok (.iload_n 2, 1) := by decide +kernel
theorem dd_Row_mostOfOneKey_5 : decode prog_2_method_20_code 5 = .ok (.sipush 256, 3) := by decide +kernel
theorem dd_Row_mostOfOneKey_8 : decode prog_2_method_20_code 8 = .ok (.if_icmp .ge 19, 3) := by decide +kernel
theorem dd_Row_mostOfOneKey_11 : decode prog_2_method_20_code 11 = .ok (.iload_n 1, 1) := by decide +kernel
theorem dd_Row_mostOfOneKey_12 : decode prog_2_method_20_code 12 = .ok (.aload_n 0, 1) := by decide +kernel
theorem dd_Row_mostOfOneKey_13 : decode prog_2_method_20_code 13 = .ok (.iload_n 2, 1) := by decide +kernel
theorem dd_Row_mostOfOneKey_14 : decode prog_2_method_20_code 14 = .ok (.invokevirtual 83, 3) := by decide +kernel
theorem dd_Row_mostOfOneKey_17 : decode prog_2_method_20_code 17 = .ok (.invokestatic 86, 3) := by decide +kernel
theorem dd_Row_mostOfOneKey_20 : decode prog_2_method_20_code 20 = .ok (.istore_n 1, 1) := by decide +kernel
theorem dd_Row_mostOfOneKey_21 : decode prog_2_method_20_code 21 = .ok (.iinc 2 1, 3) := by decide +kernel
theorem dd_Row_mostOfOneKey_24 : decode prog_2_method_20_code 24 = .ok (.goto (-20), 3) := by decide +kernel
theorem dd_Row_mostOfOneKey_27 : decode prog_2_method_20_code 27 = .ok (.iload_n 1, 1) := by decide +kernel
theorem dd_Row_mostOfOneKey_28 : decode prog_2_method_20_code 28 = .ok (.ireturn, 1) := by decide +kernel
