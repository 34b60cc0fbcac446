theorem dd_Md_init_0 : decode prog_8_method_1_code 0 = .ok (.aload_n 0, 1) := by decide +kernel
theorem dd_Md_init_1 : decode prog_8_method_1_code 1 = .ok (.invokespecial 1, 3) := by decide +kernel
theorem dd_Md_init_4 : decode prog_8_method_1_code 4 = .ok (.aload_n 0, 1) := by decide +kernel
theorem dd_Md_init_5 : decode prog_8_method_1_code 5 = .ok (.sipush 6000, 3) := by decide +kernel
theorem dd_Md_init_8 : decode prog_8_method_1_code 8 = .ok (.newarray .int, 2) := by decide +kernel
theorem dd_Md_init_10 : decode prog_8_method_1_code 10 = .ok (.putfield 7, 3) := by decide +kernel
theorem dd_Md_init_13 : decode prog_8_method_1_code 13 = .ok (.aload_n 0, 1) := by decide +kernel
theorem dd_Md_init_14 : decode prog_8_method_1_code 14 = .ok (.iconst 4, 1) := by decide +kernel
theorem dd_Md_init_15 : decode prog_8_method_1_code 15 = .ok (.newarray .int, 2) := by decide +kernel
theorem dd_Md_init_17 : decode prog_8_method_1_code 17 = .ok (.putfield 13, 3) := by decide +kernel
theorem dd_Md_init_20 : decode prog_8_method_1_code 20 = .ok (.aload_n 0, 1) := by decide +kernel
theorem dd_Md_init_21 : decode prog_8_method_1_code 21 = .ok (.sipush 256, 3) := by decide +kernel
theorem dd_Md_init_24 : decode prog_8_method_1_code 24 = .ok (.newarray .int, 2) := by decide +kernel
theorem dd_Md_init_26 : decode prog_8_method_1_code 26 = .ok (.putfield 16, 3) := by decide +kernel
theorem dd_Md_init_29 : decode prog_8_method_1_code 29 = .ok (.aload_n 0, 1) := by decide +kernel
theorem dd_Md_init_30 : decode prog_8_method_1_code 30 = .ok (.iconst 4, 1) := by decide +kernel
theorem dd_Md_init_31 : decode prog_8_method_1_code 31 = .ok (.putfield 19, 3) := by decide +kernel
theorem dd_Md_init_34 : decode prog_8_method_1_code 34 = .ok (.aload_n 0, 1) := by decide +kernel
theorem dd_Md_init_35 : decode prog_8_method_1_code 35 = .ok (.bipush 64, 2) := by decide +kernel
theorem dd_Md_init_37 : decode prog_8_method_1_code 37 = .ok (.putfield 23, 3) := by decide +kernel
theorem dd_Md_init_40 : decode prog_8_method_1_code 40 = .ok (.aload_n 0, 1) := by decide +kernel
theorem dd_Md_init_41 : decode prog_8_method_1_code 41 = .ok (.iconst 3, 1) := by decide +kernel
theorem dd_Md_init_42 : decode prog_8_method_1_code 42 = .ok (.putfield 26, 3) := by decide +kernel
theorem dd_Md_init_45 : decode prog_8_method_1_code 45 = .ok (.aload_n 0, 1) := by decide +kernel
theorem dd_Md_init_46 : decode prog_8_method_1_code 46 = .ok (.iconst 1, 1) := by decide +kernel
theorem dd_Md_init_47 : decode prog_8_method_1_code 47 = .ok (.putfield 29, 3) := by decide +kernel
theorem dd_Md_init_50 : decode prog_8_method_1_code 50 = .ok (.aload_n 0, 1) := by decide +kernel
theorem dd_Md_init_51 : decode prog_8_method_1_code 51 = .ok (.sipush 1501, 3) := by decide +kernel
theorem dd_Md_init_54 : decode prog_8_method_1_code 54 = .ok (.newarray .int, 2) := by decide +kernel
theorem dd_Md_init_56 : decode prog_8_method_1_code 56 = .ok (.putfield 32, 3) := by decide +kernel
theorem dd_Md_init_59 : decode prog_8_method_1_code 59 = .ok (.aload_n 0, 1) := by decide +kernel
theorem dd_Md_init_60 : decode prog_8_method_1_code 60 = .ok (.sipush 1501, 3) := by decide +kernel
theorem dd_Md_init_63 : decode prog_8_method_1_code 63 = .ok (.newarray .int, 2) := by decide +kernel
theorem dd_Md_init_65 : decode prog_8_method_1_code 65 = .ok (.putfield 35, 3) := by decide +kernel
theorem dd_Md_init_68 : decode prog_8_method_1_code 68 = .ok (.aload_n 0, 1) := by decide +kernel
theorem dd_Md_init_69 : decode prog_8_method_1_code 69 = .ok (.sipush 6000, 3) := by decide +kernel
theorem dd_Md_init_72 : decode prog_8_method_1_code 72 = .ok (.newarray .int, 2) := by decide +kernel
theorem dd_Md_init_74 : decode prog_8_method_1_code 74 = .ok (.putfield 38, 3) := by decide +kernel
theorem dd_Md_init_77 : decode prog_8_method_1_code 77 = .ok (.aload_n 0, 1) := by decide +kernel
theorem dd_Md_init_78 : decode prog_8_method_1_code 78 = .ok (.sipush 301, 3) := by decide +kernel
theorem dd_Md_init_81 : decode prog_8_method_1_code 81 = .ok (.newarray .int, 2) := by decide +kernel
theorem dd_Md_init_83 : decode prog_8_method_1_code 83 = .ok (.putfield 41, 3) := by decide +kernel
theorem dd_Md_init_86 : decode prog_8_method_1_code 86 = .ok (.aload_n 0, 1) := by decide +kernel
theorem dd_Md_init_87 : decode prog_8_method_1_code 87 = .ok (.sipush 301, 3) := by decide +kernel
theorem dd_Md_init_90 : decode prog_8_method_1_code 90 = .ok (.newarray .int, 2) := by decide +kernel
theorem dd_Md_init_92 : decode prog_8_method_1_code 92 = .ok (.putfield 44, 3) := by decide +kernel
theorem dd_Md_init_95 : decode prog_8_method_1_code 95 = .ok (.aload_n 0, 1) := by decide +kernel
theorem dd_Md_init_96 : decode prog_8_method_1_code 96 = .ok (.sipush 301, 3) := by decide +kernel
theorem dd_Md_init_99 : decode prog_8_method_1_code 99 = .ok (.newarray .int, 2) := by decide +kernel
theorem dd_Md_init_101 : decode prog_8_method_1_code 101 = .ok (.putfield 47, 3) := by decide +kernel
theorem dd_Md_init_104 : decode prog_8_method_1_code 104 = .ok (.aload_n 0, 1) := by decide +kernel
theorem dd_Md_init_105 : decode prog_8_method_1_code 105 = .ok (.bipush 10, 2) := by decide +kernel
theorem dd_Md_init_107 : decode prog_8_method_1_code 107 = .ok (.newarray .boolean, 2) := by decide +kernel
theorem dd_Md_init_109 : decode prog_8_method_1_code 109 = .ok (.putfield 50, 3) := by decide +kernel
theorem dd_Md_init_112 : decode prog_8_method_1_code 112 = .ok (.aload_n 0, 1) := by decide +kernel
theorem dd_Md_init_113 : decode prog_8_method_1_code 113 = .ok (.bipush 10, 2) := by decide +kernel
theorem dd_Md_init_115 : decode prog_8_method_1_code 115 = .ok (.newarray .int, 2) := by decide +kernel
theorem dd_Md_init_117 : decode prog_8_method_1_code 117 = .ok (.putfield 54, 3) := by decide +kernel
theorem dd_Md_init_120 : decode prog_8_method_1_code 120 = .ok (.aload_n 0, 1) := by decide +kernel
theorem dd_Md_init_121 : decode prog_8_method_1_code 121 = .ok (.sipush 15000, 3) := by decide +kernel
theorem dd_Md_init_124 : decode prog_8_method_1_code 124 = .ok (.newarray .int, 2) := by decide +kernel
theorem dd_Md_init_126 : decode prog_8_method_1_code 126 = .ok (.putfield 57, 3) := by decide +kernel
theorem dd_Md_init_129 : decode prog_8_method_1_code 129 = .ok (.aload_n 0, 1) := by decide +kernel
theorem dd_Md_init_130 : decode prog_8_method_1_code 130 = .ok (.sipush 256, 3) := by decide +kernel
theorem dd_Md_init_133 : decode prog_8_method_1_code 133 = .ok (.newarray .int, 2) := by decide +kernel
theorem dd_Md_init_135 : decode prog_8_method_1_code 135 = .ok (.putfield 60, 3) := by decide +kernel
theorem dd_Md_init_138 : decode prog_8_method_1_code 138 = .ok (.aload_n 0, 1) := by decide +kernel
theorem dd_Md_init_139 : decode prog_8_method_1_code 139 = .ok (.iconst 1, 1) := by decide +kernel
theorem dd_Md_init_140 : decode prog_8_method_1_code 140 = .ok (.invokevirtual 63, 3) := by decide +kernel
theorem dd_Md_init_143 : decode prog_8_method_1_code 143 = .ok (.return_, 1) := by decide +kernel
theorem dd_Md_layTable_0 : decode prog_8_method_4_code 0 = .ok (.iload_n 1, 1) := by decide +kernel
theorem dd_Md_layTable_1 : decode prog_8_method_4_code 1 = .ok (.istore_n 2, 1) := by decide +kernel
theorem dd_Md_layTable_2 : decode prog_8_method_4_code 2 = .ok (.iconst 0, 1) := by decide +kernel
theorem dd_Md_layTable_3 : decode prog_8_method_4_code 3 = .ok (.istore_n 3, 1) := by decide +kernel
theorem dd_Md_layTable_4 : decode prog_8_method_4_code 4 = .ok (.iload_n 3, 1) := by decide +kernel
theorem dd_Md_layTable_5 : decode prog_8_method_4_code 5 = .ok (.sipush 256, 3) := by decide +kernel
theorem dd_Md_layTable_8 : decode prog_8_method_4_code 8 = .ok (.if_icmp .ge 29, 3) := by decide +kernel
theorem dd_Md_layTable_11 : decode prog_8_method_4_code 11 = .ok (.iload_n 2, 1) := by decide +kernel
theorem dd_Md_layTable_12 : decode prog_8_method_4_code 12 = .ok (.ldc 70, 2) := by decide +kernel
theorem dd_Md_layTable_14 : decode prog_8_method_4_code 14 = .ok (.imul, 1) := by decide +kernel
theorem dd_Md_layTable_15 : decode prog_8_method_4_code 15 = .ok (.ldc 71, 2) := by decide +kernel
theorem dd_Md_layTable_17 : decode prog_8_method_4_code 17 = .ok (.iadd, 1) := by decide +kernel
theorem dd_Md_layTable_18 : decode prog_8_method_4_code 18 = .ok (.istore_n 2, 1) := by decide +kernel
theorem dd_Md_layTable_19 : decode prog_8_method_4_code 19 = .ok (.aload_n 0, 1) := by decide +kernel
theorem dd_Md_layTable_20 : decode prog_8_method_4_code 20 = .ok (.getfield 16, 3) := by decide +kernel
theorem dd_Md_layTable_23 : decode prog_8_method_4_code 23 = .ok (.iload_n 3, 1) := by decide +kernel
theorem dd_Md_layTable_24 : decode prog_8_method_4_code 24 = .ok (.iload_n 2, 1) := by decide +kernel
theorem dd_Md_layTable_25 : decode prog_8_method_4_code 25 = .ok (.iload_n 2, 1) := by decide +kernel
theorem dd_Md_layTable_26 : decode prog_8_method_4_code 26 = .ok (.bipush 16, 2) := by decide +kernel
theorem dd_Md_layTable_28 : decode prog_8_method_4_code 28 = .ok (.iushr, 1) := by decide +kernel
theorem dd_Md_layTable_29 : decode prog_8_method_4_code 29 = .ok (.ixor, 1) := by decide +kernel
theorem dd_Md_layTable_30 : decode prog_8_method_4_code 30 = .ok (.iastore, 1) := by decide +kernel
theorem dd_Md_layTable_31 : decode prog_8_method_4_code 31 = .ok (.iinc 3 1, 3) := by decide +kernel
theorem dd_Md_layTable_34 : decode prog_8_method_4_code 34 = .ok (.goto (-30), 3) := by decide +kernel
theorem dd_Md_layTable_37 : decode prog_8_method_4_code 37 = .ok (.return_, 1) := by decide +kernel
theorem dd_Md_seed_0 : decode prog_8_method_5_code 0 = .ok (.aload_n 0, 1) := by decide +kernel
theorem dd_Md_seed_1 : decode prog_8_method_5_code 1 = .ok (.iconst 0, 1) := by decide +kernel
theorem dd_Md_seed_2 : decode prog_8_method_5_code 2 = .ok (.putfield 67, 3) := by decide +kernel
theorem dd_Md_seed_5 : decode prog_8_method_5_code 5 = .ok (.aload_n 0, 1) := by decide +kernel
theorem dd_Md_seed_6 : decode prog_8_method_5_code 6 = .ok (.iload_n 1, 1) := by decide +kernel
theorem dd_Md_seed_7 : decode prog_8_method_5_code 7 = .ok (.invokevirtual 63, 3) := by decide +kernel
theorem dd_Md_seed_10 : decode prog_8_method_5_code 10 = .ok (.iconst 1, 1) := by decide +kernel
theorem dd_Md_seed_11 : decode prog_8_method_5_code 11 = .ok (.ireturn, 1) := by decide +kernel
theorem dd_Md_rule_0 : decode prog_8_method_6_code 0 = .ok (.aload_n 0, 1) := by decide +kernel
theorem dd_Md_rule_1 : decode prog_8_method_6_code 1 = .ok (.iconst 0, 1) := by decide +kernel
theorem dd_Md_rule_2 : decode prog_8_method_6_code 2 = .ok (.putfield 67, 3) := by decide +kernel
theorem dd_Md_rule_5 : decode prog_8_method_6_code 5 = .ok (.iload_n 1, 1) := by decide +kernel
theorem dd_Md_rule_6 : decode prog_8_method_6_code 6 = .ok (.iconst 0, 1) := by decide +kernel
theorem dd_Md_rule_7 : decode prog_8_method_6_code 7 = .ok (.iconst 3, 1) := by decide +kernel
theorem dd_Md_rule_8 : decode prog_8_method_6_code 8 = .ok (.invokestatic 72, 3) := by decide +kernel
theorem dd_Md_rule_11 : decode prog_8_method_6_code 11 = .ok (.ifCond .eq 58, 3) := by decide +kernel
theorem dd_Md_rule_14 : decode prog_8_method_6_code 14 = .ok (.iload_n 2, 1) := by decide +kernel
theorem dd_Md_rule_15 : decode prog_8_method_6_code 15 = .ok (.iconst 1, 1) := by decide +kernel
theorem dd_Md_rule_16 : decode prog_8_method_6_code 16 = .ok (.sipush 200, 3) := by decide +kernel
theorem dd_Md_rule_19 : decode prog_8_method_6_code 19 = .ok (.invokestatic 72, 3) := by decide +kernel
theorem dd_Md_rule_22 : decode prog_8_method_6_code 22 = .ok (.ifCond .eq 47, 3) := by decide +kernel
theorem dd_Md_rule_25 : decode prog_8_method_6_code 25 = .ok (.iload_n 3, 1) := by decide +kernel
theorem dd_Md_rule_26 : decode prog_8_method_6_code 26 = .ok (.iload_n 2, 1) := by decide +kernel
theorem dd_Md_rule_27 : decode prog_8_method_6_code 27 = .ok (.sipush 600, 3) := by decide +kernel
theorem dd_Md_rule_30 : decode prog_8_method_6_code 30 = .ok (.invokestatic 72, 3) := by decide +kernel
theorem dd_Md_rule_33 : decode prog_8_method_6_code 33 = .ok (.ifCond .eq 36, 3) := by decide +kernel
theorem dd_Md_rule_36 : decode prog_8_method_6_code 36 = .ok (.iload 4, 2) := by decide +kernel
theorem dd_Md_rule_38 : decode prog_8_method_6_code 38 = .ok (.iconst 1, 1) := by decide +kernel
theorem dd_Md_rule_39 : decode prog_8_method_6_code 39 = .ok (.bipush 9, 2) := by decide +kernel
theorem dd_Md_rule_41 : decode prog_8_method_6_code 41 = .ok (.invokestatic 72, 3) := by decide +kernel
theorem dd_Md_rule_44 : decode prog_8_method_6_code 44 = .ok (.ifCond .eq 25, 3) := by decide +kernel
theorem dd_Md_rule_47 : decode prog_8_method_6_code 47 = .ok (.iload 5, 2) := by decide +kernel
theorem dd_Md_rule_49 : decode prog_8_method_6_code 49 = .ok (.iconst 0, 1) := by decide +kernel
theorem dd_Md_rule_50 : decode prog_8_method_6_code 50 = .ok (.iload 4, 2) := by decide +kernel
theorem dd_Md_rule_52 : decode prog_8_method_6_code 52 = .ok (.invokestatic 72, 3) := by decide +kernel
theorem dd_Md_rule_55 : decode prog_8_method_6_code 55 = .ok (.ifCond .eq 14, 3) := by decide +kernel
theorem dd_Md_rule_58 : decode prog_8_method_6_code 58 = .ok (.iload 6, 2) := by decide +kernel
theorem dd_Md_rule_60 : decode prog_8_method_6_code 60 = .ok (.iconst 1, 1) := by decide +kernel
theorem dd_Md_rule_61 : decode prog_8_method_6_code 61 = .ok (.bipush 16, 2) := by decide +kernel
theorem dd_Md_rule_63 : decode prog_8_method_6_code 63 = .ok (.invokestatic 72, 3) := by decide +kernel
theorem dd_Md_rule_66 : decode prog_8_method_6_code 66 = .ok (.ifCond .ne 5, 3) := by decide +kernel
theorem dd_Md_rule_69 : decode prog_8_method_6_code 69 = .ok (.iconst (-1), 1) := by decide +kernel
theorem dd_Md_rule_70 : decode prog_8_method_6_code 70 = .ok (.ireturn, 1) := by decide +kernel
theorem dd_Md_rule_71 : decode prog_8_method_6_code 71 = .ok (.iload_n 3, 1) := by decide +kernel
theorem dd_Md_rule_72 : decode prog_8_method_6_code 72 = .ok (.iload_n 3, 1) := by decide +kernel
theorem dd_Md_rule_73 : decode prog_8_method_6_code 73 = .ok (.iload 6, 2) := by decide +kernel
theorem dd_Md_rule_75 : decode prog_8_method_6_code 75 = .ok (.irem, 1) := by decide +kernel
theorem dd_Md_rule_76 : decode prog_8_method_6_code 76 = .ok (.isub, 1) := by decide +kernel
theorem dd_Md_rule_77 : decode prog_8_method_6_code 77 = .ok (.istore 7, 2) := by decide +kernel
theorem dd_Md_rule_79 : decode prog_8_method_6_code 79 = .ok (.iload 7, 2) := by decide +kernel
theorem dd_Md_rule_81 : decode prog_8_method_6_code 81 = .ok (.iload_n 2, 1) := by decide +kernel
theorem dd_Md_rule_82 : decode prog_8_method_6_code 82 = .ok (.if_icmp .lt 8, 3) := by decide +kernel
theorem dd_Md_rule_85 : decode prog_8_method_6_code 85 = .ok (.iload 7, 2) := by decide +kernel
theorem dd_Md_rule_87 : decode prog_8_method_6_code 87 = .ok (.ifCond .ne 5, 3) := by decide +kernel
theorem dd_Md_rule_90 : decode prog_8_method_6_code 90 = .ok (.iconst (-1), 1) := by decide +kernel
theorem dd_Md_rule_91 : decode prog_8_method_6_code 91 = .ok (.ireturn, 1) := by decide +kernel
theorem dd_Md_rule_92 : decode prog_8_method_6_code 92 = .ok (.aload_n 0, 1) := by decide +kernel
theorem dd_Md_rule_93 : decode prog_8_method_6_code 93 = .ok (.iload_n 1, 1) := by decide +kernel
theorem dd_Md_rule_94 : decode prog_8_method_6_code 94 = .ok (.putfield 76, 3) := by decide +kernel
theorem dd_Md_rule_97 : decode prog_8_method_6_code 97 = .ok (.aload_n 0, 1) := by decide +kernel
theorem dd_Md_rule_98 : decode prog_8_method_6_code 98 = .ok (.iload_n 2, 1) := by decide +kernel
theorem dd_Md_rule_99 : decode prog_8_method_6_code 99 = .ok (.putfield 19, 3) := by decide +kernel
theorem dd_Md_rule_102 : decode prog_8_method_6_code 102 = .ok (.aload_n 0, 1) := by decide +kernel
theorem dd_Md_rule_103 : decode prog_8_method_6_code 103 = .ok (.iload_n 3, 1) := by decide +kernel
theorem dd_Md_rule_104 : decode prog_8_method_6_code 104 = .ok (.putfield 23, 3) := by decide +kernel
theorem dd_Md_rule_107 : decode prog_8_method_6_code 107 = .ok (.aload_n 0, 1) := by decide +kernel
theorem dd_Md_rule_108 : decode prog_8_method_6_code 108 = .ok (.iload 4, 2) := by decide +kernel
theorem dd_Md_rule_110 : decode prog_8_method_6_code 110 = .ok (.putfield 26, 3) := by decide +kernel
theorem dd_Md_rule_113 : decode prog_8_method_6_code 113 = .ok (.aload_n 0, 1) := by decide +kernel
theorem dd_Md_rule_114 : decode prog_8_method_6_code 114 = .ok (.iload 5, 2) := by decide +kernel
theorem dd_Md_rule_116 : decode prog_8_method_6_code 116 = .ok (.putfield 79, 3) := by decide +kernel
theorem dd_Md_rule_119 : decode prog_8_method_6_code 119 = .ok (.aload_n 0, 1) := by decide +kernel
theorem dd_Md_rule_120 : decode prog_8_method_6_code 120 = .ok (.iload 6, 2) := by decide +kernel
theorem dd_Md_rule_122 : decode prog_8_method_6_code 122 = .ok (.putfield 29, 3) := by decide +kernel
theorem dd_Md_rule_125 : decode prog_8_method_6_code 125 = .ok (.iconst 1, 1) := by decide +kernel
theorem dd_Md_rule_126 : decode prog_8_method_6_code 126 = .ok (.ireturn, 1) := by decide +kernel
theorem dd_Md_in_0 : decode prog_8_method_3_code 0 = .ok (.iload_n 0, 1) := by decide +kernel
theorem dd_Md_in_1 : decode prog_8_method_3_code 1 = .ok (.iload_n 1, 1) := by decide +kernel
theorem dd_Md_in_2 : decode prog_8_method_3_code 2 = .ok (.if_icmp .lt 12, 3) := by decide +kernel
theorem dd_Md_in_5 : decode prog_8_method_3_code 5 = .ok (.iload_n 0, 1) := by decide +kernel
theorem dd_Md_in_6 : decode prog_8_method_3_code 6 = .ok (.iload_n 2, 1) := by decide +kernel
theorem dd_Md_in_7 : decode prog_8_method_3_code 7 = .ok (.if_icmp .gt 7, 3) := by decide +kernel
theorem dd_Md_in_10 : decode prog_8_method_3_code 10 = .ok (.iconst 1, 1) := by decide +kernel
theorem dd_Md_in_11 : decode prog_8_method_3_code 11 = .ok (.goto 4, 3) := by decide +kernel
theorem dd_Md_in_14 : decode prog_8_method_3_code 14 = .ok (.iconst 0, 1) := by decide +kernel
theorem dd_Md_in_15 : decode prog_8_method_3_code 15 = .ok (.ireturn, 1) := by decide +kernel
theorem dd_Md_add_0 : decode prog_8_method_8_code 0 = .ok (.aload_n 0, 1) := by decide +kernel
theorem dd_Md_add_1 : decode prog_8_method_8_code 1 = .ok (.iconst 0, 1) := by decide +kernel
theorem dd_Md_add_2 : decode prog_8_method_8_code 2 = .ok (.putfield 67, 3) := by decide +kernel
theorem dd_Md_add_5 : decode prog_8_method_8_code 5 = .ok (.aload_n 0, 1) := by decide +kernel
theorem dd_Md_add_6 : decode prog_8_method_8_code 6 = .ok (.iload_n 1, 1) := by decide +kernel
theorem dd_Md_add_7 : decode prog_8_method_8_code 7 = .ok (.iload_n 1, 1) := by decide +kernel
theorem dd_Md_add_8 : decode prog_8_method_8_code 8 = .ok (.invokestatic 82, 3) := by decide +kernel
theorem dd_Md_add_11 : decode prog_8_method_8_code 11 = .ok (.ifCond .eq 12, 3) := by decide +kernel
theorem dd_Md_add_14 : decode prog_8_method_8_code 14 = .ok (.aload_n 0, 1) := by decide +kernel
theorem dd_Md_add_15 : decode prog_8_method_8_code 15 = .ok (.getfield 13, 3) := by decide +kernel
theorem dd_Md_add_18 : decode prog_8_method_8_code 18 = .ok (.iload_n 1, 1) := by decide +kernel
theorem dd_Md_add_19 : decode prog_8_method_8_code 19 = .ok (.iaload, 1) := by decide +kernel
theorem dd_Md_add_20 : decode prog_8_method_8_code 20 = .ok (.goto 4, 3) := by decide +kernel
theorem dd_Md_add_23 : decode prog_8_method_8_code 23 = .ok (.iconst 0, 1) := by decide +kernel
theorem dd_Md_add_24 : decode prog_8_method_8_code 24 = .ok (.iload_n 2, 1) := by decide +kernel
theorem dd_Md_add_25 : decode prog_8_method_8_code 25 = .ok (.invokevirtual 86, 3) := by decide +kernel
theorem dd_Md_add_28 : decode prog_8_method_8_code 28 = .ok (.ireturn, 1) := by decide +kernel
theorem dd_Md_isText_0 : decode prog_8_method_7_code 0 = .ok (.iload_n 0, 1) := by decide +kernel
theorem dd_Md_isText_1 : decode prog_8_method_7_code 1 = .ok (.iconst 0, 1) := by decide +kernel
theorem dd_Md_isText_2 : decode prog_8_method_7_code 2 = .ok (.iconst 3, 1) := by decide +kernel
theorem dd_Md_isText_3 : decode prog_8_method_7_code 3 = .ok (.invokestatic 72, 3) := by decide +kernel
theorem dd_Md_isText_6 : decode prog_8_method_7_code 6 = .ok (.ireturn, 1) := by decide +kernel
theorem dd_Md_insertAt_0 : decode prog_8_method_9_code 0 = .ok (.iload_n 1, 1) := by decide +kernel
theorem dd_Md_insertAt_1 : decode prog_8_method_9_code 1 = .ok (.invokestatic 82, 3) := by decide +kernel
theorem dd_Md_insertAt_4 : decode prog_8_method_9_code 4 = .ok (.ifCond .eq 28, 3) := by decide +kernel
theorem dd_Md_insertAt_7 : decode prog_8_method_9_code 7 = .ok (.iload_n 2, 1) := by decide +kernel
theorem dd_Md_insertAt_8 : decode prog_8_method_9_code 8 = .ok (.iconst 0, 1) := by decide +kernel
theorem dd_Md_insertAt_9 : decode prog_8_method_9_code 9 = .ok (.aload_n 0, 1) := by decide +kernel
theorem dd_Md_insertAt_10 : decode prog_8_method_9_code 10 = .ok (.getfield 13, 3) := by decide +kernel
theorem dd_Md_insertAt_13 : decode prog_8_method_9_code 13 = .ok (.iload_n 1, 1) := by decide +kernel
theorem dd_Md_insertAt_14 : decode prog_8_method_9_code 14 = .ok (.iaload, 1) := by decide +kernel
theorem dd_Md_insertAt_15 : decode prog_8_method_9_code 15 = .ok (.invokestatic 72, 3) := by decide +kernel
theorem dd_Md_insertAt_18 : decode prog_8_method_9_code 18 = .ok (.ifCond .eq 14, 3) := by decide +kernel
theorem dd_Md_insertAt_21 : decode prog_8_method_9_code 21 = .ok (.iload_n 3, 1) := by decide +kernel
theorem dd_Md_insertAt_22 : decode prog_8_method_9_code 22 = .ok (.iconst 0, 1) := by decide +kernel
theorem dd_Md_insertAt_23 : decode prog_8_method_9_code 23 = .ok (.sipush 255, 3) := by decide +kernel
theorem dd_Md_insertAt_26 : decode prog_8_method_9_code 26 = .ok (.invokestatic 72, 3) := by decide +kernel
theorem dd_Md_insertAt_29 : decode prog_8_method_9_code 29 = .ok (.ifCond .ne 5, 3) := by decide +kernel
theorem dd_Md_insertAt_32 : decode prog_8_method_9_code 32 = .ok (.iconst (-1), 1) := by decide +kernel
theorem dd_Md_insertAt_33 : decode prog_8_method_9_code 33 = .ok (.ireturn, 1) := by decide +kernel
theorem dd_Md_insertAt_34 : decode prog_8_method_9_code 34 = .ok (.aload_n 0, 1) := by decide +kernel
theorem dd_Md_insertAt_35 : decode prog_8_method_9_code 35 = .ok (.getfield 13, 3) := by decide +kernel
theorem dd_Md_insertAt_38 : decode prog_8_method_9_code 38 = .ok (.iload_n 1, 1) := by decide +kernel
theorem dd_Md_insertAt_39 : decode prog_8_method_9_code 39 = .ok (.iaload, 1) := by decide +kernel
theorem dd_Md_insertAt_40 : decode prog_8_method_9_code 40 = .ok (.sipush 1500, 3) := by decide +kernel
theorem dd_Md_insertAt_43 : decode prog_8_method_9_code 43 = .ok (.if_icmp .ne 6, 3) := by decide +kernel
theorem dd_Md_insertAt_46 : decode prog_8_method_9_code 46 = .ok (.bipush (-2), 2) := by decide +kernel
theorem dd_Md_insertAt_48 : decode prog_8_method_9_code 48 = .ok (.ireturn, 1) := by decide +kernel
theorem dd_Md_insertAt_49 : decode prog_8_method_9_code 49 = .ok (.aload_n 0, 1) := by decide +kernel
theorem dd_Md_insertAt_50 : decode prog_8_method_9_code 50 = .ok (.getfield 13, 3) := by decide +kernel
theorem dd_Md_insertAt_53 : decode prog_8_method_9_code 53 = .ok (.iload_n 1, 1) := by decide +kernel
theorem dd_Md_insertAt_54 : decode prog_8_method_9_code 54 = .ok (.iaload, 1) := by decide +kernel
theorem dd_Md_insertAt_55 : decode prog_8_method_9_code 55 = .ok (.istore 4, 2) := by decide +kernel
theorem dd_Md_insertAt_57 : decode prog_8_method_9_code 57 = .ok (.iload 4, 2) := by decide +kernel
theorem dd_Md_insertAt_59 : decode prog_8_method_9_code 59 = .ok (.iload_n 2, 1) := by decide +kernel
theorem dd_Md_insertAt_60 : decode prog_8_method_9_code 60 = .ok (.if_icmp .le 37, 3) := by decide +kernel
theorem dd_Md_insertAt_63 : decode prog_8_method_9_code 63 = .ok (.aload_n 0, 1) := by decide +kernel
theorem dd_Md_insertAt_64 : decode prog_8_method_9_code 64 = .ok (.getfield 7, 3) := by decide +kernel
theorem dd_Md_insertAt_67 : decode prog_8_method_9_code 67 = .ok (.sipush 1500, 3) := by decide +kernel
theorem dd_Md_insertAt_70 : decode prog_8_method_9_code 70 = .ok (.iload_n 1, 1) := by decide +kernel
theorem dd_Md_insertAt_71 : decode prog_8_method_9_code 71 = .ok (.imul, 1) := by decide +kernel
theorem dd_Md_insertAt_72 : decode prog_8_method_9_code 72 = .ok (.iload 4, 2) := by decide +kernel
theorem dd_Md_insertAt_74 : decode prog_8_method_9_code 74 = .ok (.iadd, 1) := by decide +kernel
theorem dd_Md_insertAt_75 : decode prog_8_method_9_code 75 = .ok (.aload_n 0, 1) := by decide +kernel
theorem dd_Md_insertAt_76 : decode prog_8_method_9_code 76 = .ok (.getfield 7, 3) := by decide +kernel
theorem dd_Md_insertAt_79 : decode prog_8_method_9_code 79 = .ok (.sipush 1500, 3) := by decide +kernel
theorem dd_Md_insertAt_82 : decode prog_8_method_9_code 82 = .ok (.iload_n 1, 1) := by decide +kernel
theorem dd_Md_insertAt_83 : decode prog_8_method_9_code 83 = .ok (.imul, 1) := by decide +kernel
theorem dd_Md_insertAt_84 : decode prog_8_method_9_code 84 = .ok (.iload 4, 2) := by decide +kernel
theorem dd_Md_insertAt_86 : decode prog_8_method_9_code 86 = .ok (.iadd, 1) := by decide +kernel
theorem dd_Md_insertAt_87 : decode prog_8_method_9_code 87 = .ok (.iconst 1, 1) := by decide +kernel
theorem dd_Md_insertAt_88 : decode prog_8_method_9_code 88 = .ok (.isub, 1) := by decide +kernel
theorem dd_Md_insertAt_89 : decode prog_8_method_9_code 89 = .ok (.iaload, 1) := by decide +kernel
theorem dd_Md_insertAt_90 : decode prog_8_method_9_code 90 = .ok (.iastore, 1) := by decide +kernel
theorem dd_Md_insertAt_91 : decode prog_8_method_9_code 91 = .ok (.iinc 4 (-1), 3) := by decide +kernel
theorem dd_Md_insertAt_94 : decode prog_8_method_9_code 94 = .ok (.goto (-37), 3) := by decide +kernel
theorem dd_Md_insertAt_97 : decode prog_8_method_9_code 97 = .ok (.aload_n 0, 1) := by decide +kernel
theorem dd_Md_insertAt_98 : decode prog_8_method_9_code 98 = .ok (.getfield 7, 3) := by decide +kernel
theorem dd_Md_insertAt_101 : decode prog_8_method_9_code 101 = .ok (.sipush 1500, 3) := by decide +kernel
theorem dd_Md_insertAt_104 : decode prog_8_method_9_code 104 = .ok (.iload_n 1, 1) := by decide +kernel
theorem dd_Md_insertAt_105 : decode prog_8_method_9_code 105 = .ok (.imul, 1) := by decide +kernel
theorem dd_Md_insertAt_106 : decode prog_8_method_9_code 106 = .ok (.iload_n 2, 1) := by decide +kernel
theorem dd_Md_insertAt_107 : decode prog_8_method_9_code 107 = .ok (.iadd, 1) := by decide +kernel
theorem dd_Md_insertAt_108 : decode prog_8_method_9_code 108 = .ok (.iload_n 3, 1) := by decide +kernel
theorem dd_Md_insertAt_109 : decode prog_8_method_9_code 109 = .ok (.iastore, 1) := by decide +kernel
theorem dd_Md_insertAt_110 : decode prog_8_method_9_code 110 = .ok (.aload_n 0, 1) := by decide +kernel
theorem dd_Md_insertAt_111 : decode prog_8_method_9_code 111 = .ok (.getfield 13, 3) := by decide +kernel
theorem dd_Md_insertAt_114 : decode prog_8_method_9_code 114 = .ok (.iload_n 1, 1) := by decide +kernel
theorem dd_Md_insertAt_115 : decode prog_8_method_9_code 115 = .ok (.dup2, 1) := by decide +kernel
theorem dd_Md_insertAt_116 : decode prog_8_method_9_code 116 = .ok (.iaload, 1) := by decide +kernel
theorem dd_Md_insertAt_117 : decode prog_8_method_9_code 117 = .ok (.iconst 1, 1) := by decide +kernel
theorem dd_Md_insertAt_118 : decode prog_8_method_9_code 118 = .ok (.iadd, 1) := by decide +kernel
theorem dd_Md_insertAt_119 : decode prog_8_method_9_code 119 = .ok (.iastore, 1) := by decide +kernel
theorem dd_Md_insertAt_120 : decode prog_8_method_9_code 120 = .ok (.aload_n 0, 1) := by decide +kernel
theorem dd_Md_insertAt_121 : decode prog_8_method_9_code 121 = .ok (.getfield 13, 3) := by decide +kernel
theorem dd_Md_insertAt_124 : decode prog_8_method_9_code 124 = .ok (.iload_n 1, 1) := by decide +kernel
theorem dd_Md_insertAt_125 : decode prog_8_method_9_code 125 = .ok (.iaload, 1) := by decide +kernel
theorem dd_Md_insertAt_126 : decode prog_8_method_9_code 126 = .ok (.ireturn, 1) := by decide +kernel
theorem dd_Md_fill_0 : decode prog_8_method_10_code 0 = .ok (.aload_n 0, 1) := by decide +kernel
theorem dd_Md_fill_1 : decode prog_8_method_10_code 1 = .ok (.iconst 0, 1) := by decide +kernel
theorem dd_Md_fill_2 : decode prog_8_method_10_code 2 = .ok (.putfield 67, 3) := by decide +kernel
theorem dd_Md_fill_5 : decode prog_8_method_10_code 5 = .ok (.iload_n 1, 1) := by decide +kernel
theorem dd_Md_fill_6 : decode prog_8_method_10_code 6 = .ok (.invokestatic 82, 3) := by decide +kernel
theorem dd_Md_fill_9 : decode prog_8_method_10_code 9 = .ok (.ifCond .eq 26, 3) := by decide +kernel
theorem dd_Md_fill_12 : decode prog_8_method_10_code 12 = .ok (.iload_n 2, 1) := by decide +kernel
theorem dd_Md_fill_13 : decode prog_8_method_10_code 13 = .ok (.iconst 1, 1) := by decide +kernel
theorem dd_Md_fill_14 : decode prog_8_method_10_code 14 = .ok (.sipush 400, 3) := by decide +kernel
theorem dd_Md_fill_17 : decode prog_8_method_10_code 17 = .ok (.invokestatic 72, 3) := by decide +kernel
theorem dd_Md_fill_20 : decode prog_8_method_10_code 20 = .ok (.ifCond .eq 15, 3) := by decide +kernel
theorem dd_Md_fill_23 : decode prog_8_method_10_code 23 = .ok (.iload 4, 2) := by decide +kernel
theorem dd_Md_fill_25 : decode prog_8_method_10_code 25 = .ok (.iconst 1, 1) := by decide +kernel
theorem dd_Md_fill_26 : decode prog_8_method_10_code 26 = .ok (.sipush 256, 3) := by decide +kernel
theorem dd_Md_fill_29 : decode prog_8_method_10_code 29 = .ok (.invokestatic 72, 3) := by decide +kernel
theorem dd_Md_fill_32 : decode prog_8_method_10_code 32 = .ok (.ifCond .ne 5, 3) := by decide +kernel
theorem dd_Md_fill_35 : decode prog_8_method_10_code 35 = .ok (.iconst (-1), 1) := by decide +kernel
theorem dd_Md_fill_36 : decode prog_8_method_10_code 36 = .ok (.ireturn, 1) := by decide +kernel
theorem dd_Md_fill_37 : decode prog_8_method_10_code 37 = .ok (.aload_n 0, 1) := by decide +kernel
theorem dd_Md_fill_38 : decode prog_8_method_10_code 38 = .ok (.getfield 13, 3) := by decide +kernel
theorem dd_Md_fill_41 : decode prog_8_method_10_code 41 = .ok (.iload_n 1, 1) := by decide +kernel
theorem dd_Md_fill_42 : decode prog_8_method_10_code 42 = .ok (.iaload, 1) := by decide +kernel
theorem dd_Md_fill_43 : decode prog_8_method_10_code 43 = .ok (.iload_n 2, 1) := by decide +kernel
theorem dd_Md_fill_44 : decode prog_8_method_10_code 44 = .ok (.iadd, 1) := by decide +kernel
theorem dd_Md_fill_45 : decode prog_8_method_10_code 45 = .ok (.sipush 1500, 3) := by decide +kernel
theorem dd_Md_fill_48 : decode prog_8_method_10_code 48 = .ok (.if_icmp .le 6, 3) := by decide +kernel
theorem dd_Md_fill_51 : decode prog_8_method_10_code 51 = .ok (.bipush (-2), 2) := by decide +kernel
theorem dd_Md_fill_53 : decode prog_8_method_10_code 53 = .ok (.ireturn, 1) := by decide +kernel
theorem dd_Md_fill_54 : decode prog_8_method_10_code 54 = .ok (.iload_n 3, 1) := by decide +kernel
theorem dd_Md_fill_55 : decode prog_8_method_10_code 55 = .ok (.istore 5, 2) := by decide +kernel
theorem dd_Md_fill_57 : decode prog_8_method_10_code 57 = .ok (.iconst 0, 1) := by decide +kernel
theorem dd_Md_fill_58 : decode prog_8_method_10_code 58 = .ok (.istore 6, 2) := by decide +kernel
theorem dd_Md_fill_60 : decode prog_8_method_10_code 60 = .ok (.iload 6, 2) := by decide +kernel
theorem dd_Md_fill_62 : decode prog_8_method_10_code 62 = .ok (.iload_n 2, 1) := by decide +kernel
theorem dd_Md_fill_63 : decode prog_8_method_10_code 63 = .ok (.if_icmp .ge 55, 3) := by decide +kernel
theorem dd_Md_fill_66 : decode prog_8_method_10_code 66 = .ok (.iload 5, 2) := by decide +kernel
theorem dd_Md_fill_68 : decode prog_8_method_10_code 68 = .ok (.ldc 90, 2) := by decide +kernel
theorem dd_Md_fill_70 : decode prog_8_method_10_code 70 = .ok (.imul, 1) := by decide +kernel
theorem dd_Md_fill_71 : decode prog_8_method_10_code 71 = .ok (.sipush 12345, 3) := by decide +kernel
theorem dd_Md_fill_74 : decode prog_8_method_10_code 74 = .ok (.iadd, 1) := by decide +kernel
theorem dd_Md_fill_75 : decode prog_8_method_10_code 75 = .ok (.istore 5, 2) := by decide +kernel
theorem dd_Md_fill_77 : decode prog_8_method_10_code 77 = .ok (.aload_n 0, 1) := by decide +kernel
theorem dd_Md_fill_78 : decode prog_8_method_10_code 78 = .ok (.getfield 7, 3) := by decide +kernel
theorem dd_Md_fill_81 : decode prog_8_method_10_code 81 = .ok (.sipush 1500, 3) := by decide +kernel
theorem dd_Md_fill_84 : decode prog_8_method_10_code 84 = .ok (.iload_n 1, 1) := by decide +kernel
theorem dd_Md_fill_85 : decode prog_8_method_10_code 85 = .ok (.imul, 1) := by decide +kernel
theorem dd_Md_fill_86 : decode prog_8_method_10_code 86 = .ok (.aload_n 0, 1) := by decide +kernel
theorem dd_Md_fill_87 : decode prog_8_method_10_code 87 = .ok (.getfield 13, 3) := by decide +kernel
theorem dd_Md_fill_90 : decode prog_8_method_10_code 90 = .ok (.iload_n 1, 1) := by decide +kernel
theorem dd_Md_fill_91 : decode prog_8_method_10_code 91 = .ok (.iaload, 1) := by decide +kernel
theorem dd_Md_fill_92 : decode prog_8_method_10_code 92 = .ok (.iadd, 1) := by decide +kernel
theorem dd_Md_fill_93 : decode prog_8_method_10_code 93 = .ok (.iload 5, 2) := by decide +kernel
theorem dd_Md_fill_95 : decode prog_8_method_10_code 95 = .ok (.bipush 16, 2) := by decide +kernel
theorem dd_Md_fill_97 : decode prog_8_method_10_code 97 = .ok (.iushr, 1) := by decide +kernel
theorem dd_Md_fill_98 : decode prog_8_method_10_code 98 = .ok (.iload 4, 2) := by decide +kernel
theorem dd_Md_fill_100 : decode prog_8_method_10_code 100 = .ok (.irem, 1) := by decide +kernel
theorem dd_Md_fill_101 : decode prog_8_method_10_code 101 = .ok (.iastore, 1) := by decide +kernel
theorem dd_Md_fill_102 : decode prog_8_method_10_code 102 = .ok (.aload_n 0, 1) := by decide +kernel
theorem dd_Md_fill_103 : decode prog_8_method_10_code 103 = .ok (.getfield 13, 3) := by decide +kernel
theorem dd_Md_fill_106 : decode prog_8_method_10_code 106 = .ok (.iload_n 1, 1) := by decide +kernel
theorem dd_Md_fill_107 : decode prog_8_method_10_code 107 = .ok (.dup2, 1) := by decide +kernel
theorem dd_Md_fill_108 : decode prog_8_method_10_code 108 = .ok (.iaload, 1) := by decide +kernel
theorem dd_Md_fill_109 : decode prog_8_method_10_code 109 = .ok (.iconst 1, 1) := by decide +kernel
theorem dd_Md_fill_110 : decode prog_8_method_10_code 110 = .ok (.iadd, 1) := by decide +kernel
theorem dd_Md_fill_111 : decode prog_8_method_10_code 111 = .ok (.iastore, 1) := by decide +kernel
theorem dd_Md_fill_112 : decode prog_8_method_10_code 112 = .ok (.iinc 6 1, 3) := by decide +kernel
theorem dd_Md_fill_115 : decode prog_8_method_10_code 115 = .ok (.goto (-55), 3) := by decide +kernel
theorem dd_Md_fill_118 : decode prog_8_method_10_code 118 = .ok (.aload_n 0, 1) := by decide +kernel
theorem dd_Md_fill_119 : decode prog_8_method_10_code 119 = .ok (.getfield 13, 3) := by decide +kernel
theorem dd_Md_fill_122 : decode prog_8_method_10_code 122 = .ok (.iload_n 1, 1) := by decide +kernel
theorem dd_Md_fill_123 : decode prog_8_method_10_code 123 = .ok (.iaload, 1) := by decide +kernel
theorem dd_Md_fill_124 : decode prog_8_method_10_code 124 = .ok (.ireturn, 1) := by decide +kernel
theorem dd_Md_insert_0 : decode prog_8_method_11_code 0 = .ok (.aload_n 0, 1) := by decide +kernel
theorem dd_Md_insert_1 : decode prog_8_method_11_code 1 = .ok (.iconst 0, 1) := by decide +kernel
theorem dd_Md_insert_2 : decode prog_8_method_11_code 2 = .ok (.putfield 67, 3) := by decide +kernel
theorem dd_Md_insert_5 : decode prog_8_method_11_code 5 = .ok (.aload_n 0, 1) := by decide +kernel
theorem dd_Md_insert_6 : decode prog_8_method_11_code 6 = .ok (.iload_n 1, 1) := by decide +kernel
theorem dd_Md_insert_7 : decode prog_8_method_11_code 7 = .ok (.iload_n 2, 1) := by decide +kernel
theorem dd_Md_insert_8 : decode prog_8_method_11_code 8 = .ok (.iload_n 3, 1) := by decide +kernel
theorem dd_Md_insert_9 : decode prog_8_method_11_code 9 = .ok (.invokevirtual 86, 3) := by decide +kernel
theorem dd_Md_insert_12 : decode prog_8_method_11_code 12 = .ok (.ireturn, 1) := by decide +kernel
theorem dd_Md_remove_0 : decode prog_8_method_12_code 0 = .ok (.aload_n 0, 1) := by decide +kernel
theorem dd_Md_remove_1 : decode prog_8_method_12_code 1 = .ok (.iconst 0, 1) := by decide +kernel
theorem dd_Md_remove_2 : decode prog_8_method_12_code 2 = .ok (.putfield 67, 3) := by decide +kernel
theorem dd_Md_remove_5 : decode prog_8_method_12_code 5 = .ok (.iload_n 1, 1) := by decide +kernel
theorem dd_Md_remove_6 : decode prog_8_method_12_code 6 = .ok (.invokestatic 82, 3) := by decide +kernel
theorem dd_Md_remove_9 : decode prog_8_method_12_code 9 = .ok (.ifCond .eq 33, 3) := by decide +kernel
theorem dd_Md_remove_12 : decode prog_8_method_12_code 12 = .ok (.iload_n 2, 1) := by decide +kernel
theorem dd_Md_remove_13 : decode prog_8_method_12_code 13 = .ok (.iconst 0, 1) := by decide +kernel
theorem dd_Md_remove_14 : decode prog_8_method_12_code 14 = .ok (.aload_n 0, 1) := by decide +kernel
theorem dd_Md_remove_15 : decode prog_8_method_12_code 15 = .ok (.getfield 13, 3) := by decide +kernel
theorem dd_Md_remove_18 : decode prog_8_method_12_code 18 = .ok (.iload_n 1, 1) := by decide +kernel
theorem dd_Md_remove_19 : decode prog_8_method_12_code 19 = .ok (.iaload, 1) := by decide +kernel
theorem dd_Md_remove_20 : decode prog_8_method_12_code 20 = .ok (.invokestatic 72, 3) := by decide +kernel
theorem dd_Md_remove_23 : decode prog_8_method_12_code 23 = .ok (.ifCond .eq 19, 3) := by decide +kernel
theorem dd_Md_remove_26 : decode prog_8_method_12_code 26 = .ok (.iload_n 3, 1) := by decide +kernel
theorem dd_Md_remove_27 : decode prog_8_method_12_code 27 = .ok (.iconst 0, 1) := by decide +kernel
theorem dd_Md_remove_28 : decode prog_8_method_12_code 28 = .ok (.aload_n 0, 1) := by decide +kernel
theorem dd_Md_remove_29 : decode prog_8_method_12_code 29 = .ok (.getfield 13, 3) := by decide +kernel
theorem dd_Md_remove_32 : decode prog_8_method_12_code 32 = .ok (.iload_n 1, 1) := by decide +kernel
theorem dd_Md_remove_33 : decode prog_8_method_12_code 33 = .ok (.iaload, 1) := by decide +kernel
theorem dd_Md_remove_34 : decode prog_8_method_12_code 34 = .ok (.iload_n 2, 1) := by decide +kernel
theorem dd_Md_remove_35 : decode prog_8_method_12_code 35 = .ok (.isub, 1) := by decide +kernel
theorem dd_Md_remove_36 : decode prog_8_method_12_code 36 = .ok (.invokestatic 72, 3) := by decide +kernel
theorem dd_Md_remove_39 : decode prog_8_method_12_code 39 = .ok (.ifCond .ne 5, 3) := by decide +kernel
theorem dd_Md_remove_42 : decode prog_8_method_12_code 42 = .ok (.iconst (-1), 1) := by decide +kernel
theorem dd_Md_remove_43 : decode prog_8_method_12_code 43 = .ok (.ireturn, 1) := by decide +kernel
theorem dd_Md_remove_44 : decode prog_8_method_12_code 44 = .ok (.iload_n 2, 1) := by decide +kernel
theorem dd_Md_remove_45 : decode prog_8_method_12_code 45 = .ok (.istore 4, 2) := by decide +kernel
theorem dd_Md_remove_47 : decode prog_8_method_12_code 47 = .ok (.iload 4, 2) := by decide +kernel
theorem dd_Md_remove_49 : decode prog_8_method_12_code 49 = .ok (.iload_n 3, 1) := by decide +kernel
theorem dd_Md_remove_50 : decode prog_8_method_12_code 50 = .ok (.iadd, 1) := by decide +kernel
theorem dd_Md_remove_51 : decode prog_8_method_12_code 51 = .ok (.aload_n 0, 1) := by decide +kernel
theorem dd_Md_remove_52 : decode prog_8_method_12_code 52 = .ok (.getfield 13, 3) := by decide +kernel
theorem dd_Md_remove_55 : decode prog_8_method_12_code 55 = .ok (.iload_n 1, 1) := by decide +kernel
theorem dd_Md_remove_56 : decode prog_8_method_12_code 56 = .ok (.iaload, 1) := by decide +kernel
theorem dd_Md_remove_57 : decode prog_8_method_12_code 57 = .ok (.if_icmp .ge 37, 3) := by decide +kernel
theorem dd_Md_remove_60 : decode prog_8_method_12_code 60 = .ok (.aload_n 0, 1) := by decide +kernel
theorem dd_Md_remove_61 : decode prog_8_method_12_code 61 = .ok (.getfield 7, 3) := by decide +kernel
theorem dd_Md_remove_64 : decode prog_8_method_12_code 64 = .ok (.sipush 1500, 3) := by decide +kernel
theorem dd_Md_remove_67 : decode prog_8_method_12_code 67 = .ok (.iload_n 1, 1) := by decide +kernel
theorem dd_Md_remove_68 : decode prog_8_method_12_code 68 = .ok (.imul, 1) := by decide +kernel
theorem dd_Md_remove_69 : decode prog_8_method_12_code 69 = .ok (.iload 4, 2) := by decide +kernel
theorem dd_Md_remove_71 : decode prog_8_method_12_code 71 = .ok (.iadd, 1) := by decide +kernel
theorem dd_Md_remove_72 : decode prog_8_method_12_code 72 = .ok (.aload_n 0, 1) := by decide +kernel
theorem dd_Md_remove_73 : decode prog_8_method_12_code 73 = .ok (.getfield 7, 3) := by decide +kernel
theorem dd_Md_remove_76 : decode prog_8_method_12_code 76 = .ok (.sipush 1500, 3) := by decide +kernel
theorem dd_Md_remove_79 : decode prog_8_method_12_code 79 = .ok (.iload_n 1, 1) := by decide +kernel
theorem dd_Md_remove_80 : decode prog_8_method_12_code 80 = .ok (.imul, 1) := by decide +kernel
theorem dd_Md_remove_81 : decode prog_8_method_12_code 81 = .ok (.iload 4, 2) := by decide +kernel
theorem dd_Md_remove_83 : decode prog_8_method_12_code 83 = .ok (.iadd, 1) := by decide +kernel
theorem dd_Md_remove_84 : decode prog_8_method_12_code 84 = .ok (.iload_n 3, 1) := by decide +kernel
theorem dd_Md_remove_85 : decode prog_8_method_12_code 85 = .ok (.iadd, 1) := by decide +kernel
theorem dd_Md_remove_86 : decode prog_8_method_12_code 86 = .ok (.iaload, 1) := by decide +kernel
theorem dd_Md_remove_87 : decode prog_8_method_12_code 87 = .ok (.iastore, 1) := by decide +kernel
theorem dd_Md_remove_88 : decode prog_8_method_12_code 88 = .ok (.iinc 4 1, 3) := by decide +kernel
theorem dd_Md_remove_91 : decode prog_8_method_12_code 91 = .ok (.goto (-44), 3) := by decide +kernel
theorem dd_Md_remove_94 : decode prog_8_method_12_code 94 = .ok (.aload_n 0, 1) := by decide +kernel
theorem dd_Md_remove_95 : decode prog_8_method_12_code 95 = .ok (.getfield 13, 3) := by decide +kernel
theorem dd_Md_remove_98 : decode prog_8_method_12_code 98 = .ok (.iload_n 1, 1) := by decide +kernel
theorem dd_Md_remove_99 : decode prog_8_method_12_code 99 = .ok (.dup2, 1) := by decide +kernel
theorem dd_Md_remove_100 : decode prog_8_method_12_code 100 = .ok (.iaload, 1) := by decide +kernel
theorem dd_Md_remove_101 : decode prog_8_method_12_code 101 = .ok (.iload_n 3, 1) := by decide +kernel
theorem dd_Md_remove_102 : decode prog_8_method_12_code 102 = .ok (.isub, 1) := by decide +kernel
theorem dd_Md_remove_103 : decode prog_8_method_12_code 103 = .ok (.iastore, 1) := by decide +kernel
theorem dd_Md_remove_104 : decode prog_8_method_12_code 104 = .ok (.aload_n 0, 1) := by decide +kernel
theorem dd_Md_remove_105 : decode prog_8_method_12_code 105 = .ok (.getfield 13, 3) := by decide +kernel
theorem dd_Md_remove_108 : decode prog_8_method_12_code 108 = .ok (.iload_n 1, 1) := by decide +kernel
theorem dd_Md_remove_109 : decode prog_8_method_12_code 109 = .ok (.iaload, 1) := by decide +kernel
theorem dd_Md_remove_110 : decode prog_8_method_12_code 110 = .ok (.ireturn, 1) := by decide +kernel
theorem dd_Md_copy_0 : decode prog_8_method_13_code 0 = .ok (.aload_n 0, 1) := by decide +kernel
theorem dd_Md_copy_1 : decode prog_8_method_13_code 1 = .ok (.iconst 0, 1) := by decide +kernel
theorem dd_Md_copy_2 : decode prog_8_method_13_code 2 = .ok (.putfield 67, 3) := by decide +kernel
theorem dd_Md_copy_5 : decode prog_8_method_13_code 5 = .ok (.iload_n 1, 1) := by decide +kernel
theorem dd_Md_copy_6 : decode prog_8_method_13_code 6 = .ok (.invokestatic 82, 3) := by decide +kernel
theorem dd_Md_copy_9 : decode prog_8_method_13_code 9 = .ok (.ifCond .eq 10, 3) := by decide +kernel
theorem dd_Md_copy_12 : decode prog_8_method_13_code 12 = .ok (.iload_n 2, 1) := by decide +kernel
theorem dd_Md_copy_13 : decode prog_8_method_13_code 13 = .ok (.invokestatic 82, 3) := by decide +kernel
theorem dd_Md_copy_16 : decode prog_8_method_13_code 16 = .ok (.ifCond .ne 5, 3) := by decide +kernel
theorem dd_Md_copy_19 : decode prog_8_method_13_code 19 = .ok (.iconst (-1), 1) := by decide +kernel
theorem dd_Md_copy_20 : decode prog_8_method_13_code 20 = .ok (.ireturn, 1) := by decide +kernel
theorem dd_Md_copy_21 : decode prog_8_method_13_code 21 = .ok (.iconst 0, 1) := by decide +kernel
theorem dd_Md_copy_22 : decode prog_8_method_13_code 22 = .ok (.istore_n 3, 1) := by decide +kernel
theorem dd_Md_copy_23 : decode prog_8_method_13_code 23 = .ok (.iload_n 3, 1) := by decide +kernel
theorem dd_Md_copy_24 : decode prog_8_method_13_code 24 = .ok (.aload_n 0, 1) := by decide +kernel
theorem dd_Md_copy_25 : decode prog_8_method_13_code 25 = .ok (.getfield 13, 3) := by decide +kernel
theorem dd_Md_copy_28 : decode prog_8_method_13_code 28 = .ok (.iload_n 2, 1) := by decide +kernel
theorem dd_Md_copy_29 : decode prog_8_method_13_code 29 = .ok (.iaload, 1) := by decide +kernel
theorem dd_Md_copy_30 : decode prog_8_method_13_code 30 = .ok (.if_icmp .ge 33, 3) := by decide +kernel
theorem dd_Md_copy_33 : decode prog_8_method_13_code 33 = .ok (.aload_n 0, 1) := by decide +kernel
theorem dd_Md_copy_34 : decode prog_8_method_13_code 34 = .ok (.getfield 7, 3) := by decide +kernel
theorem dd_Md_copy_37 : decode prog_8_method_13_code 37 = .ok (.sipush 1500, 3) := by decide +kernel
theorem dd_Md_copy_40 : decode prog_8_method_13_code 40 = .ok (.iload_n 1, 1) := by decide +kernel
theorem dd_Md_copy_41 : decode prog_8_method_13_code 41 = .ok (.imul, 1) := by decide +kernel
theorem dd_Md_copy_42 : decode prog_8_method_13_code 42 = .ok (.iload_n 3, 1) := by decide +kernel
theorem dd_Md_copy_43 : decode prog_8_method_13_code 43 = .ok (.iadd, 1) := by decide +kernel
theorem dd_Md_copy_44 : decode prog_8_method_13_code 44 = .ok (.aload_n 0, 1) := by decide +kernel
theorem dd_Md_copy_45 : decode prog_8_method_13_code 45 = .ok (.getfield 7, 3) := by decide +kernel
theorem dd_Md_copy_48 : decode prog_8_method_13_code 48 = .ok (.sipush 1500, 3) := by decide +kernel
theorem dd_Md_copy_51 : decode prog_8_method_13_code 51 = .ok (.iload_n 2, 1) := by decide +kernel
theorem dd_Md_copy_52 : decode prog_8_method_13_code 52 = .ok (.imul, 1) := by decide +kernel
theorem dd_Md_copy_53 : decode prog_8_method_13_code 53 = .ok (.iload_n 3, 1) := by decide +kernel
theorem dd_Md_copy_54 : decode prog_8_method_13_code 54 = .ok (.iadd, 1) := by decide +kernel
theorem dd_Md_copy_55 : decode prog_8_method_13_code 55 = .ok (.iaload, 1) := by decide +kernel
theorem dd_Md_copy_56 : decode prog_8_method_13_code 56 = .ok (.iastore, 1) := by decide +kernel
theorem dd_Md_copy_57 : decode prog_8_method_13_code 57 = .ok (.iinc 3 1, 3) := by decide +kernel
theorem dd_Md_copy_60 : decode prog_8_method_13_code 60 = .ok (.goto (-37), 3) := by decide +kernel
theorem dd_Md_copy_63 : decode prog_8_method_13_code 63 = .ok (.aload_n 0, 1) := by decide +kernel
theorem dd_Md_copy_64 : decode prog_8_method_13_code 64 = .ok (.getfield 13, 3) := by decide +kernel
theorem dd_Md_copy_67 : decode prog_8_method_13_code 67 = .ok (.iload_n 1, 1) := by decide +kernel
theorem dd_Md_copy_68 : decode prog_8_method_13_code 68 = .ok (.aload_n 0, 1) := by decide +kernel
theorem dd_Md_copy_69 : decode prog_8_method_13_code 69 = .ok (.getfield 13, 3) := by decide +kernel
theorem dd_Md_copy_72 : decode prog_8_method_13_code 72 = .ok (.iload_n 2, 1) := by decide +kernel
theorem dd_Md_copy_73 : decode prog_8_method_13_code 73 = .ok (.iaload, 1) := by decide +kernel
theorem dd_Md_copy_74 : decode prog_8_method_13_code 74 = .ok (.iastore, 1) := by decide +kernel
theorem dd_Md_copy_75 : decode prog_8_method_13_code 75 = .ok (.aload_n 0, 1) := by decide +kernel
theorem dd_Md_copy_76 : decode prog_8_method_13_code 76 = .ok (.getfield 13, 3) := by decide +kernel
theorem dd_Md_copy_79 : decode prog_8_method_13_code 79 = .ok (.iload_n 1, 1) := by decide +kernel
theorem dd_Md_copy_80 : decode prog_8_method_13_code 80 = .ok (.iaload, 1) := by decide +kernel
theorem dd_Md_copy_81 : decode prog_8_method_13_code 81 = .ok (.ireturn, 1) := by decide +kernel
theorem dd_Md_size_0 : decode prog_8_method_14_code 0 = .ok (.aload_n 0, 1) := by decide +kernel
theorem dd_Md_size_1 : decode prog_8_method_14_code 1 = .ok (.iconst 0, 1) := by decide +kernel
theorem dd_Md_size_2 : decode prog_8_method_14_code 2 = .ok (.putfield 67, 3) := by decide +kernel
theorem dd_Md_size_5 : decode prog_8_method_14_code 5 = .ok (.iload_n 1, 1) := by decide +kernel
theorem dd_Md_size_6 : decode prog_8_method_14_code 6 = .ok (.invokestatic 82, 3) := by decide +kernel
theorem dd_Md_size_9 : decode prog_8_method_14_code 9 = .ok (.ifCond .eq 12, 3) := by decide +kernel
theorem dd_Md_size_12 : decode prog_8_method_14_code 12 = .ok (.aload_n 0, 1) := by decide +kernel
theorem dd_Md_size_13 : decode prog_8_method_14_code 13 = .ok (.getfield 13, 3) := by decide +kernel
theorem dd_Md_size_16 : decode prog_8_method_14_code 16 = .ok (.iload_n 1, 1) := by decide +kernel
theorem dd_Md_size_17 : decode prog_8_method_14_code 17 = .ok (.iaload, 1) := by decide +kernel
theorem dd_Md_size_18 : decode prog_8_method_14_code 18 = .ok (.goto 4, 3) := by decide +kernel
theorem dd_Md_size_21 : decode prog_8_method_14_code 21 = .ok (.iconst (-1), 1) := by decide +kernel
theorem dd_Md_size_22 : decode prog_8_method_14_code 22 = .ok (.ireturn, 1) := by decide +kernel
theorem dd_Md_byteAt_0 : decode prog_8_method_15_code 0 = .ok (.aload_n 0, 1) := by decide +kernel
theorem dd_Md_byteAt_1 : decode prog_8_method_15_code 1 = .ok (.iconst 0, 1) := by decide +kernel
theorem dd_Md_byteAt_2 : decode prog_8_method_15_code 2 = .ok (.putfield 67, 3) := by decide +kernel
theorem dd_Md_byteAt_5 : decode prog_8_method_15_code 5 = .ok (.iload_n 1, 1) := by decide +kernel
theorem dd_Md_byteAt_6 : decode prog_8_method_15_code 6 = .ok (.invokestatic 82, 3) := by decide +kernel
theorem dd_Md_byteAt_9 : decode prog_8_method_15_code 9 = .ok (.ifCond .eq 34, 3) := by decide +kernel
theorem dd_Md_byteAt_12 : decode prog_8_method_15_code 12 = .ok (.iload_n 2, 1) := by decide +kernel
theorem dd_Md_byteAt_13 : decode prog_8_method_15_code 13 = .ok (.iconst 0, 1) := by decide +kernel
theorem dd_Md_byteAt_14 : decode prog_8_method_15_code 14 = .ok (.aload_n 0, 1) := by decide +kernel
theorem dd_Md_byteAt_15 : decode prog_8_method_15_code 15 = .ok (.getfield 13, 3) := by decide +kernel
theorem dd_Md_byteAt_18 : decode prog_8_method_15_code 18 = .ok (.iload_n 1, 1) := by decide +kernel
theorem dd_Md_byteAt_19 : decode prog_8_method_15_code 19 = .ok (.iaload, 1) := by decide +kernel
theorem dd_Md_byteAt_20 : decode prog_8_method_15_code 20 = .ok (.iconst 1, 1) := by decide +kernel
theorem dd_Md_byteAt_21 : decode prog_8_method_15_code 21 = .ok (.isub, 1) := by decide +kernel
theorem dd_Md_byteAt_22 : decode prog_8_method_15_code 22 = .ok (.invokestatic 72, 3) := by decide +kernel
theorem dd_Md_byteAt_25 : decode prog_8_method_15_code 25 = .ok (.ifCond .eq 18, 3) := by decide +kernel
theorem dd_Md_byteAt_28 : decode prog_8_method_15_code 28 = .ok (.aload_n 0, 1) := by decide +kernel
theorem dd_Md_byteAt_29 : decode prog_8_method_15_code 29 = .ok (.getfield 7, 3) := by decide +kernel
theorem dd_Md_byteAt_32 : decode prog_8_method_15_code 32 = .ok (.sipush 1500, 3) := by decide +kernel
theorem dd_Md_byteAt_35 : decode prog_8_method_15_code 35 = .ok (.iload_n 1, 1) := by decide +kernel
theorem dd_Md_byteAt_36 : decode prog_8_method_15_code 36 = .ok (.imul, 1) := by decide +kernel
theorem dd_Md_byteAt_37 : decode prog_8_method_15_code 37 = .ok (.iload_n 2, 1) := by decide +kernel
theorem dd_Md_byteAt_38 : decode prog_8_method_15_code 38 = .ok (.iadd, 1) := by decide +kernel
theorem dd_Md_byteAt_39 : decode prog_8_method_15_code 39 = .ok (.iaload, 1) := by decide +kernel
theorem dd_Md_byteAt_40 : decode prog_8_method_15_code 40 = .ok (.goto 4, 3) := by decide +kernel
theorem dd_Md_byteAt_43 : decode prog_8_method_15_code 43 = .ok (.iconst (-1), 1) := by decide +kernel
theorem dd_Md_byteAt_44 : decode prog_8_method_15_code 44 = .ok (.ireturn, 1) := by decide +kernel
theorem dd_Md_blocks_0 : decode prog_8_method_22_code 0 = .ok (.aload_n 0, 1) := by decide +kernel
theorem dd_Md_blocks_1 : decode prog_8_method_22_code 1 = .ok (.iconst 0, 1) := by decide +kernel
theorem dd_Md_blocks_2 : decode prog_8_method_22_code 2 = .ok (.putfield 67, 3) := by decide +kernel
theorem dd_Md_blocks_5 : decode prog_8_method_22_code 5 = .ok (.iload_n 1, 1) := by decide +kernel
theorem dd_Md_blocks_6 : decode prog_8_method_22_code 6 = .ok (.invokestatic 82, 3) := by decide +kernel
theorem dd_Md_blocks_9 : decode prog_8_method_22_code 9 = .ok (.ifCond .eq 15, 3) := by decide +kernel
theorem dd_Md_blocks_12 : decode prog_8_method_22_code 12 = .ok (.aload_n 0, 1) := by decide +kernel
theorem dd_Md_blocks_13 : decode prog_8_method_22_code 13 = .ok (.iload_n 1, 1) := by decide +kernel
theorem dd_Md_blocks_14 : decode prog_8_method_22_code 14 = .ok (.aload_n 0, 1) := by decide +kernel
theorem dd_Md_blocks_15 : decode prog_8_method_22_code 15 = .ok (.getfield 32, 3) := by decide +kernel
theorem dd_Md_blocks_18 : decode prog_8_method_22_code 18 = .ok (.invokevirtual 106, 3) := by decide +kernel
theorem dd_Md_blocks_21 : decode prog_8_method_22_code 21 = .ok (.goto 4, 3) := by decide +kernel
theorem dd_Md_blocks_24 : decode prog_8_method_22_code 24 = .ok (.iconst (-1), 1) := by decide +kernel
theorem dd_Md_blocks_25 : decode prog_8_method_22_code 25 = .ok (.ireturn, 1) := by decide +kernel
theorem dd_Md_layCuts_0 : decode prog_8_method_20_code 0 = .ok (.iconst 0, 1) := by decide +kernel
theorem dd_Md_layCuts_1 : decode prog_8_method_20_code 1 = .ok (.istore_n 3, 1) := by decide +kernel
theorem dd_Md_layCuts_2 : decode prog_8_method_20_code 2 = .ok (.iconst 0, 1) := by decide +kernel
theorem dd_Md_layCuts_3 : decode prog_8_method_20_code 3 = .ok (.istore 4, 2) := by decide +kernel
theorem dd_Md_layCuts_5 : decode prog_8_method_20_code 5 = .ok (.iload 4, 2) := by decide +kernel
theorem dd_Md_layCuts_7 : decode prog_8_method_20_code 7 = .ok (.aload_n 0, 1) := by decide +kernel
theorem dd_Md_layCuts_8 : decode prog_8_method_20_code 8 = .ok (.getfield 13, 3) := by decide +kernel
theorem dd_Md_layCuts_11 : decode prog_8_method_20_code 11 = .ok (.iload_n 1, 1) := by decide +kernel
theorem dd_Md_layCuts_12 : decode prog_8_method_20_code 12 = .ok (.iaload, 1) := by decide +kernel
theorem dd_Md_layCuts_13 : decode prog_8_method_20_code 13 = .ok (.if_icmp .ge 26, 3) := by decide +kernel
theorem dd_Md_layCuts_16 : decode prog_8_method_20_code 16 = .ok (.aload_n 2, 1) := by decide +kernel
theorem dd_Md_layCuts_17 : decode prog_8_method_20_code 17 = .ok (.iload_n 3, 1) := by decide +kernel
theorem dd_Md_layCuts_18 : decode prog_8_method_20_code 18 = .ok (.iload 4, 2) := by decide +kernel
theorem dd_Md_layCuts_20 : decode prog_8_method_20_code 20 = .ok (.iastore, 1) := by decide +kernel
theorem dd_Md_layCuts_21 : decode prog_8_method_20_code 21 = .ok (.iinc 3 1, 3) := by decide +kernel
theorem dd_Md_layCuts_24 : decode prog_8_method_20_code 24 = .ok (.iload 4, 2) := by decide +kernel
theorem dd_Md_layCuts_26 : decode prog_8_method_20_code 26 = .ok (.aload_n 0, 1) := by decide +kernel
theorem dd_Md_layCuts_27 : decode prog_8_method_20_code 27 = .ok (.iload_n 1, 1) := by decide +kernel
theorem dd_Md_layCuts_28 : decode prog_8_method_20_code 28 = .ok (.iload 4, 2) := by decide +kernel
theorem dd_Md_layCuts_30 : decode prog_8_method_20_code 30 = .ok (.invokevirtual 103, 3) := by decide +kernel
theorem dd_Md_layCuts_33 : decode prog_8_method_20_code 33 = .ok (.iadd, 1) := by decide +kernel
theorem dd_Md_layCuts_34 : decode prog_8_method_20_code 34 = .ok (.istore 4, 2) := by decide +kernel
theorem dd_Md_layCuts_36 : decode prog_8_method_20_code 36 = .ok (.goto (-31), 3) := by decide +kernel
theorem dd_Md_layCuts_39 : decode prog_8_method_20_code 39 = .ok (.aload_n 2, 1) := by decide +kernel
theorem dd_Md_layCuts_40 : decode prog_8_method_20_code 40 = .ok (.iload_n 3, 1) := by decide +kernel
theorem dd_Md_layCuts_41 : decode prog_8_method_20_code 41 = .ok (.aload_n 0, 1) := by decide +kernel
theorem dd_Md_layCuts_42 : decode prog_8_method_20_code 42 = .ok (.getfield 13, 3) := by decide +kernel
theorem dd_Md_layCuts_45 : decode prog_8_method_20_code 45 = .ok (.iload_n 1, 1) := by decide +kernel
theorem dd_Md_layCuts_46 : decode prog_8_method_20_code 46 = .ok (.iaload, 1) := by decide +kernel
theorem dd_Md_layCuts_47 : decode prog_8_method_20_code 47 = .ok (.iastore, 1) := by decide +kernel
theorem dd_Md_layCuts_48 : decode prog_8_method_20_code 48 = .ok (.iload_n 3, 1) := by decide +kernel
theorem dd_Md_layCuts_49 : decode prog_8_method_20_code 49 = .ok (.ireturn, 1) := by decide +kernel
theorem dd_Md_longFrom_0 : decode prog_8_method_19_code 0 = .ok (.iconst 0, 1) := by decide +kernel
theorem dd_Md_longFrom_1 : decode prog_8_method_19_code 1 = .ok (.istore_n 3, 1) := by decide +kernel
theorem dd_Md_longFrom_2 : decode prog_8_method_19_code 2 = .ok (.iconst 0, 1) := by decide +kernel
theorem dd_Md_longFrom_3 : decode prog_8_method_19_code 3 = .ok (.istore 4, 2) := by decide +kernel
theorem dd_Md_longFrom_5 : decode prog_8_method_19_code 5 = .ok (.iconst 1, 1) := by decide +kernel
theorem dd_Md_longFrom_6 : decode prog_8_method_19_code 6 = .ok (.istore 5, 2) := by decide +kernel
theorem dd_Md_longFrom_8 : decode prog_8_method_19_code 8 = .ok (.iload_n 2, 1) := by decide +kernel
theorem dd_Md_longFrom_9 : decode prog_8_method_19_code 9 = .ok (.iload 5, 2) := by decide +kernel
theorem dd_Md_longFrom_11 : decode prog_8_method_19_code 11 = .ok (.iadd, 1) := by decide +kernel
theorem dd_Md_longFrom_12 : decode prog_8_method_19_code 12 = .ok (.aload_n 0, 1) := by decide +kernel
theorem dd_Md_longFrom_13 : decode prog_8_method_19_code 13 = .ok (.getfield 13, 3) := by decide +kernel
theorem dd_Md_longFrom_16 : decode prog_8_method_19_code 16 = .ok (.iload_n 1, 1) := by decide +kernel
theorem dd_Md_longFrom_17 : decode prog_8_method_19_code 17 = .ok (.iaload, 1) := by decide +kernel
theorem dd_Md_longFrom_18 : decode prog_8_method_19_code 18 = .ok (.if_icmp .gt 182, 3) := by decide +kernel
theorem dd_Md_longFrom_21 : decode prog_8_method_19_code 21 = .ok (.aload_n 0, 1) := by decide +kernel
theorem dd_Md_longFrom_22 : decode prog_8_method_19_code 22 = .ok (.iload_n 3, 1) := by decide +kernel
theorem dd_Md_longFrom_23 : decode prog_8_method_19_code 23 = .ok (.iload_n 1, 1) := by decide +kernel
theorem dd_Md_longFrom_24 : decode prog_8_method_19_code 24 = .ok (.iload_n 2, 1) := by decide +kernel
theorem dd_Md_longFrom_25 : decode prog_8_method_19_code 25 = .ok (.iload 5, 2) := by decide +kernel
theorem dd_Md_longFrom_27 : decode prog_8_method_19_code 27 = .ok (.invokevirtual 95, 3) := by decide +kernel
theorem dd_Md_longFrom_30 : decode prog_8_method_19_code 30 = .ok (.istore_n 3, 1) := by decide +kernel
theorem dd_Md_longFrom_31 : decode prog_8_method_19_code 31 = .ok (.iload 5, 2) := by decide +kernel
theorem dd_Md_longFrom_33 : decode prog_8_method_19_code 33 = .ok (.aload_n 0, 1) := by decide +kernel
theorem dd_Md_longFrom_34 : decode prog_8_method_19_code 34 = .ok (.getfield 19, 3) := by decide +kernel
theorem dd_Md_longFrom_37 : decode prog_8_method_19_code 37 = .ok (.if_icmp .lt 157, 3) := by decide +kernel
theorem dd_Md_longFrom_40 : decode prog_8_method_19_code 40 = .ok (.iload 5, 2) := by decide +kernel
theorem dd_Md_longFrom_42 : decode prog_8_method_19_code 42 = .ok (.aload_n 0, 1) := by decide +kernel
theorem dd_Md_longFrom_43 : decode prog_8_method_19_code 43 = .ok (.getfield 29, 3) := by decide +kernel
theorem dd_Md_longFrom_46 : decode prog_8_method_19_code 46 = .ok (.irem, 1) := by decide +kernel
theorem dd_Md_longFrom_47 : decode prog_8_method_19_code 47 = .ok (.ifCond .eq 6, 3) := by decide +kernel
theorem dd_Md_longFrom_50 : decode prog_8_method_19_code 50 = .ok (.goto 144, 3) := by decide +kernel
theorem dd_Md_longFrom_53 : decode prog_8_method_19_code 53 = .ok (.iload 5, 2) := by decide +kernel
theorem dd_Md_longFrom_55 : decode prog_8_method_19_code 55 = .ok (.aload_n 0, 1) := by decide +kernel
theorem dd_Md_longFrom_56 : decode prog_8_method_19_code 56 = .ok (.getfield 29, 3) := by decide +kernel
theorem dd_Md_longFrom_59 : decode prog_8_method_19_code 59 = .ok (.iadd, 1) := by decide +kernel
theorem dd_Md_longFrom_60 : decode prog_8_method_19_code 60 = .ok (.aload_n 0, 1) := by decide +kernel
theorem dd_Md_longFrom_61 : decode prog_8_method_19_code 61 = .ok (.getfield 23, 3) := by decide +kernel
theorem dd_Md_longFrom_64 : decode prog_8_method_19_code 64 = .ok (.if_icmp .le 7, 3) := by decide +kernel
theorem dd_Md_longFrom_67 : decode prog_8_method_19_code 67 = .ok (.iconst 1, 1) := by decide +kernel
theorem dd_Md_longFrom_68 : decode prog_8_method_19_code 68 = .ok (.goto 4, 3) := by decide +kernel
theorem dd_Md_longFrom_71 : decode prog_8_method_19_code 71 = .ok (.iconst 0, 1) := by decide +kernel
theorem dd_Md_longFrom_72 : decode prog_8_method_19_code 72 = .ok (.istore 6, 2) := by decide +kernel
theorem dd_Md_longFrom_74 : decode prog_8_method_19_code 74 = .ok (.aload_n 0, 1) := by decide +kernel
theorem dd_Md_longFrom_75 : decode prog_8_method_19_code 75 = .ok (.getfield 76, 3) := by decide +kernel
theorem dd_Md_longFrom_78 : decode prog_8_method_19_code 78 = .ok (.iconst 1, 1) := by decide +kernel
theorem dd_Md_longFrom_79 : decode prog_8_method_19_code 79 = .ok (.if_icmp .eq 10, 3) := by decide +kernel
theorem dd_Md_longFrom_82 : decode prog_8_method_19_code 82 = .ok (.aload_n 0, 1) := by decide +kernel
theorem dd_Md_longFrom_83 : decode prog_8_method_19_code 83 = .ok (.getfield 26, 3) := by decide +kernel
theorem dd_Md_longFrom_86 : decode prog_8_method_19_code 86 = .ok (.goto 35, 3) := by decide +kernel
theorem dd_Md_longFrom_89 : decode prog_8_method_19_code 89 = .ok (.iload 5, 2) := by decide +kernel
theorem dd_Md_longFrom_91 : decode prog_8_method_19_code 91 = .ok (.iconst 1, 1) := by decide +kernel
theorem dd_Md_longFrom_92 : decode prog_8_method_19_code 92 = .ok (.aload_n 0, 1) := by decide +kernel
theorem dd_Md_longFrom_93 : decode prog_8_method_19_code 93 = .ok (.getfield 26, 3) := by decide +kernel
theorem dd_Md_longFrom_96 : decode prog_8_method_19_code 96 = .ok (.ishl, 1) := by decide +kernel
theorem dd_Md_longFrom_97 : decode prog_8_method_19_code 97 = .ok (.if_icmp .ge 15, 3) := by decide +kernel
theorem dd_Md_longFrom_100 : decode prog_8_method_19_code 100 = .ok (.aload_n 0, 1) := by decide +kernel
theorem dd_Md_longFrom_101 : decode prog_8_method_19_code 101 = .ok (.getfield 26, 3) := by decide +kernel
theorem dd_Md_longFrom_104 : decode prog_8_method_19_code 104 = .ok (.aload_n 0, 1) := by decide +kernel
theorem dd_Md_longFrom_105 : decode prog_8_method_19_code 105 = .ok (.getfield 79, 3) := by decide +kernel
theorem dd_Md_longFrom_108 : decode prog_8_method_19_code 108 = .ok (.iadd, 1) := by decide +kernel
theorem dd_Md_longFrom_109 : decode prog_8_method_19_code 109 = .ok (.goto 12, 3) := by decide +kernel
theorem dd_Md_longFrom_112 : decode prog_8_method_19_code 112 = .ok (.aload_n 0, 1) := by decide +kernel
theorem dd_Md_longFrom_113 : decode prog_8_method_19_code 113 = .ok (.getfield 26, 3) := by decide +kernel
theorem dd_Md_longFrom_116 : decode prog_8_method_19_code 116 = .ok (.aload_n 0, 1) := by decide +kernel
theorem dd_Md_longFrom_117 : decode prog_8_method_19_code 117 = .ok (.getfield 79, 3) := by decide +kernel
theorem dd_Md_longFrom_120 : decode prog_8_method_19_code 120 = .ok (.isub, 1) := by decide +kernel
theorem dd_Md_longFrom_121 : decode prog_8_method_19_code 121 = .ok (.istore 7, 2) := by decide +kernel
theorem dd_Md_longFrom_123 : decode prog_8_method_19_code 123 = .ok (.iload_n 3, 1) := by decide +kernel
theorem dd_Md_longFrom_124 : decode prog_8_method_19_code 124 = .ok (.iload 7, 2) := by decide +kernel
theorem dd_Md_longFrom_126 : decode prog_8_method_19_code 126 = .ok (.invokestatic 99, 3) := by decide +kernel
theorem dd_Md_longFrom_129 : decode prog_8_method_19_code 129 = .ok (.ifCond .eq 6, 3) := by decide +kernel
theorem dd_Md_longFrom_132 : decode prog_8_method_19_code 132 = .ok (.iload 5, 2) := by decide +kernel
theorem dd_Md_longFrom_134 : decode prog_8_method_19_code 134 = .ok (.ireturn, 1) := by decide +kernel
theorem dd_Md_longFrom_135 : decode prog_8_method_19_code 135 = .ok (.iload 6, 2) := by decide +kernel
theorem dd_Md_longFrom_137 : decode prog_8_method_19_code 137 = .ok (.ifCond .eq 24, 3) := by decide +kernel
theorem dd_Md_longFrom_140 : decode prog_8_method_19_code 140 = .ok (.aload_n 0, 1) := by decide +kernel
theorem dd_Md_longFrom_141 : decode prog_8_method_19_code 141 = .ok (.getfield 76, 3) := by decide +kernel
theorem dd_Md_longFrom_144 : decode prog_8_method_19_code 144 = .ok (.iconst 2, 1) := by decide +kernel
theorem dd_Md_longFrom_145 : decode prog_8_method_19_code 145 = .ok (.if_icmp .ne 13, 3) := by decide +kernel
theorem dd_Md_longFrom_148 : decode prog_8_method_19_code 148 = .ok (.iload 4, 2) := by decide +kernel
theorem dd_Md_longFrom_150 : decode prog_8_method_19_code 150 = .ok (.ifCond .le 8, 3) := by decide +kernel
theorem dd_Md_longFrom_153 : decode prog_8_method_19_code 153 = .ok (.iload 4, 2) := by decide +kernel
theorem dd_Md_longFrom_155 : decode prog_8_method_19_code 155 = .ok (.goto 5, 3) := by decide +kernel
theorem dd_Md_longFrom_158 : decode prog_8_method_19_code 158 = .ok (.iload 5, 2) := by decide +kernel
theorem dd_Md_longFrom_160 : decode prog_8_method_19_code 160 = .ok (.ireturn, 1) := by decide +kernel
theorem dd_Md_longFrom_161 : decode prog_8_method_19_code 161 = .ok (.aload_n 0, 1) := by decide +kernel
theorem dd_Md_longFrom_162 : decode prog_8_method_19_code 162 = .ok (.getfield 76, 3) := by decide +kernel
theorem dd_Md_longFrom_165 : decode prog_8_method_19_code 165 = .ok (.iconst 2, 1) := by decide +kernel
theorem dd_Md_longFrom_166 : decode prog_8_method_19_code 166 = .ok (.if_icmp .ne 24, 3) := by decide +kernel
theorem dd_Md_longFrom_169 : decode prog_8_method_19_code 169 = .ok (.iload_n 3, 1) := by decide +kernel
theorem dd_Md_longFrom_170 : decode prog_8_method_19_code 170 = .ok (.aload_n 0, 1) := by decide +kernel
theorem dd_Md_longFrom_171 : decode prog_8_method_19_code 171 = .ok (.getfield 26, 3) := by decide +kernel
theorem dd_Md_longFrom_174 : decode prog_8_method_19_code 174 = .ok (.aload_n 0, 1) := by decide +kernel
theorem dd_Md_longFrom_175 : decode prog_8_method_19_code 175 = .ok (.getfield 79, 3) := by decide +kernel
theorem dd_Md_longFrom_178 : decode prog_8_method_19_code 178 = .ok (.isub, 1) := by decide +kernel
theorem dd_Md_longFrom_179 : decode prog_8_method_19_code 179 = .ok (.invokestatic 99, 3) := by decide +kernel
theorem dd_Md_longFrom_182 : decode prog_8_method_19_code 182 = .ok (.ifCond .eq 8, 3) := by decide +kernel
theorem dd_Md_longFrom_185 : decode prog_8_method_19_code 185 = .ok (.iload 5, 2) := by decide +kernel
theorem dd_Md_longFrom_187 : decode prog_8_method_19_code 187 = .ok (.goto 5, 3) := by decide +kernel
theorem dd_Md_longFrom_190 : decode prog_8_method_19_code 190 = .ok (.iload 4, 2) := by decide +kernel
theorem dd_Md_longFrom_192 : decode prog_8_method_19_code 192 = .ok (.istore 4, 2) := by decide +kernel
theorem dd_Md_longFrom_194 : decode prog_8_method_19_code 194 = .ok (.iinc 5 1, 3) := by decide +kernel
theorem dd_Md_longFrom_197 : decode prog_8_method_19_code 197 = .ok (.goto (-189), 3) := by decide +kernel
theorem dd_Md_longFrom_200 : decode prog_8_method_19_code 200 = .ok (.aload_n 0, 1) := by decide +kernel
theorem dd_Md_longFrom_201 : decode prog_8_method_19_code 201 = .ok (.getfield 13, 3) := by decide +kernel
theorem dd_Md_longFrom_204 : decode prog_8_method_19_code 204 = .ok (.iload_n 1, 1) := by decide +kernel
theorem dd_Md_longFrom_205 : decode prog_8_method_19_code 205 = .ok (.iaload, 1) := by decide +kernel
theorem dd_Md_longFrom_206 : decode prog_8_method_19_code 206 = .ok (.iload_n 2, 1) := by decide +kernel
theorem dd_Md_longFrom_207 : decode prog_8_method_19_code 207 = .ok (.isub, 1) := by decide +kernel
theorem dd_Md_longFrom_208 : decode prog_8_method_19_code 208 = .ok (.ireturn, 1) := by decide +kernel
theorem dd_Md_next_0 : decode prog_8_method_17_code 0 = .ok (.aload_n 0, 1) := by decide +kernel
theorem dd_Md_next_1 : decode prog_8_method_17_code 1 = .ok (.getfield 16, 3) := by decide +kernel
theorem dd_Md_next_4 : decode prog_8_method_17_code 4 = .ok (.aload_n 0, 1) := by decide +kernel
theorem dd_Md_next_5 : decode prog_8_method_17_code 5 = .ok (.getfield 7, 3) := by decide +kernel
theorem dd_Md_next_8 : decode prog_8_method_17_code 8 = .ok (.sipush 1500, 3) := by decide +kernel
theorem dd_Md_next_11 : decode prog_8_method_17_code 11 = .ok (.iload_n 2, 1) := by decide +kernel
theorem dd_Md_next_12 : decode prog_8_method_17_code 12 = .ok (.imul, 1) := by decide +kernel
theorem dd_Md_next_13 : decode prog_8_method_17_code 13 = .ok (.iload_n 3, 1) := by decide +kernel
theorem dd_Md_next_14 : decode prog_8_method_17_code 14 = .ok (.iadd, 1) := by decide +kernel
theorem dd_Md_next_15 : decode prog_8_method_17_code 15 = .ok (.iload 4, 2) := by decide +kernel
theorem dd_Md_next_17 : decode prog_8_method_17_code 17 = .ok (.iadd, 1) := by decide +kernel
theorem dd_Md_next_18 : decode prog_8_method_17_code 18 = .ok (.iconst 1, 1) := by decide +kernel
theorem dd_Md_next_19 : decode prog_8_method_17_code 19 = .ok (.isub, 1) := by decide +kernel
theorem dd_Md_next_20 : decode prog_8_method_17_code 20 = .ok (.iaload, 1) := by decide +kernel
theorem dd_Md_next_21 : decode prog_8_method_17_code 21 = .ok (.iaload, 1) := by decide +kernel
theorem dd_Md_next_22 : decode prog_8_method_17_code 22 = .ok (.istore 5, 2) := by decide +kernel
theorem dd_Md_next_24 : decode prog_8_method_17_code 24 = .ok (.aload_n 0, 1) := by decide +kernel
theorem dd_Md_next_25 : decode prog_8_method_17_code 25 = .ok (.getfield 76, 3) := by decide +kernel
theorem dd_Md_next_28 : decode prog_8_method_17_code 28 = .ok (.iconst 3, 1) := by decide +kernel
theorem dd_Md_next_29 : decode prog_8_method_17_code 29 = .ok (.if_icmp .eq 10, 3) := by decide +kernel
theorem dd_Md_next_32 : decode prog_8_method_17_code 32 = .ok (.iload_n 1, 1) := by decide +kernel
theorem dd_Md_next_33 : decode prog_8_method_17_code 33 = .ok (.iconst 1, 1) := by decide +kernel
theorem dd_Md_next_34 : decode prog_8_method_17_code 34 = .ok (.ishl, 1) := by decide +kernel
theorem dd_Md_next_35 : decode prog_8_method_17_code 35 = .ok (.iload 5, 2) := by decide +kernel
theorem dd_Md_next_37 : decode prog_8_method_17_code 37 = .ok (.iadd, 1) := by decide +kernel
theorem dd_Md_next_38 : decode prog_8_method_17_code 38 = .ok (.ireturn, 1) := by decide +kernel
theorem dd_Md_next_39 : decode prog_8_method_17_code 39 = .ok (.iload_n 1, 1) := by decide +kernel
theorem dd_Md_next_40 : decode prog_8_method_17_code 40 = .ok (.iconst 1, 1) := by decide +kernel
theorem dd_Md_next_41 : decode prog_8_method_17_code 41 = .ok (.invokestatic 91, 3) := by decide +kernel
theorem dd_Md_next_44 : decode prog_8_method_17_code 44 = .ok (.iload 5, 2) := by decide +kernel
theorem dd_Md_next_46 : decode prog_8_method_17_code 46 = .ok (.ixor, 1) := by decide +kernel
theorem dd_Md_next_47 : decode prog_8_method_17_code 47 = .ok (.istore 6, 2) := by decide +kernel
theorem dd_Md_next_49 : decode prog_8_method_17_code 49 = .ok (.iload 4, 2) := by decide +kernel
theorem dd_Md_next_51 : decode prog_8_method_17_code 51 = .ok (.bipush 16, 2) := by decide +kernel
theorem dd_Md_next_53 : decode prog_8_method_17_code 53 = .ok (.if_icmp .le 37, 3) := by decide +kernel
theorem dd_Md_next_56 : decode prog_8_method_17_code 56 = .ok (.iload 6, 2) := by decide +kernel
theorem dd_Md_next_58 : decode prog_8_method_17_code 58 = .ok (.aload_n 0, 1) := by decide +kernel
theorem dd_Md_next_59 : decode prog_8_method_17_code 59 = .ok (.getfield 16, 3) := by decide +kernel
theorem dd_Md_next_62 : decode prog_8_method_17_code 62 = .ok (.aload_n 0, 1) := by decide +kernel
theorem dd_Md_next_63 : decode prog_8_method_17_code 63 = .ok (.getfield 7, 3) := by decide +kernel
theorem dd_Md_next_66 : decode prog_8_method_17_code 66 = .ok (.sipush 1500, 3) := by decide +kernel
theorem dd_Md_next_69 : decode prog_8_method_17_code 69 = .ok (.iload_n 2, 1) := by decide +kernel
theorem dd_Md_next_70 : decode prog_8_method_17_code 70 = .ok (.imul, 1) := by decide +kernel
theorem dd_Md_next_71 : decode prog_8_method_17_code 71 = .ok (.iload_n 3, 1) := by decide +kernel
theorem dd_Md_next_72 : decode prog_8_method_17_code 72 = .ok (.iadd, 1) := by decide +kernel
theorem dd_Md_next_73 : decode prog_8_method_17_code 73 = .ok (.iload 4, 2) := by decide +kernel
theorem dd_Md_next_75 : decode prog_8_method_17_code 75 = .ok (.iadd, 1) := by decide +kernel
theorem dd_Md_next_76 : decode prog_8_method_17_code 76 = .ok (.bipush 17, 2) := by decide +kernel
theorem dd_Md_next_78 : decode prog_8_method_17_code 78 = .ok (.isub, 1) := by decide +kernel
theorem dd_Md_next_79 : decode prog_8_method_17_code 79 = .ok (.iaload, 1) := by decide +kernel
theorem dd_Md_next_80 : decode prog_8_method_17_code 80 = .ok (.iaload, 1) := by decide +kernel
theorem dd_Md_next_81 : decode prog_8_method_17_code 81 = .ok (.bipush 16, 2) := by decide +kernel
theorem dd_Md_next_83 : decode prog_8_method_17_code 83 = .ok (.invokestatic 91, 3) := by decide +kernel
theorem dd_Md_next_86 : decode prog_8_method_17_code 86 = .ok (.ixor, 1) := by decide +kernel
theorem dd_Md_next_87 : decode prog_8_method_17_code 87 = .ok (.goto 5, 3) := by decide +kernel
theorem dd_Md_next_90 : decode prog_8_method_17_code 90 = .ok (.iload 6, 2) := by decide +kernel
theorem dd_Md_next_92 : decode prog_8_method_17_code 92 = .ok (.ireturn, 1) := by decide +kernel
theorem dd_Md_turn_0 : decode prog_8_method_16_code 0 = .ok (.iload_n 0, 1) := by decide +kernel
theorem dd_Md_turn_1 : decode prog_8_method_16_code 1 = .ok (.iload_n 1, 1) := by decide +kernel
theorem dd_Md_turn_2 : decode prog_8_method_16_code 2 = .ok (.ishl, 1) := by decide +kernel
theorem dd_Md_turn_3 : decode prog_8_method_16_code 3 = .ok (.iload_n 0, 1) := by decide +kernel
theorem dd_Md_turn_4 : decode prog_8_method_16_code 4 = .ok (.bipush 32, 2) := by decide +kernel
theorem dd_Md_turn_6 : decode prog_8_method_16_code 6 = .ok (.iload_n 1, 1) := by decide +kernel
theorem dd_Md_turn_7 : decode prog_8_method_16_code 7 = .ok (.isub, 1) := by decide +kernel
theorem dd_Md_turn_8 : decode prog_8_method_16_code 8 = .ok (.iushr, 1) := by decide +kernel
theorem dd_Md_turn_9 : decode prog_8_method_16_code 9 = .ok (.ior, 1) := by decide +kernel
theorem dd_Md_turn_10 : decode prog_8_method_16_code 10 = .ok (.ireturn, 1) := by decide +kernel
theorem dd_Md_isMarked_0 : decode prog_8_method_18_code 0 = .ok (.iconst 1, 1) := by decide +kernel
theorem dd_Md_isMarked_1 : decode prog_8_method_18_code 1 = .ok (.istore_n 2, 1) := by decide +kernel
theorem dd_Md_isMarked_2 : decode prog_8_method_18_code 2 = .ok (.iconst 0, 1) := by decide +kernel
theorem dd_Md_isMarked_3 : decode prog_8_method_18_code 3 = .ok (.istore_n 3, 1) := by decide +kernel
theorem dd_Md_isMarked_4 : decode prog_8_method_18_code 4 = .ok (.iload_n 3, 1) := by decide +kernel
theorem dd_Md_isMarked_5 : decode prog_8_method_18_code 5 = .ok (.iload_n 1, 1) := by decide +kernel
theorem dd_Md_isMarked_6 : decode prog_8_method_18_code 6 = .ok (.if_icmp .ge 30, 3) := by decide +kernel
theorem dd_Md_isMarked_9 : decode prog_8_method_18_code 9 = .ok (.iload_n 2, 1) := by decide +kernel
theorem dd_Md_isMarked_10 : decode prog_8_method_18_code 10 = .ok (.ifCond .eq 18, 3) := by decide +kernel
theorem dd_Md_isMarked_13 : decode prog_8_method_18_code 13 = .ok (.iload_n 0, 1) := by decide +kernel
theorem dd_Md_isMarked_14 : decode prog_8_method_18_code 14 = .ok (.bipush 31, 2) := by decide +kernel
theorem dd_Md_isMarked_16 : decode prog_8_method_18_code 16 = .ok (.iload_n 3, 1) := by decide +kernel
theorem dd_Md_isMarked_17 : decode prog_8_method_18_code 17 = .ok (.isub, 1) := by decide +kernel
theorem dd_Md_isMarked_18 : decode prog_8_method_18_code 18 = .ok (.iushr, 1) := by decide +kernel
theorem dd_Md_isMarked_19 : decode prog_8_method_18_code 19 = .ok (.iconst 1, 1) := by decide +kernel
theorem dd_Md_isMarked_20 : decode prog_8_method_18_code 20 = .ok (.iand, 1) := by decide +kernel
theorem dd_Md_isMarked_21 : decode prog_8_method_18_code 21 = .ok (.ifCond .ne 7, 3) := by decide +kernel
theorem dd_Md_isMarked_24 : decode prog_8_method_18_code 24 = .ok (.iconst 1, 1) := by decide +kernel
theorem dd_Md_isMarked_25 : decode prog_8_method_18_code 25 = .ok (.goto 4, 3) := by decide +kernel
theorem dd_Md_isMarked_28 : decode prog_8_method_18_code 28 = .ok (.iconst 0, 1) := by decide +kernel
theorem dd_Md_isMarked_29 : decode prog_8_method_18_code 29 = .ok (.istore_n 2, 1) := by decide +kernel
theorem dd_Md_isMarked_30 : decode prog_8_method_18_code 30 = .ok (.iinc 3 1, 3) := by decide +kernel
theorem dd_Md_isMarked_33 : decode prog_8_method_18_code 33 = .ok (.goto (-29), 3) := by decide +kernel
theorem dd_Md_isMarked_36 : decode prog_8_method_18_code 36 = .ok (.iload_n 2, 1) := by decide +kernel
theorem dd_Md_isMarked_37 : decode prog_8_method_18_code 37 = .ok (.ireturn, 1) := by decide +kernel
theorem dd_Md_block_0 : decode prog_8_method_23_code 0 = .ok (.aload_n 0, 1) := by decide +kernel
theorem dd_Md_block_1 : decode prog_8_method_23_code 1 = .ok (.iconst 0, 1) := by decide +kernel
theorem dd_Md_block_2 : decode prog_8_method_23_code 2 = .ok (.putfield 67, 3) := by decide +kernel
theorem dd_Md_block_5 : decode prog_8_method_23_code 5 = .ok (.aload_n 0, 1) := by decide +kernel
theorem dd_Md_block_6 : decode prog_8_method_23_code 6 = .ok (.iload_n 1, 1) := by decide +kernel
theorem dd_Md_block_7 : decode prog_8_method_23_code 7 = .ok (.iload_n 2, 1) := by decide +kernel
theorem dd_Md_block_8 : decode prog_8_method_23_code 8 = .ok (.invokevirtual 113, 3) := by decide +kernel
theorem dd_Md_block_11 : decode prog_8_method_23_code 11 = .ok (.ifCond .eq 12, 3) := by decide +kernel
theorem dd_Md_block_14 : decode prog_8_method_23_code 14 = .ok (.iload_n 3, 1) := by decide +kernel
theorem dd_Md_block_15 : decode prog_8_method_23_code 15 = .ok (.iconst 0, 1) := by decide +kernel
theorem dd_Md_block_16 : decode prog_8_method_23_code 16 = .ok (.iconst 1, 1) := by decide +kernel
theorem dd_Md_block_17 : decode prog_8_method_23_code 17 = .ok (.invokestatic 72, 3) := by decide +kernel
theorem dd_Md_block_20 : decode prog_8_method_23_code 20 = .ok (.ifCond .ne 5, 3) := by decide +kernel
theorem dd_Md_block_23 : decode prog_8_method_23_code 23 = .ok (.iconst (-1), 1) := by decide +kernel
theorem dd_Md_block_24 : decode prog_8_method_23_code 24 = .ok (.ireturn, 1) := by decide +kernel
theorem dd_Md_block_25 : decode prog_8_method_23_code 25 = .ok (.iload_n 3, 1) := by decide +kernel
theorem dd_Md_block_26 : decode prog_8_method_23_code 26 = .ok (.ifCond .ne 12, 3) := by decide +kernel
theorem dd_Md_block_29 : decode prog_8_method_23_code 29 = .ok (.aload_n 0, 1) := by decide +kernel
theorem dd_Md_block_30 : decode prog_8_method_23_code 30 = .ok (.getfield 32, 3) := by decide +kernel
theorem dd_Md_block_33 : decode prog_8_method_23_code 33 = .ok (.iload_n 2, 1) := by decide +kernel
theorem dd_Md_block_34 : decode prog_8_method_23_code 34 = .ok (.iaload, 1) := by decide +kernel
theorem dd_Md_block_35 : decode prog_8_method_23_code 35 = .ok (.goto 18, 3) := by decide +kernel
theorem dd_Md_block_38 : decode prog_8_method_23_code 38 = .ok (.aload_n 0, 1) := by decide +kernel
theorem dd_Md_block_39 : decode prog_8_method_23_code 39 = .ok (.getfield 32, 3) := by decide +kernel
theorem dd_Md_block_42 : decode prog_8_method_23_code 42 = .ok (.iload_n 2, 1) := by decide +kernel
theorem dd_Md_block_43 : decode prog_8_method_23_code 43 = .ok (.iconst 1, 1) := by decide +kernel
theorem dd_Md_block_44 : decode prog_8_method_23_code 44 = .ok (.iadd, 1) := by decide +kernel
theorem dd_Md_block_45 : decode prog_8_method_23_code 45 = .ok (.iaload, 1) := by decide +kernel
theorem dd_Md_block_46 : decode prog_8_method_23_code 46 = .ok (.aload_n 0, 1) := by decide +kernel
theorem dd_Md_block_47 : decode prog_8_method_23_code 47 = .ok (.getfield 32, 3) := by decide +kernel
theorem dd_Md_block_50 : decode prog_8_method_23_code 50 = .ok (.iload_n 2, 1) := by decide +kernel
theorem dd_Md_block_51 : decode prog_8_method_23_code 51 = .ok (.iaload, 1) := by decide +kernel
theorem dd_Md_block_52 : decode prog_8_method_23_code 52 = .ok (.isub, 1) := by decide +kernel
theorem dd_Md_block_53 : decode prog_8_method_23_code 53 = .ok (.ireturn, 1) := by decide +kernel
theorem dd_Md_isBlock_0 : decode prog_8_method_21_code 0 = .ok (.iload_n 1, 1) := by decide +kernel
theorem dd_Md_isBlock_1 : decode prog_8_method_21_code 1 = .ok (.invokestatic 82, 3) := by decide +kernel
theorem dd_Md_isBlock_4 : decode prog_8_method_21_code 4 = .ok (.ifCond .ne 5, 3) := by decide +kernel
theorem dd_Md_isBlock_7 : decode prog_8_method_21_code 7 = .ok (.iconst 0, 1) := by decide +kernel
theorem dd_Md_isBlock_8 : decode prog_8_method_21_code 8 = .ok (.ireturn, 1) := by decide +kernel
theorem dd_Md_isBlock_9 : decode prog_8_method_21_code 9 = .ok (.aload_n 0, 1) := by decide +kernel
theorem dd_Md_isBlock_10 : decode prog_8_method_21_code 10 = .ok (.aload_n 0, 1) := by decide +kernel
theorem dd_Md_isBlock_11 : decode prog_8_method_21_code 11 = .ok (.iload_n 1, 1) := by decide +kernel
theorem dd_Md_isBlock_12 : decode prog_8_method_21_code 12 = .ok (.aload_n 0, 1) := by decide +kernel
theorem dd_Md_isBlock_13 : decode prog_8_method_21_code 13 = .ok (.getfield 32, 3) := by decide +kernel
theorem dd_Md_isBlock_16 : decode prog_8_method_21_code 16 = .ok (.invokevirtual 106, 3) := by decide +kernel
theorem dd_Md_isBlock_19 : decode prog_8_method_21_code 19 = .ok (.putfield 110, 3) := by decide +kernel
theorem dd_Md_isBlock_22 : decode prog_8_method_21_code 22 = .ok (.iload_n 2, 1) := by decide +kernel
theorem dd_Md_isBlock_23 : decode prog_8_method_21_code 23 = .ok (.iconst 0, 1) := by decide +kernel
theorem dd_Md_isBlock_24 : decode prog_8_method_21_code 24 = .ok (.aload_n 0, 1) := by decide +kernel
theorem dd_Md_isBlock_25 : decode prog_8_method_21_code 25 = .ok (.getfield 110, 3) := by decide +kernel
theorem dd_Md_isBlock_28 : decode prog_8_method_21_code 28 = .ok (.iconst 1, 1) := by decide +kernel
theorem dd_Md_isBlock_29 : decode prog_8_method_21_code 29 = .ok (.isub, 1) := by decide +kernel
theorem dd_Md_isBlock_30 : decode prog_8_method_21_code 30 = .ok (.invokestatic 72, 3) := by decide +kernel
theorem dd_Md_isBlock_33 : decode prog_8_method_21_code 33 = .ok (.ireturn, 1) := by decide +kernel
theorem dd_Md_digest_0 : decode prog_8_method_25_code 0 = .ok (.aload_n 0, 1) := by decide +kernel
theorem dd_Md_digest_1 : decode prog_8_method_25_code 1 = .ok (.iconst 0, 1) := by decide +kernel
theorem dd_Md_digest_2 : decode prog_8_method_25_code 2 = .ok (.putfield 67, 3) := by decide +kernel
theorem dd_Md_digest_5 : decode prog_8_method_25_code 5 = .ok (.aload_n 0, 1) := by decide +kernel
theorem dd_Md_digest_6 : decode prog_8_method_25_code 6 = .ok (.iload_n 1, 1) := by decide +kernel
theorem dd_Md_digest_7 : decode prog_8_method_25_code 7 = .ok (.iload_n 2, 1) := by decide +kernel
theorem dd_Md_digest_8 : decode prog_8_method_25_code 8 = .ok (.invokevirtual 113, 3) := by decide +kernel
theorem dd_Md_digest_11 : decode prog_8_method_25_code 11 = .ok (.ifCond .eq 12, 3) := by decide +kernel
theorem dd_Md_digest_14 : decode prog_8_method_25_code 14 = .ok (.iload_n 3, 1) := by decide +kernel
theorem dd_Md_digest_15 : decode prog_8_method_25_code 15 = .ok (.iconst 0, 1) := by decide +kernel
theorem dd_Md_digest_16 : decode prog_8_method_25_code 16 = .ok (.iconst 1, 1) := by decide +kernel
theorem dd_Md_digest_17 : decode prog_8_method_25_code 17 = .ok (.invokestatic 72, 3) := by decide +kernel
theorem dd_Md_digest_20 : decode prog_8_method_25_code 20 = .ok (.ifCond .ne 7, 3) := by decide +kernel
theorem dd_Md_digest_23 : decode prog_8_method_25_code 23 = .ok (.ldc2_w 123, 3) := by decide +kernel
theorem dd_Md_digest_26 : decode prog_8_method_25_code 26 = .ok (.lreturn, 1) := by decide +kernel
theorem dd_Md_digest_27 : decode prog_8_method_25_code 27 = .ok (.aload_n 0, 1) := by decide +kernel
theorem dd_Md_digest_28 : decode prog_8_method_25_code 28 = .ok (.getfield 7, 3) := by decide +kernel
theorem dd_Md_digest_31 : decode prog_8_method_25_code 31 = .ok (.sipush 1500, 3) := by decide +kernel
theorem dd_Md_digest_34 : decode prog_8_method_25_code 34 = .ok (.iload_n 1, 1) := by decide +kernel
theorem dd_Md_digest_35 : decode prog_8_method_25_code 35 = .ok (.imul, 1) := by decide +kernel
theorem dd_Md_digest_36 : decode prog_8_method_25_code 36 = .ok (.aload_n 0, 1) := by decide +kernel
theorem dd_Md_digest_37 : decode prog_8_method_25_code 37 = .ok (.getfield 32, 3) := by decide +kernel
theorem dd_Md_digest_40 : decode prog_8_method_25_code 40 = .ok (.iload_n 2, 1) := by decide +kernel
theorem dd_Md_digest_41 : decode prog_8_method_25_code 41 = .ok (.iaload, 1) := by decide +kernel
theorem dd_Md_digest_42 : decode prog_8_method_25_code 42 = .ok (.iadd, 1) := by decide +kernel
theorem dd_Md_digest_43 : decode prog_8_method_25_code 43 = .ok (.sipush 1500, 3) := by decide +kernel
theorem dd_Md_digest_46 : decode prog_8_method_25_code 46 = .ok (.iload_n 1, 1) := by decide +kernel
theorem dd_Md_digest_47 : decode prog_8_method_25_code 47 = .ok (.imul, 1) := by decide +kernel
theorem dd_Md_digest_48 : decode prog_8_method_25_code 48 = .ok (.aload_n 0, 1) := by decide +kernel
theorem dd_Md_digest_49 : decode prog_8_method_25_code 49 = .ok (.getfield 32, 3) := by decide +kernel
theorem dd_Md_digest_52 : decode prog_8_method_25_code 52 = .ok (.iload_n 2, 1) := by decide +kernel
theorem dd_Md_digest_53 : decode prog_8_method_25_code 53 = .ok (.iconst 1, 1) := by decide +kernel
theorem dd_Md_digest_54 : decode prog_8_method_25_code 54 = .ok (.iadd, 1) := by decide +kernel
theorem dd_Md_digest_55 : decode prog_8_method_25_code 55 = .ok (.iaload, 1) := by decide +kernel
theorem dd_Md_digest_56 : decode prog_8_method_25_code 56 = .ok (.iadd, 1) := by decide +kernel
theorem dd_Md_digest_57 : decode prog_8_method_25_code 57 = .ok (.iload_n 3, 1) := by decide +kernel
theorem dd_Md_digest_58 : decode prog_8_method_25_code 58 = .ok (.invokestatic 125, 3) := by decide +kernel
theorem dd_Md_digest_61 : decode prog_8_method_25_code 61 = .ok (.lreturn, 1) := by decide +kernel
theorem dd_Md_digestOf_0 : decode prog_8_method_24_code 0 = .ok (.ldc 116, 2) := by decide +kernel
theorem dd_Md_digestOf_2 : decode prog_8_method_24_code 2 = .ok (.istore 4, 2) := by decide +kernel
theorem dd_Md_digestOf_4 : decode prog_8_method_24_code 4 = .ok (.iconst 1, 1) := by decide +kernel
theorem dd_Md_digestOf_5 : decode prog_8_method_24_code 5 = .ok (.istore 5, 2) := by decide +kernel
theorem dd_Md_digestOf_7 : decode prog_8_method_24_code 7 = .ok (.iconst 0, 1) := by decide +kernel
theorem dd_Md_digestOf_8 : decode prog_8_method_24_code 8 = .ok (.istore 6, 2) := by decide +kernel
theorem dd_Md_digestOf_10 : decode prog_8_method_24_code 10 = .ok (.iload_n 1, 1) := by decide +kernel
theorem dd_Md_digestOf_11 : decode prog_8_method_24_code 11 = .ok (.istore 7, 2) := by decide +kernel
theorem dd_Md_digestOf_13 : decode prog_8_method_24_code 13 = .ok (.iload 7, 2) := by decide +kernel
theorem dd_Md_digestOf_15 : decode prog_8_method_24_code 15 = .ok (.iload_n 2, 1) := by decide +kernel
theorem dd_Md_digestOf_16 : decode prog_8_method_24_code 16 = .ok (.if_icmp .ge 43, 3) := by decide +kernel
theorem dd_Md_digestOf_19 : decode prog_8_method_24_code 19 = .ok (.iload 4, 2) := by decide +kernel
theorem dd_Md_digestOf_21 : decode prog_8_method_24_code 21 = .ok (.aload_n 0, 1) := by decide +kernel
theorem dd_Md_digestOf_22 : decode prog_8_method_24_code 22 = .ok (.iload 7, 2) := by decide +kernel
theorem dd_Md_digestOf_24 : decode prog_8_method_24_code 24 = .ok (.iaload, 1) := by decide +kernel
theorem dd_Md_digestOf_25 : decode prog_8_method_24_code 25 = .ok (.ixor, 1) := by decide +kernel
theorem dd_Md_digestOf_26 : decode prog_8_method_24_code 26 = .ok (.ldc 117, 2) := by decide +kernel
theorem dd_Md_digestOf_28 : decode prog_8_method_24_code 28 = .ok (.imul, 1) := by decide +kernel
theorem dd_Md_digestOf_29 : decode prog_8_method_24_code 29 = .ok (.istore 4, 2) := by decide +kernel
theorem dd_Md_digestOf_31 : decode prog_8_method_24_code 31 = .ok (.iload 5, 2) := by decide +kernel
theorem dd_Md_digestOf_33 : decode prog_8_method_24_code 33 = .ok (.aload_n 0, 1) := by decide +kernel
theorem dd_Md_digestOf_34 : decode prog_8_method_24_code 34 = .ok (.iload 7, 2) := by decide +kernel
theorem dd_Md_digestOf_36 : decode prog_8_method_24_code 36 = .ok (.iaload, 1) := by decide +kernel
theorem dd_Md_digestOf_37 : decode prog_8_method_24_code 37 = .ok (.iadd, 1) := by decide +kernel
theorem dd_Md_digestOf_38 : decode prog_8_method_24_code 38 = .ok (.ldc 118, 2) := by decide +kernel
theorem dd_Md_digestOf_40 : decode prog_8_method_24_code 40 = .ok (.irem, 1) := by decide +kernel
theorem dd_Md_digestOf_41 : decode prog_8_method_24_code 41 = .ok (.istore 5, 2) := by decide +kernel
theorem dd_Md_digestOf_43 : decode prog_8_method_24_code 43 = .ok (.iload 6, 2) := by decide +kernel
theorem dd_Md_digestOf_45 : decode prog_8_method_24_code 45 = .ok (.iload 5, 2) := by decide +kernel
theorem dd_Md_digestOf_47 : decode prog_8_method_24_code 47 = .ok (.iadd, 1) := by decide +kernel
theorem dd_Md_digestOf_48 : decode prog_8_method_24_code 48 = .ok (.ldc 118, 2) := by decide +kernel
theorem dd_Md_digestOf_50 : decode prog_8_method_24_code 50 = .ok (.irem, 1) := by decide +kernel
theorem dd_Md_digestOf_51 : decode prog_8_method_24_code 51 = .ok (.istore 6, 2) := by decide +kernel
theorem dd_Md_digestOf_53 : decode prog_8_method_24_code 53 = .ok (.iinc 7 1, 3) := by decide +kernel
theorem dd_Md_digestOf_56 : decode prog_8_method_24_code 56 = .ok (.goto (-43), 3) := by decide +kernel
theorem dd_Md_digestOf_59 : decode prog_8_method_24_code 59 = .ok (.iload_n 3, 1) := by decide +kernel
theorem dd_Md_digestOf_60 : decode prog_8_method_24_code 60 = .ok (.ifCond .ne 13, 3) := by decide +kernel
theorem dd_Md_digestOf_63 : decode prog_8_method_24_code 63 = .ok (.iload 4, 2) := by decide +kernel
theorem dd_Md_digestOf_65 : decode prog_8_method_24_code 65 = .ok (.i2l, 1) := by decide +kernel
theorem dd_Md_digestOf_66 : decode prog_8_method_24_code 66 = .ok (.ldc2_w 119, 3) := by decide +kernel
theorem dd_Md_digestOf_69 : decode prog_8_method_24_code 69 = .ok (.land, 1) := by decide +kernel
theorem dd_Md_digestOf_70 : decode prog_8_method_24_code 70 = .ok (.goto 14, 3) := by decide +kernel
theorem dd_Md_digestOf_73 : decode prog_8_method_24_code 73 = .ok (.ldc2_w 121, 3) := by decide +kernel
theorem dd_Md_digestOf_76 : decode prog_8_method_24_code 76 = .ok (.iload 6, 2) := by decide +kernel
theorem dd_Md_digestOf_78 : decode prog_8_method_24_code 78 = .ok (.i2l, 1) := by decide +kernel
theorem dd_Md_digestOf_79 : decode prog_8_method_24_code 79 = .ok (.lmul, 1) := by decide +kernel
theorem dd_Md_digestOf_80 : decode prog_8_method_24_code 80 = .ok (.iload 5, 2) := by decide +kernel
theorem dd_Md_digestOf_82 : decode prog_8_method_24_code 82 = .ok (.i2l, 1) := by decide +kernel
theorem dd_Md_digestOf_83 : decode prog_8_method_24_code 83 = .ok (.ladd, 1) := by decide +kernel
theorem dd_Md_digestOf_84 : decode prog_8_method_24_code 84 = .ok (.lreturn, 1) := by decide +kernel
theorem dd_Md_hash_0 : decode prog_8_method_26_code 0 = .ok (.aload_n 0, 1) := by decide +kernel
theorem dd_Md_hash_1 : decode prog_8_method_26_code 1 = .ok (.iconst 0, 1) := by decide +kernel
theorem dd_Md_hash_2 : decode prog_8_method_26_code 2 = .ok (.putfield 67, 3) := by decide +kernel
theorem dd_Md_hash_5 : decode prog_8_method_26_code 5 = .ok (.iload_n 1, 1) := by decide +kernel
theorem dd_Md_hash_6 : decode prog_8_method_26_code 6 = .ok (.invokestatic 82, 3) := by decide +kernel
theorem dd_Md_hash_9 : decode prog_8_method_26_code 9 = .ok (.ifCond .eq 19, 3) := by decide +kernel
theorem dd_Md_hash_12 : decode prog_8_method_26_code 12 = .ok (.iload_n 2, 1) := by decide +kernel
theorem dd_Md_hash_13 : decode prog_8_method_26_code 13 = .ok (.iconst 0, 1) := by decide +kernel
theorem dd_Md_hash_14 : decode prog_8_method_26_code 14 = .ok (.aload_n 0, 1) := by decide +kernel
theorem dd_Md_hash_15 : decode prog_8_method_26_code 15 = .ok (.getfield 13, 3) := by decide +kernel
theorem dd_Md_hash_18 : decode prog_8_method_26_code 18 = .ok (.iload_n 1, 1) := by decide +kernel
theorem dd_Md_hash_19 : decode prog_8_method_26_code 19 = .ok (.iaload, 1) := by decide +kernel
theorem dd_Md_hash_20 : decode prog_8_method_26_code 20 = .ok (.iconst 1, 1) := by decide +kernel
theorem dd_Md_hash_21 : decode prog_8_method_26_code 21 = .ok (.isub, 1) := by decide +kernel
theorem dd_Md_hash_22 : decode prog_8_method_26_code 22 = .ok (.invokestatic 72, 3) := by decide +kernel
theorem dd_Md_hash_25 : decode prog_8_method_26_code 25 = .ok (.ifCond .ne 7, 3) := by decide +kernel
theorem dd_Md_hash_28 : decode prog_8_method_26_code 28 = .ok (.ldc2_w 123, 3) := by decide +kernel
theorem dd_Md_hash_31 : decode prog_8_method_26_code 31 = .ok (.lreturn, 1) := by decide +kernel
theorem dd_Md_hash_32 : decode prog_8_method_26_code 32 = .ok (.aload_n 0, 1) := by decide +kernel
theorem dd_Md_hash_33 : decode prog_8_method_26_code 33 = .ok (.iload_n 1, 1) := by decide +kernel
theorem dd_Md_hash_34 : decode prog_8_method_26_code 34 = .ok (.aload_n 0, 1) := by decide +kernel
theorem dd_Md_hash_35 : decode prog_8_method_26_code 35 = .ok (.getfield 32, 3) := by decide +kernel
theorem dd_Md_hash_38 : decode prog_8_method_26_code 38 = .ok (.invokevirtual 106, 3) := by decide +kernel
theorem dd_Md_hash_41 : decode prog_8_method_26_code 41 = .ok (.istore_n 3, 1) := by decide +kernel
theorem dd_Md_hash_42 : decode prog_8_method_26_code 42 = .ok (.iconst 0, 1) := by decide +kernel
theorem dd_Md_hash_43 : decode prog_8_method_26_code 43 = .ok (.istore 4, 2) := by decide +kernel
theorem dd_Md_hash_45 : decode prog_8_method_26_code 45 = .ok (.iload 4, 2) := by decide +kernel
theorem dd_Md_hash_47 : decode prog_8_method_26_code 47 = .ok (.iload_n 3, 1) := by decide +kernel
theorem dd_Md_hash_48 : decode prog_8_method_26_code 48 = .ok (.iconst 1, 1) := by decide +kernel
theorem dd_Md_hash_49 : decode prog_8_method_26_code 49 = .ok (.isub, 1) := by decide +kernel
theorem dd_Md_hash_50 : decode prog_8_method_26_code 50 = .ok (.if_icmp .ge 22, 3) := by decide +kernel
theorem dd_Md_hash_53 : decode prog_8_method_26_code 53 = .ok (.aload_n 0, 1) := by decide +kernel
theorem dd_Md_hash_54 : decode prog_8_method_26_code 54 = .ok (.getfield 32, 3) := by decide +kernel
theorem dd_Md_hash_57 : decode prog_8_method_26_code 57 = .ok (.iload 4, 2) := by decide +kernel
theorem dd_Md_hash_59 : decode prog_8_method_26_code 59 = .ok (.iconst 1, 1) := by decide +kernel
theorem dd_Md_hash_60 : decode prog_8_method_26_code 60 = .ok (.iadd, 1) := by decide +kernel
theorem dd_Md_hash_61 : decode prog_8_method_26_code 61 = .ok (.iaload, 1) := by decide +kernel
theorem dd_Md_hash_62 : decode prog_8_method_26_code 62 = .ok (.iload_n 2, 1) := by decide +kernel
theorem dd_Md_hash_63 : decode prog_8_method_26_code 63 = .ok (.if_icmp .gt 9, 3) := by decide +kernel
theorem dd_Md_hash_66 : decode prog_8_method_26_code 66 = .ok (.iinc 4 1, 3) := by decide +kernel
theorem dd_Md_hash_69 : decode prog_8_method_26_code 69 = .ok (.goto (-24), 3) := by decide +kernel
theorem dd_Md_hash_72 : decode prog_8_method_26_code 72 = .ok (.iconst 0, 1) := by decide +kernel
theorem dd_Md_hash_73 : decode prog_8_method_26_code 73 = .ok (.istore 5, 2) := by decide +kernel
theorem dd_Md_hash_75 : decode prog_8_method_26_code 75 = .ok (.iconst 1, 1) := by decide +kernel
theorem dd_Md_hash_76 : decode prog_8_method_26_code 76 = .ok (.istore 6, 2) := by decide +kernel
theorem dd_Md_hash_78 : decode prog_8_method_26_code 78 = .ok (.aload_n 0, 1) := by decide +kernel
theorem dd_Md_hash_79 : decode prog_8_method_26_code 79 = .ok (.getfield 32, 3) := by decide +kernel
theorem dd_Md_hash_82 : decode prog_8_method_26_code 82 = .ok (.iload 4, 2) := by decide +kernel
theorem dd_Md_hash_84 : decode prog_8_method_26_code 84 = .ok (.iaload, 1) := by decide +kernel
theorem dd_Md_hash_85 : decode prog_8_method_26_code 85 = .ok (.iload 6, 2) := by decide +kernel
theorem dd_Md_hash_87 : decode prog_8_method_26_code 87 = .ok (.iadd, 1) := by decide +kernel
theorem dd_Md_hash_88 : decode prog_8_method_26_code 88 = .ok (.iconst 1, 1) := by decide +kernel
theorem dd_Md_hash_89 : decode prog_8_method_26_code 89 = .ok (.isub, 1) := by decide +kernel
theorem dd_Md_hash_90 : decode prog_8_method_26_code 90 = .ok (.iload_n 2, 1) := by decide +kernel
theorem dd_Md_hash_91 : decode prog_8_method_26_code 91 = .ok (.if_icmp .gt 27, 3) := by decide +kernel
theorem dd_Md_hash_94 : decode prog_8_method_26_code 94 = .ok (.aload_n 0, 1) := by decide +kernel
theorem dd_Md_hash_95 : decode prog_8_method_26_code 95 = .ok (.iload 5, 2) := by decide +kernel
theorem dd_Md_hash_97 : decode prog_8_method_26_code 97 = .ok (.iload_n 1, 1) := by decide +kernel
theorem dd_Md_hash_98 : decode prog_8_method_26_code 98 = .ok (.aload_n 0, 1) := by decide +kernel
theorem dd_Md_hash_99 : decode prog_8_method_26_code 99 = .ok (.getfield 32, 3) := by decide +kernel
theorem dd_Md_hash_102 : decode prog_8_method_26_code 102 = .ok (.iload 4, 2) := by decide +kernel
theorem dd_Md_hash_104 : decode prog_8_method_26_code 104 = .ok (.iaload, 1) := by decide +kernel
theorem dd_Md_hash_105 : decode prog_8_method_26_code 105 = .ok (.iload 6, 2) := by decide +kernel
theorem dd_Md_hash_107 : decode prog_8_method_26_code 107 = .ok (.invokevirtual 95, 3) := by decide +kernel
theorem dd_Md_hash_110 : decode prog_8_method_26_code 110 = .ok (.istore 5, 2) := by decide +kernel
theorem dd_Md_hash_112 : decode prog_8_method_26_code 112 = .ok (.iinc 6 1, 3) := by decide +kernel
theorem dd_Md_hash_115 : decode prog_8_method_26_code 115 = .ok (.goto (-37), 3) := by decide +kernel
theorem dd_Md_hash_118 : decode prog_8_method_26_code 118 = .ok (.iload 5, 2) := by decide +kernel
theorem dd_Md_hash_120 : decode prog_8_method_26_code 120 = .ok (.i2l, 1) := by decide +kernel
theorem dd_Md_hash_121 : decode prog_8_method_26_code 121 = .ok (.ldc2_w 119, 3) := by decide +kernel
theorem dd_Md_hash_124 : decode prog_8_method_26_code 124 = .ok (.land, 1) := by decide +kernel
theorem dd_Md_hash_125 : decode prog_8_method_26_code 125 = .ok (.lreturn, 1) := by decide +kernel
theorem dd_Md_alike_0 : decode prog_8_method_29_code 0 = .ok (.aload_n 0, 1) := by decide +kernel
theorem dd_Md_alike_1 : decode prog_8_method_29_code 1 = .ok (.iconst 0, 1) := by decide +kernel
theorem dd_Md_alike_2 : decode prog_8_method_29_code 2 = .ok (.putfield 67, 3) := by decide +kernel
theorem dd_Md_alike_5 : decode prog_8_method_29_code 5 = .ok (.iload_n 1, 1) := by decide +kernel
theorem dd_Md_alike_6 : decode prog_8_method_29_code 6 = .ok (.invokestatic 82, 3) := by decide +kernel
theorem dd_Md_alike_9 : decode prog_8_method_29_code 9 = .ok (.ifCond .eq 19, 3) := by decide +kernel
theorem dd_Md_alike_12 : decode prog_8_method_29_code 12 = .ok (.iload_n 2, 1) := by decide +kernel
theorem dd_Md_alike_13 : decode prog_8_method_29_code 13 = .ok (.invokestatic 82, 3) := by decide +kernel
theorem dd_Md_alike_16 : decode prog_8_method_29_code 16 = .ok (.ifCond .eq 12, 3) := by decide +kernel
theorem dd_Md_alike_19 : decode prog_8_method_29_code 19 = .ok (.iload_n 3, 1) := by decide +kernel
theorem dd_Md_alike_20 : decode prog_8_method_29_code 20 = .ok (.iconst 0, 1) := by decide +kernel
theorem dd_Md_alike_21 : decode prog_8_method_29_code 21 = .ok (.iconst 3, 1) := by decide +kernel
theorem dd_Md_alike_22 : decode prog_8_method_29_code 22 = .ok (.invokestatic 72, 3) := by decide +kernel
theorem dd_Md_alike_25 : decode prog_8_method_29_code 25 = .ok (.ifCond .ne 5, 3) := by decide +kernel
theorem dd_Md_alike_28 : decode prog_8_method_29_code 28 = .ok (.iconst (-1), 1) := by decide +kernel
theorem dd_Md_alike_29 : decode prog_8_method_29_code 29 = .ok (.ireturn, 1) := by decide +kernel
theorem dd_Md_alike_30 : decode prog_8_method_29_code 30 = .ok (.aload_n 0, 1) := by decide +kernel
theorem dd_Md_alike_31 : decode prog_8_method_29_code 31 = .ok (.aload_n 0, 1) := by decide +kernel
theorem dd_Md_alike_32 : decode prog_8_method_29_code 32 = .ok (.iload_n 1, 1) := by decide +kernel
theorem dd_Md_alike_33 : decode prog_8_method_29_code 33 = .ok (.aload_n 0, 1) := by decide +kernel
theorem dd_Md_alike_34 : decode prog_8_method_29_code 34 = .ok (.getfield 32, 3) := by decide +kernel
theorem dd_Md_alike_37 : decode prog_8_method_29_code 37 = .ok (.invokevirtual 106, 3) := by decide +kernel
theorem dd_Md_alike_40 : decode prog_8_method_29_code 40 = .ok (.putfield 110, 3) := by decide +kernel
theorem dd_Md_alike_43 : decode prog_8_method_29_code 43 = .ok (.aload_n 0, 1) := by decide +kernel
theorem dd_Md_alike_44 : decode prog_8_method_29_code 44 = .ok (.aload_n 0, 1) := by decide +kernel
theorem dd_Md_alike_45 : decode prog_8_method_29_code 45 = .ok (.iload_n 2, 1) := by decide +kernel
theorem dd_Md_alike_46 : decode prog_8_method_29_code 46 = .ok (.aload_n 0, 1) := by decide +kernel
theorem dd_Md_alike_47 : decode prog_8_method_29_code 47 = .ok (.getfield 35, 3) := by decide +kernel
theorem dd_Md_alike_50 : decode prog_8_method_29_code 50 = .ok (.invokevirtual 106, 3) := by decide +kernel
theorem dd_Md_alike_53 : decode prog_8_method_29_code 53 = .ok (.putfield 133, 3) := by decide +kernel
theorem dd_Md_alike_56 : decode prog_8_method_29_code 56 = .ok (.iconst 0, 1) := by decide +kernel
theorem dd_Md_alike_57 : decode prog_8_method_29_code 57 = .ok (.istore 4, 2) := by decide +kernel
theorem dd_Md_alike_59 : decode prog_8_method_29_code 59 = .ok (.iload_n 3, 1) := by decide +kernel
theorem dd_Md_alike_60 : decode prog_8_method_29_code 60 = .ok (.iconst 2, 1) := by decide +kernel
theorem dd_Md_alike_61 : decode prog_8_method_29_code 61 = .ok (.if_icmp .ge 101, 3) := by decide +kernel
theorem dd_Md_alike_64 : decode prog_8_method_29_code 64 = .ok (.iconst 0, 1) := by decide +kernel
theorem dd_Md_alike_65 : decode prog_8_method_29_code 65 = .ok (.istore 5, 2) := by decide +kernel
theorem dd_Md_alike_67 : decode prog_8_method_29_code 67 = .ok (.iload 5, 2) := by decide +kernel
theorem dd_Md_alike_69 : decode prog_8_method_29_code 69 = .ok (.aload_n 0, 1) := by decide +kernel
theorem dd_Md_alike_70 : decode prog_8_method_29_code 70 = .ok (.getfield 110, 3) := by decide +kernel
theorem dd_Md_alike_73 : decode prog_8_method_29_code 73 = .ok (.if_icmp .ge 86, 3) := by decide +kernel
theorem dd_Md_alike_76 : decode prog_8_method_29_code 76 = .ok (.iconst 0, 1) := by decide +kernel
theorem dd_Md_alike_77 : decode prog_8_method_29_code 77 = .ok (.istore 6, 2) := by decide +kernel
theorem dd_Md_alike_79 : decode prog_8_method_29_code 79 = .ok (.iconst 0, 1) := by decide +kernel
theorem dd_Md_alike_80 : decode prog_8_method_29_code 80 = .ok (.istore 7, 2) := by decide +kernel
theorem dd_Md_alike_82 : decode prog_8_method_29_code 82 = .ok (.iload 7, 2) := by decide +kernel
theorem dd_Md_alike_84 : decode prog_8_method_29_code 84 = .ok (.aload_n 0, 1) := by decide +kernel
theorem dd_Md_alike_85 : decode prog_8_method_29_code 85 = .ok (.getfield 133, 3) := by decide +kernel
theorem dd_Md_alike_88 : decode prog_8_method_29_code 88 = .ok (.if_icmp .ge 26, 3) := by decide +kernel
theorem dd_Md_alike_91 : decode prog_8_method_29_code 91 = .ok (.iload 6, 2) := by decide +kernel
theorem dd_Md_alike_93 : decode prog_8_method_29_code 93 = .ok (.ifCond .ne 21, 3) := by decide +kernel
theorem dd_Md_alike_96 : decode prog_8_method_29_code 96 = .ok (.aload_n 0, 1) := by decide +kernel
theorem dd_Md_alike_97 : decode prog_8_method_29_code 97 = .ok (.iload_n 1, 1) := by decide +kernel
theorem dd_Md_alike_98 : decode prog_8_method_29_code 98 = .ok (.iload 5, 2) := by decide +kernel
theorem dd_Md_alike_100 : decode prog_8_method_29_code 100 = .ok (.iload_n 2, 1) := by decide +kernel
theorem dd_Md_alike_101 : decode prog_8_method_29_code 101 = .ok (.iload 7, 2) := by decide +kernel
theorem dd_Md_alike_103 : decode prog_8_method_29_code 103 = .ok (.invokevirtual 136, 3) := by decide +kernel
theorem dd_Md_alike_106 : decode prog_8_method_29_code 106 = .ok (.istore 6, 2) := by decide +kernel
theorem dd_Md_alike_108 : decode prog_8_method_29_code 108 = .ok (.iinc 7 1, 3) := by decide +kernel
theorem dd_Md_alike_111 : decode prog_8_method_29_code 111 = .ok (.goto (-29), 3) := by decide +kernel
theorem dd_Md_alike_114 : decode prog_8_method_29_code 114 = .ok (.iload 4, 2) := by decide +kernel
theorem dd_Md_alike_116 : decode prog_8_method_29_code 116 = .ok (.iload 6, 2) := by decide +kernel
theorem dd_Md_alike_118 : decode prog_8_method_29_code 118 = .ok (.ifCond .ne 7, 3) := by decide +kernel
theorem dd_Md_alike_121 : decode prog_8_method_29_code 121 = .ok (.iconst 0, 1) := by decide +kernel
theorem dd_Md_alike_122 : decode prog_8_method_29_code 122 = .ok (.goto 28, 3) := by decide +kernel
theorem dd_Md_alike_125 : decode prog_8_method_29_code 125 = .ok (.iload_n 3, 1) := by decide +kernel
theorem dd_Md_alike_126 : decode prog_8_method_29_code 126 = .ok (.ifCond .ne 7, 3) := by decide +kernel
theorem dd_Md_alike_129 : decode prog_8_method_29_code 129 = .ok (.iconst 1, 1) := by decide +kernel
theorem dd_Md_alike_130 : decode prog_8_method_29_code 130 = .ok (.goto 20, 3) := by decide +kernel
theorem dd_Md_alike_133 : decode prog_8_method_29_code 133 = .ok (.aload_n 0, 1) := by decide +kernel
theorem dd_Md_alike_134 : decode prog_8_method_29_code 134 = .ok (.getfield 32, 3) := by decide +kernel
theorem dd_Md_alike_137 : decode prog_8_method_29_code 137 = .ok (.iload 5, 2) := by decide +kernel
theorem dd_Md_alike_139 : decode prog_8_method_29_code 139 = .ok (.iconst 1, 1) := by decide +kernel
theorem dd_Md_alike_140 : decode prog_8_method_29_code 140 = .ok (.iadd, 1) := by decide +kernel
theorem dd_Md_alike_141 : decode prog_8_method_29_code 141 = .ok (.iaload, 1) := by decide +kernel
theorem dd_Md_alike_142 : decode prog_8_method_29_code 142 = .ok (.aload_n 0, 1) := by decide +kernel
theorem dd_Md_alike_143 : decode prog_8_method_29_code 143 = .ok (.getfield 32, 3) := by decide +kernel
theorem dd_Md_alike_146 : decode prog_8_method_29_code 146 = .ok (.iload 5, 2) := by decide +kernel
theorem dd_Md_alike_148 : decode prog_8_method_29_code 148 = .ok (.iaload, 1) := by decide +kernel
theorem dd_Md_alike_149 : decode prog_8_method_29_code 149 = .ok (.isub, 1) := by decide +kernel
theorem dd_Md_alike_150 : decode prog_8_method_29_code 150 = .ok (.iadd, 1) := by decide +kernel
theorem dd_Md_alike_151 : decode prog_8_method_29_code 151 = .ok (.istore 4, 2) := by decide +kernel
theorem dd_Md_alike_153 : decode prog_8_method_29_code 153 = .ok (.iinc 5 1, 3) := by decide +kernel
theorem dd_Md_alike_156 : decode prog_8_method_29_code 156 = .ok (.goto (-89), 3) := by decide +kernel
theorem dd_Md_alike_159 : decode prog_8_method_29_code 159 = .ok (.iload 4, 2) := by decide +kernel
theorem dd_Md_alike_161 : decode prog_8_method_29_code 161 = .ok (.ireturn, 1) := by decide +kernel
theorem dd_Md_alike_162 : decode prog_8_method_29_code 162 = .ok (.iload 4, 2) := by decide +kernel
theorem dd_Md_alike_164 : decode prog_8_method_29_code 164 = .ok (.aload_n 0, 1) := by decide +kernel
theorem dd_Md_alike_165 : decode prog_8_method_29_code 165 = .ok (.getfield 110, 3) := by decide +kernel
theorem dd_Md_alike_168 : decode prog_8_method_29_code 168 = .ok (.if_icmp .ge 66, 3) := by decide +kernel
theorem dd_Md_alike_171 : decode prog_8_method_29_code 171 = .ok (.iload 4, 2) := by decide +kernel
theorem dd_Md_alike_173 : decode prog_8_method_29_code 173 = .ok (.aload_n 0, 1) := by decide +kernel
theorem dd_Md_alike_174 : decode prog_8_method_29_code 174 = .ok (.getfield 133, 3) := by decide +kernel
theorem dd_Md_alike_177 : decode prog_8_method_29_code 177 = .ok (.if_icmp .ge 57, 3) := by decide +kernel
theorem dd_Md_alike_180 : decode prog_8_method_29_code 180 = .ok (.iload_n 3, 1) := by decide +kernel
theorem dd_Md_alike_181 : decode prog_8_method_29_code 181 = .ok (.iconst 2, 1) := by decide +kernel
theorem dd_Md_alike_182 : decode prog_8_method_29_code 182 = .ok (.if_icmp .ne 19, 3) := by decide +kernel
theorem dd_Md_alike_185 : decode prog_8_method_29_code 185 = .ok (.aload_n 0, 1) := by decide +kernel
theorem dd_Md_alike_186 : decode prog_8_method_29_code 186 = .ok (.iload_n 1, 1) := by decide +kernel
theorem dd_Md_alike_187 : decode prog_8_method_29_code 187 = .ok (.iload 4, 2) := by decide +kernel
theorem dd_Md_alike_189 : decode prog_8_method_29_code 189 = .ok (.iload_n 2, 1) := by decide +kernel
theorem dd_Md_alike_190 : decode prog_8_method_29_code 190 = .ok (.iload 4, 2) := by decide +kernel
theorem dd_Md_alike_192 : decode prog_8_method_29_code 192 = .ok (.invokevirtual 136, 3) := by decide +kernel
theorem dd_Md_alike_195 : decode prog_8_method_29_code 195 = .ok (.ifCond .eq 39, 3) := by decide +kernel
theorem dd_Md_alike_198 : decode prog_8_method_29_code 198 = .ok (.goto 30, 3) := by decide +kernel
theorem dd_Md_alike_201 : decode prog_8_method_29_code 201 = .ok (.aload_n 0, 1) := by decide +kernel
theorem dd_Md_alike_202 : decode prog_8_method_29_code 202 = .ok (.iload_n 1, 1) := by decide +kernel
theorem dd_Md_alike_203 : decode prog_8_method_29_code 203 = .ok (.aload_n 0, 1) := by decide +kernel
theorem dd_Md_alike_204 : decode prog_8_method_29_code 204 = .ok (.getfield 110, 3) := by decide +kernel
theorem dd_Md_alike_207 : decode prog_8_method_29_code 207 = .ok (.iconst 1, 1) := by decide +kernel
theorem dd_Md_alike_208 : decode prog_8_method_29_code 208 = .ok (.isub, 1) := by decide +kernel
theorem dd_Md_alike_209 : decode prog_8_method_29_code 209 = .ok (.iload 4, 2) := by decide +kernel
theorem dd_Md_alike_211 : decode prog_8_method_29_code 211 = .ok (.isub, 1) := by decide +kernel
theorem dd_Md_alike_212 : decode prog_8_method_29_code 212 = .ok (.iload_n 2, 1) := by decide +kernel
theorem dd_Md_alike_213 : decode prog_8_method_29_code 213 = .ok (.aload_n 0, 1) := by decide +kernel
theorem dd_Md_alike_214 : decode prog_8_method_29_code 214 = .ok (.getfield 133, 3) := by decide +kernel
theorem dd_Md_alike_217 : decode prog_8_method_29_code 217 = .ok (.iconst 1, 1) := by decide +kernel
theorem dd_Md_alike_218 : decode prog_8_method_29_code 218 = .ok (.isub, 1) := by decide +kernel
theorem dd_Md_alike_219 : decode prog_8_method_29_code 219 = .ok (.iload 4, 2) := by decide +kernel
theorem dd_Md_alike_221 : decode prog_8_method_29_code 221 = .ok (.isub, 1) := by decide +kernel
theorem dd_Md_alike_222 : decode prog_8_method_29_code 222 = .ok (.invokevirtual 136, 3) := by decide +kernel
theorem dd_Md_alike_225 : decode prog_8_method_29_code 225 = .ok (.ifCond .eq 9, 3) := by decide +kernel
theorem dd_Md_alike_228 : decode prog_8_method_29_code 228 = .ok (.iinc 4 1, 3) := by decide +kernel
theorem dd_Md_alike_231 : decode prog_8_method_29_code 231 = .ok (.goto (-69), 3) := by decide +kernel
theorem dd_Md_alike_234 : decode prog_8_method_29_code 234 = .ok (.iload 4, 2) := by decide +kernel
theorem dd_Md_alike_236 : decode prog_8_method_29_code 236 = .ok (.ireturn, 1) := by decide +kernel
theorem dd_Md_isLike_0 : decode prog_8_method_28_code 0 = .ok (.aload_n 0, 1) := by decide +kernel
theorem dd_Md_isLike_1 : decode prog_8_method_28_code 1 = .ok (.getfield 32, 3) := by decide +kernel
theorem dd_Md_isLike_4 : decode prog_8_method_28_code 4 = .ok (.iload_n 2, 1) := by decide +kernel
theorem dd_Md_isLike_5 : decode prog_8_method_28_code 5 = .ok (.iconst 1, 1) := by decide +kernel
theorem dd_Md_isLike_6 : decode prog_8_method_28_code 6 = .ok (.iadd, 1) := by decide +kernel
theorem dd_Md_isLike_7 : decode prog_8_method_28_code 7 = .ok (.iaload, 1) := by decide +kernel
theorem dd_Md_isLike_8 : decode prog_8_method_28_code 8 = .ok (.aload_n 0, 1) := by decide +kernel
theorem dd_Md_isLike_9 : decode prog_8_method_28_code 9 = .ok (.getfield 32, 3) := by decide +kernel
theorem dd_Md_isLike_12 : decode prog_8_method_28_code 12 = .ok (.iload_n 2, 1) := by decide +kernel
theorem dd_Md_isLike_13 : decode prog_8_method_28_code 13 = .ok (.iaload, 1) := by decide +kernel
theorem dd_Md_isLike_14 : decode prog_8_method_28_code 14 = .ok (.isub, 1) := by decide +kernel
theorem dd_Md_isLike_15 : decode prog_8_method_28_code 15 = .ok (.istore 5, 2) := by decide +kernel
theorem dd_Md_isLike_17 : decode prog_8_method_28_code 17 = .ok (.iload 5, 2) := by decide +kernel
theorem dd_Md_isLike_19 : decode prog_8_method_28_code 19 = .ok (.aload_n 0, 1) := by decide +kernel
theorem dd_Md_isLike_20 : decode prog_8_method_28_code 20 = .ok (.getfield 35, 3) := by decide +kernel
theorem dd_Md_isLike_23 : decode prog_8_method_28_code 23 = .ok (.iload 4, 2) := by decide +kernel
theorem dd_Md_isLike_25 : decode prog_8_method_28_code 25 = .ok (.iconst 1, 1) := by decide +kernel
theorem dd_Md_isLike_26 : decode prog_8_method_28_code 26 = .ok (.iadd, 1) := by decide +kernel
theorem dd_Md_isLike_27 : decode prog_8_method_28_code 27 = .ok (.iaload, 1) := by decide +kernel
theorem dd_Md_isLike_28 : decode prog_8_method_28_code 28 = .ok (.aload_n 0, 1) := by decide +kernel
theorem dd_Md_isLike_29 : decode prog_8_method_28_code 29 = .ok (.getfield 35, 3) := by decide +kernel
theorem dd_Md_isLike_32 : decode prog_8_method_28_code 32 = .ok (.iload 4, 2) := by decide +kernel
theorem dd_Md_isLike_34 : decode prog_8_method_28_code 34 = .ok (.iaload, 1) := by decide +kernel
theorem dd_Md_isLike_35 : decode prog_8_method_28_code 35 = .ok (.isub, 1) := by decide +kernel
theorem dd_Md_isLike_36 : decode prog_8_method_28_code 36 = .ok (.if_icmp .ne 48, 3) := by decide +kernel
theorem dd_Md_isLike_39 : decode prog_8_method_28_code 39 = .ok (.aload_n 0, 1) := by decide +kernel
theorem dd_Md_isLike_40 : decode prog_8_method_28_code 40 = .ok (.getfield 7, 3) := by decide +kernel
theorem dd_Md_isLike_43 : decode prog_8_method_28_code 43 = .ok (.sipush 1500, 3) := by decide +kernel
theorem dd_Md_isLike_46 : decode prog_8_method_28_code 46 = .ok (.iload_n 1, 1) := by decide +kernel
theorem dd_Md_isLike_47 : decode prog_8_method_28_code 47 = .ok (.imul, 1) := by decide +kernel
theorem dd_Md_isLike_48 : decode prog_8_method_28_code 48 = .ok (.aload_n 0, 1) := by decide +kernel
theorem dd_Md_isLike_49 : decode prog_8_method_28_code 49 = .ok (.getfield 32, 3) := by decide +kernel
theorem dd_Md_isLike_52 : decode prog_8_method_28_code 52 = .ok (.iload_n 2, 1) := by decide +kernel
theorem dd_Md_isLike_53 : decode prog_8_method_28_code 53 = .ok (.iaload, 1) := by decide +kernel
theorem dd_Md_isLike_54 : decode prog_8_method_28_code 54 = .ok (.iadd, 1) := by decide +kernel
theorem dd_Md_isLike_55 : decode prog_8_method_28_code 55 = .ok (.aload_n 0, 1) := by decide +kernel
theorem dd_Md_isLike_56 : decode prog_8_method_28_code 56 = .ok (.getfield 7, 3) := by decide +kernel
theorem dd_Md_isLike_59 : decode prog_8_method_28_code 59 = .ok (.sipush 1500, 3) := by decide +kernel
theorem dd_Md_isLike_62 : decode prog_8_method_28_code 62 = .ok (.iload_n 3, 1) := by decide +kernel
theorem dd_Md_isLike_63 : decode prog_8_method_28_code 63 = .ok (.imul, 1) := by decide +kernel
theorem dd_Md_isLike_64 : decode prog_8_method_28_code 64 = .ok (.aload_n 0, 1) := by decide +kernel
theorem dd_Md_isLike_65 : decode prog_8_method_28_code 65 = .ok (.getfield 35, 3) := by decide +kernel
theorem dd_Md_isLike_68 : decode prog_8_method_28_code 68 = .ok (.iload 4, 2) := by decide +kernel
theorem dd_Md_isLike_70 : decode prog_8_method_28_code 70 = .ok (.iaload, 1) := by decide +kernel
theorem dd_Md_isLike_71 : decode prog_8_method_28_code 71 = .ok (.iadd, 1) := by decide +kernel
theorem dd_Md_isLike_72 : decode prog_8_method_28_code 72 = .ok (.iload 5, 2) := by decide +kernel
theorem dd_Md_isLike_74 : decode prog_8_method_28_code 74 = .ok (.invokestatic 129, 3) := by decide +kernel
theorem dd_Md_isLike_77 : decode prog_8_method_28_code 77 = .ok (.ifCond .eq 7, 3) := by decide +kernel
theorem dd_Md_isLike_80 : decode prog_8_method_28_code 80 = .ok (.iconst 1, 1) := by decide +kernel
theorem dd_Md_isLike_81 : decode prog_8_method_28_code 81 = .ok (.goto 4, 3) := by decide +kernel
theorem dd_Md_isLike_84 : decode prog_8_method_28_code 84 = .ok (.iconst 0, 1) := by decide +kernel
theorem dd_Md_isLike_85 : decode prog_8_method_28_code 85 = .ok (.ireturn, 1) := by decide +kernel
theorem dd_Md_isSame_0 : decode prog_8_method_27_code 0 = .ok (.iconst 0, 1) := by decide +kernel
theorem dd_Md_isSame_1 : decode prog_8_method_27_code 1 = .ok (.istore 5, 2) := by decide +kernel
theorem dd_Md_isSame_3 : decode prog_8_method_27_code 3 = .ok (.iload 5, 2) := by decide +kernel
theorem dd_Md_isSame_5 : decode prog_8_method_27_code 5 = .ok (.iload 4, 2) := by decide +kernel
theorem dd_Md_isSame_7 : decode prog_8_method_27_code 7 = .ok (.if_icmp .ge 26, 3) := by decide +kernel
theorem dd_Md_isSame_10 : decode prog_8_method_27_code 10 = .ok (.aload_n 0, 1) := by decide +kernel
theorem dd_Md_isSame_11 : decode prog_8_method_27_code 11 = .ok (.iload_n 1, 1) := by decide +kernel
theorem dd_Md_isSame_12 : decode prog_8_method_27_code 12 = .ok (.iload 5, 2) := by decide +kernel
theorem dd_Md_isSame_14 : decode prog_8_method_27_code 14 = .ok (.iadd, 1) := by decide +kernel
theorem dd_Md_isSame_15 : decode prog_8_method_27_code 15 = .ok (.iaload, 1) := by decide +kernel
theorem dd_Md_isSame_16 : decode prog_8_method_27_code 16 = .ok (.aload_n 2, 1) := by decide +kernel
theorem dd_Md_isSame_17 : decode prog_8_method_27_code 17 = .ok (.iload_n 3, 1) := by decide +kernel
theorem dd_Md_isSame_18 : decode prog_8_method_27_code 18 = .ok (.iload 5, 2) := by decide +kernel
theorem dd_Md_isSame_20 : decode prog_8_method_27_code 20 = .ok (.iadd, 1) := by decide +kernel
theorem dd_Md_isSame_21 : decode prog_8_method_27_code 21 = .ok (.iaload, 1) := by decide +kernel
theorem dd_Md_isSame_22 : decode prog_8_method_27_code 22 = .ok (.if_icmp .eq 5, 3) := by decide +kernel
theorem dd_Md_isSame_25 : decode prog_8_method_27_code 25 = .ok (.iconst 0, 1) := by decide +kernel
theorem dd_Md_isSame_26 : decode prog_8_method_27_code 26 = .ok (.ireturn, 1) := by decide +kernel
theorem dd_Md_isSame_27 : decode prog_8_method_27_code 27 = .ok (.iinc 5 1, 3) := by decide +kernel
theorem dd_Md_isSame_30 : decode prog_8_method_27_code 30 = .ok (.goto (-27), 3) := by decide +kernel
theorem dd_Md_isSame_33 : decode prog_8_method_27_code 33 = .ok (.iconst 1, 1) := by decide +kernel
theorem dd_Md_isSame_34 : decode prog_8_method_27_code 34 = .ok (.ireturn, 1) := by decide +kernel
theorem dd_Md_keep_0 : decode prog_8_method_31_code 0 = .ok (.aload_n 0, 1) := by decide +kernel
theorem dd_Md_keep_1 : decode prog_8_method_31_code 1 = .ok (.iconst 0, 1) := by decide +kernel
theorem dd_Md_keep_2 : decode prog_8_method_31_code 2 = .ok (.putfield 67, 3) := by decide +kernel
theorem dd_Md_keep_5 : decode prog_8_method_31_code 5 = .ok (.iload_n 1, 1) := by decide +kernel
theorem dd_Md_keep_6 : decode prog_8_method_31_code 6 = .ok (.invokestatic 82, 3) := by decide +kernel
theorem dd_Md_keep_9 : decode prog_8_method_31_code 9 = .ok (.ifCond .ne 5, 3) := by decide +kernel
theorem dd_Md_keep_12 : decode prog_8_method_31_code 12 = .ok (.iconst (-1), 1) := by decide +kernel
theorem dd_Md_keep_13 : decode prog_8_method_31_code 13 = .ok (.ireturn, 1) := by decide +kernel
theorem dd_Md_keep_14 : decode prog_8_method_31_code 14 = .ok (.iconst 0, 1) := by decide +kernel
theorem dd_Md_keep_15 : decode prog_8_method_31_code 15 = .ok (.istore_n 2, 1) := by decide +kernel
theorem dd_Md_keep_16 : decode prog_8_method_31_code 16 = .ok (.iload_n 2, 1) := by decide +kernel
theorem dd_Md_keep_17 : decode prog_8_method_31_code 17 = .ok (.bipush 10, 2) := by decide +kernel
theorem dd_Md_keep_19 : decode prog_8_method_31_code 19 = .ok (.if_icmp .ge 18, 3) := by decide +kernel
theorem dd_Md_keep_22 : decode prog_8_method_31_code 22 = .ok (.aload_n 0, 1) := by decide +kernel
theorem dd_Md_keep_23 : decode prog_8_method_31_code 23 = .ok (.getfield 50, 3) := by decide +kernel
theorem dd_Md_keep_26 : decode prog_8_method_31_code 26 = .ok (.iload_n 2, 1) := by decide +kernel
theorem dd_Md_keep_27 : decode prog_8_method_31_code 27 = .ok (.baload, 1) := by decide +kernel
theorem dd_Md_keep_28 : decode prog_8_method_31_code 28 = .ok (.ifCond .eq 9, 3) := by decide +kernel
theorem dd_Md_keep_31 : decode prog_8_method_31_code 31 = .ok (.iinc 2 1, 3) := by decide +kernel
theorem dd_Md_keep_34 : decode prog_8_method_31_code 34 = .ok (.goto (-18), 3) := by decide +kernel
theorem dd_Md_keep_37 : decode prog_8_method_31_code 37 = .ok (.iload_n 2, 1) := by decide +kernel
theorem dd_Md_keep_38 : decode prog_8_method_31_code 38 = .ok (.bipush 10, 2) := by decide +kernel
theorem dd_Md_keep_40 : decode prog_8_method_31_code 40 = .ok (.if_icmp .ne 6, 3) := by decide +kernel
theorem dd_Md_keep_43 : decode prog_8_method_31_code 43 = .ok (.bipush (-2), 2) := by decide +kernel
theorem dd_Md_keep_45 : decode prog_8_method_31_code 45 = .ok (.ireturn, 1) := by decide +kernel
theorem dd_Md_keep_46 : decode prog_8_method_31_code 46 = .ok (.aload_n 0, 1) := by decide +kernel
theorem dd_Md_keep_47 : decode prog_8_method_31_code 47 = .ok (.aload_n 0, 1) := by decide +kernel
theorem dd_Md_keep_48 : decode prog_8_method_31_code 48 = .ok (.iload_n 1, 1) := by decide +kernel
theorem dd_Md_keep_49 : decode prog_8_method_31_code 49 = .ok (.aload_n 0, 1) := by decide +kernel
theorem dd_Md_keep_50 : decode prog_8_method_31_code 50 = .ok (.getfield 32, 3) := by decide +kernel
theorem dd_Md_keep_53 : decode prog_8_method_31_code 53 = .ok (.invokevirtual 106, 3) := by decide +kernel
theorem dd_Md_keep_56 : decode prog_8_method_31_code 56 = .ok (.putfield 110, 3) := by decide +kernel
theorem dd_Md_keep_59 : decode prog_8_method_31_code 59 = .ok (.aload_n 0, 1) := by decide +kernel
theorem dd_Md_keep_60 : decode prog_8_method_31_code 60 = .ok (.getfield 140, 3) := by decide +kernel
theorem dd_Md_keep_63 : decode prog_8_method_31_code 63 = .ok (.istore_n 3, 1) := by decide +kernel
theorem dd_Md_keep_64 : decode prog_8_method_31_code 64 = .ok (.aload_n 0, 1) := by decide +kernel
theorem dd_Md_keep_65 : decode prog_8_method_31_code 65 = .ok (.getfield 143, 3) := by decide +kernel
theorem dd_Md_keep_68 : decode prog_8_method_31_code 68 = .ok (.istore 4, 2) := by decide +kernel
theorem dd_Md_keep_70 : decode prog_8_method_31_code 70 = .ok (.iconst 0, 1) := by decide +kernel
theorem dd_Md_keep_71 : decode prog_8_method_31_code 71 = .ok (.istore 5, 2) := by decide +kernel
theorem dd_Md_keep_73 : decode prog_8_method_31_code 73 = .ok (.iload 5, 2) := by decide +kernel
theorem dd_Md_keep_75 : decode prog_8_method_31_code 75 = .ok (.aload_n 0, 1) := by decide +kernel
theorem dd_Md_keep_76 : decode prog_8_method_31_code 76 = .ok (.getfield 110, 3) := by decide +kernel
theorem dd_Md_keep_79 : decode prog_8_method_31_code 79 = .ok (.if_icmp .ge 206, 3) := by decide +kernel
theorem dd_Md_keep_82 : decode prog_8_method_31_code 82 = .ok (.aload_n 0, 1) := by decide +kernel
theorem dd_Md_keep_83 : decode prog_8_method_31_code 83 = .ok (.iload_n 1, 1) := by decide +kernel
theorem dd_Md_keep_84 : decode prog_8_method_31_code 84 = .ok (.iload 5, 2) := by decide +kernel
theorem dd_Md_keep_86 : decode prog_8_method_31_code 86 = .ok (.invokevirtual 146, 3) := by decide +kernel
theorem dd_Md_keep_89 : decode prog_8_method_31_code 89 = .ok (.istore 6, 2) := by decide +kernel
theorem dd_Md_keep_91 : decode prog_8_method_31_code 91 = .ok (.iload 6, 2) := by decide +kernel
theorem dd_Md_keep_93 : decode prog_8_method_31_code 93 = .ok (.ifCond .ge 160, 3) := by decide +kernel
theorem dd_Md_keep_96 : decode prog_8_method_31_code 96 = .ok (.aload_n 0, 1) := by decide +kernel
theorem dd_Md_keep_97 : decode prog_8_method_31_code 97 = .ok (.getfield 32, 3) := by decide +kernel
theorem dd_Md_keep_100 : decode prog_8_method_31_code 100 = .ok (.iload 5, 2) := by decide +kernel
theorem dd_Md_keep_102 : decode prog_8_method_31_code 102 = .ok (.iconst 1, 1) := by decide +kernel
theorem dd_Md_keep_103 : decode prog_8_method_31_code 103 = .ok (.iadd, 1) := by decide +kernel
theorem dd_Md_keep_104 : decode prog_8_method_31_code 104 = .ok (.iaload, 1) := by decide +kernel
theorem dd_Md_keep_105 : decode prog_8_method_31_code 105 = .ok (.aload_n 0, 1) := by decide +kernel
theorem dd_Md_keep_106 : decode prog_8_method_31_code 106 = .ok (.getfield 32, 3) := by decide +kernel
theorem dd_Md_keep_109 : decode prog_8_method_31_code 109 = .ok (.iload 5, 2) := by decide +kernel
theorem dd_Md_keep_111 : decode prog_8_method_31_code 111 = .ok (.iaload, 1) := by decide +kernel
theorem dd_Md_keep_112 : decode prog_8_method_31_code 112 = .ok (.isub, 1) := by decide +kernel
theorem dd_Md_keep_113 : decode prog_8_method_31_code 113 = .ok (.istore 7, 2) := by decide +kernel
theorem dd_Md_keep_115 : decode prog_8_method_31_code 115 = .ok (.aload_n 0, 1) := by decide +kernel
theorem dd_Md_keep_116 : decode prog_8_method_31_code 116 = .ok (.getfield 140, 3) := by decide +kernel
theorem dd_Md_keep_119 : decode prog_8_method_31_code 119 = .ok (.sipush 300, 3) := by decide +kernel
theorem dd_Md_keep_122 : decode prog_8_method_31_code 122 = .ok (.if_icmp .eq 16, 3) := by decide +kernel
theorem dd_Md_keep_125 : decode prog_8_method_31_code 125 = .ok (.aload_n 0, 1) := by decide +kernel
theorem dd_Md_keep_126 : decode prog_8_method_31_code 126 = .ok (.getfield 143, 3) := by decide +kernel
theorem dd_Md_keep_129 : decode prog_8_method_31_code 129 = .ok (.iload 7, 2) := by decide +kernel
theorem dd_Md_keep_131 : decode prog_8_method_31_code 131 = .ok (.iadd, 1) := by decide +kernel
theorem dd_Md_keep_132 : decode prog_8_method_31_code 132 = .ok (.sipush 6000, 3) := by decide +kernel
theorem dd_Md_keep_135 : decode prog_8_method_31_code 135 = .ok (.if_icmp .le 14, 3) := by decide +kernel
theorem dd_Md_keep_138 : decode prog_8_method_31_code 138 = .ok (.aload_n 0, 1) := by decide +kernel
theorem dd_Md_keep_139 : decode prog_8_method_31_code 139 = .ok (.iload_n 2, 1) := by decide +kernel
theorem dd_Md_keep_140 : decode prog_8_method_31_code 140 = .ok (.iload 5, 2) := by decide +kernel
theorem dd_Md_keep_142 : decode prog_8_method_31_code 142 = .ok (.iload_n 3, 1) := by decide +kernel
theorem dd_Md_keep_143 : decode prog_8_method_31_code 143 = .ok (.iload 4, 2) := by decide +kernel
theorem dd_Md_keep_145 : decode prog_8_method_31_code 145 = .ok (.invokevirtual 149, 3) := by decide +kernel
theorem dd_Md_keep_148 : decode prog_8_method_31_code 148 = .ok (.ireturn, 1) := by decide +kernel
theorem dd_Md_keep_149 : decode prog_8_method_31_code 149 = .ok (.aload_n 0, 1) := by decide +kernel
theorem dd_Md_keep_150 : decode prog_8_method_31_code 150 = .ok (.getfield 140, 3) := by decide +kernel
theorem dd_Md_keep_153 : decode prog_8_method_31_code 153 = .ok (.istore 6, 2) := by decide +kernel
theorem dd_Md_keep_155 : decode prog_8_method_31_code 155 = .ok (.aload_n 0, 1) := by decide +kernel
theorem dd_Md_keep_156 : decode prog_8_method_31_code 156 = .ok (.getfield 41, 3) := by decide +kernel
theorem dd_Md_keep_159 : decode prog_8_method_31_code 159 = .ok (.iload 6, 2) := by decide +kernel
theorem dd_Md_keep_161 : decode prog_8_method_31_code 161 = .ok (.aload_n 0, 1) := by decide +kernel
theorem dd_Md_keep_162 : decode prog_8_method_31_code 162 = .ok (.getfield 143, 3) := by decide +kernel
theorem dd_Md_keep_165 : decode prog_8_method_31_code 165 = .ok (.iastore, 1) := by decide +kernel
theorem dd_Md_keep_166 : decode prog_8_method_31_code 166 = .ok (.aload_n 0, 1) := by decide +kernel
theorem dd_Md_keep_167 : decode prog_8_method_31_code 167 = .ok (.getfield 44, 3) := by decide +kernel
theorem dd_Md_keep_170 : decode prog_8_method_31_code 170 = .ok (.iload 6, 2) := by decide +kernel
theorem dd_Md_keep_172 : decode prog_8_method_31_code 172 = .ok (.iload 7, 2) := by decide +kernel
theorem dd_Md_keep_174 : decode prog_8_method_31_code 174 = .ok (.iastore, 1) := by decide +kernel
theorem dd_Md_keep_175 : decode prog_8_method_31_code 175 = .ok (.aload_n 0, 1) := by decide +kernel
theorem dd_Md_keep_176 : decode prog_8_method_31_code 176 = .ok (.getfield 47, 3) := by decide +kernel
theorem dd_Md_keep_179 : decode prog_8_method_31_code 179 = .ok (.iload 6, 2) := by decide +kernel
theorem dd_Md_keep_181 : decode prog_8_method_31_code 181 = .ok (.iconst 0, 1) := by decide +kernel
theorem dd_Md_keep_182 : decode prog_8_method_31_code 182 = .ok (.iastore, 1) := by decide +kernel
theorem dd_Md_keep_183 : decode prog_8_method_31_code 183 = .ok (.iconst 0, 1) := by decide +kernel
theorem dd_Md_keep_184 : decode prog_8_method_31_code 184 = .ok (.istore 8, 2) := by decide +kernel
theorem dd_Md_keep_186 : decode prog_8_method_31_code 186 = .ok (.iload 8, 2) := by decide +kernel
theorem dd_Md_keep_188 : decode prog_8_method_31_code 188 = .ok (.iload 7, 2) := by decide +kernel
theorem dd_Md_keep_190 : decode prog_8_method_31_code 190 = .ok (.if_icmp .ge 42, 3) := by decide +kernel
theorem dd_Md_keep_193 : decode prog_8_method_31_code 193 = .ok (.aload_n 0, 1) := by decide +kernel
theorem dd_Md_keep_194 : decode prog_8_method_31_code 194 = .ok (.getfield 38, 3) := by decide +kernel
theorem dd_Md_keep_197 : decode prog_8_method_31_code 197 = .ok (.aload_n 0, 1) := by decide +kernel
theorem dd_Md_keep_198 : decode prog_8_method_31_code 198 = .ok (.getfield 143, 3) := by decide +kernel
theorem dd_Md_keep_201 : decode prog_8_method_31_code 201 = .ok (.iload 8, 2) := by decide +kernel
theorem dd_Md_keep_203 : decode prog_8_method_31_code 203 = .ok (.iadd, 1) := by decide +kernel
theorem dd_Md_keep_204 : decode prog_8_method_31_code 204 = .ok (.aload_n 0, 1) := by decide +kernel
theorem dd_Md_keep_205 : decode prog_8_method_31_code 205 = .ok (.getfield 7, 3) := by decide +kernel
theorem dd_Md_keep_208 : decode prog_8_method_31_code 208 = .ok (.sipush 1500, 3) := by decide +kernel
theorem dd_Md_keep_211 : decode prog_8_method_31_code 211 = .ok (.iload_n 1, 1) := by decide +kernel
theorem dd_Md_keep_212 : decode prog_8_method_31_code 212 = .ok (.imul, 1) := by decide +kernel
theorem dd_Md_keep_213 : decode prog_8_method_31_code 213 = .ok (.aload_n 0, 1) := by decide +kernel
theorem dd_Md_keep_214 : decode prog_8_method_31_code 214 = .ok (.getfield 32, 3) := by decide +kernel
theorem dd_Md_keep_217 : decode prog_8_method_31_code 217 = .ok (.iload 5, 2) := by decide +kernel
theorem dd_Md_keep_219 : decode prog_8_method_31_code 219 = .ok (.iaload, 1) := by decide +kernel
theorem dd_Md_keep_220 : decode prog_8_method_31_code 220 = .ok (.iadd, 1) := by decide +kernel
theorem dd_Md_keep_221 : decode prog_8_method_31_code 221 = .ok (.iload 8, 2) := by decide +kernel
theorem dd_Md_keep_223 : decode prog_8_method_31_code 223 = .ok (.iadd, 1) := by decide +kernel
theorem dd_Md_keep_224 : decode prog_8_method_31_code 224 = .ok (.iaload, 1) := by decide +kernel
theorem dd_Md_keep_225 : decode prog_8_method_31_code 225 = .ok (.iastore, 1) := by decide +kernel
theorem dd_Md_keep_226 : decode prog_8_method_31_code 226 = .ok (.iinc 8 1, 3) := by decide +kernel
theorem dd_Md_keep_229 : decode prog_8_method_31_code 229 = .ok (.goto (-43), 3) := by decide +kernel
theorem dd_Md_keep_232 : decode prog_8_method_31_code 232 = .ok (.aload_n 0, 1) := by decide +kernel
theorem dd_Md_keep_233 : decode prog_8_method_31_code 233 = .ok (.dup, 1) := by decide +kernel
theorem dd_Md_keep_234 : decode prog_8_method_31_code 234 = .ok (.getfield 143, 3) := by decide +kernel
theorem dd_Md_keep_237 : decode prog_8_method_31_code 237 = .ok (.iload 7, 2) := by decide +kernel
theorem dd_Md_keep_239 : decode prog_8_method_31_code 239 = .ok (.iadd, 1) := by decide +kernel
theorem dd_Md_keep_240 : decode prog_8_method_31_code 240 = .ok (.putfield 143, 3) := by decide +kernel
theorem dd_Md_keep_243 : decode prog_8_method_31_code 243 = .ok (.aload_n 0, 1) := by decide +kernel
theorem dd_Md_keep_244 : decode prog_8_method_31_code 244 = .ok (.dup, 1) := by decide +kernel
theorem dd_Md_keep_245 : decode prog_8_method_31_code 245 = .ok (.getfield 140, 3) := by decide +kernel
theorem dd_Md_keep_248 : decode prog_8_method_31_code 248 = .ok (.iconst 1, 1) := by decide +kernel
theorem dd_Md_keep_249 : decode prog_8_method_31_code 249 = .ok (.iadd, 1) := by decide +kernel
theorem dd_Md_keep_250 : decode prog_8_method_31_code 250 = .ok (.putfield 140, 3) := by decide +kernel
theorem dd_Md_keep_253 : decode prog_8_method_31_code 253 = .ok (.aload_n 0, 1) := by decide +kernel
theorem dd_Md_keep_254 : decode prog_8_method_31_code 254 = .ok (.getfield 47, 3) := by decide +kernel
theorem dd_Md_keep_257 : decode prog_8_method_31_code 257 = .ok (.iload 6, 2) := by decide +kernel
theorem dd_Md_keep_259 : decode prog_8_method_31_code 259 = .ok (.dup2, 1) := by decide +kernel
theorem dd_Md_keep_260 : decode prog_8_method_31_code 260 = .ok (.iaload, 1) := by decide +kernel
theorem dd_Md_keep_261 : decode prog_8_method_31_code 261 = .ok (.iconst 1, 1) := by decide +kernel
theorem dd_Md_keep_262 : decode prog_8_method_31_code 262 = .ok (.iadd, 1) := by decide +kernel
theorem dd_Md_keep_263 : decode prog_8_method_31_code 263 = .ok (.iastore, 1) := by decide +kernel
theorem dd_Md_keep_264 : decode prog_8_method_31_code 264 = .ok (.aload_n 0, 1) := by decide +kernel
theorem dd_Md_keep_265 : decode prog_8_method_31_code 265 = .ok (.getfield 57, 3) := by decide +kernel
theorem dd_Md_keep_268 : decode prog_8_method_31_code 268 = .ok (.sipush 1500, 3) := by decide +kernel
theorem dd_Md_keep_271 : decode prog_8_method_31_code 271 = .ok (.iload_n 2, 1) := by decide +kernel
theorem dd_Md_keep_272 : decode prog_8_method_31_code 272 = .ok (.imul, 1) := by decide +kernel
theorem dd_Md_keep_273 : decode prog_8_method_31_code 273 = .ok (.iload 5, 2) := by decide +kernel
theorem dd_Md_keep_275 : decode prog_8_method_31_code 275 = .ok (.iadd, 1) := by decide +kernel
theorem dd_Md_keep_276 : decode prog_8_method_31_code 276 = .ok (.iload 6, 2) := by decide +kernel
theorem dd_Md_keep_278 : decode prog_8_method_31_code 278 = .ok (.iastore, 1) := by decide +kernel
theorem dd_Md_keep_279 : decode prog_8_method_31_code 279 = .ok (.iinc 5 1, 3) := by decide +kernel
theorem dd_Md_keep_282 : decode prog_8_method_31_code 282 = .ok (.goto (-209), 3) := by decide +kernel
theorem dd_Md_keep_285 : decode prog_8_method_31_code 285 = .ok (.aload_n 0, 1) := by decide +kernel
theorem dd_Md_keep_286 : decode prog_8_method_31_code 286 = .ok (.getfield 50, 3) := by decide +kernel
theorem dd_Md_keep_289 : decode prog_8_method_31_code 289 = .ok (.iload_n 2, 1) := by decide +kernel
theorem dd_Md_keep_290 : decode prog_8_method_31_code 290 = .ok (.iconst 1, 1) := by decide +kernel
theorem dd_Md_keep_291 : decode prog_8_method_31_code 291 = .ok (.bastore, 1) := by decide +kernel
theorem dd_Md_keep_292 : decode prog_8_method_31_code 292 = .ok (.aload_n 0, 1) := by decide +kernel
theorem dd_Md_keep_293 : decode prog_8_method_31_code 293 = .ok (.getfield 54, 3) := by decide +kernel
theorem dd_Md_keep_296 : decode prog_8_method_31_code 296 = .ok (.iload_n 2, 1) := by decide +kernel
theorem dd_Md_keep_297 : decode prog_8_method_31_code 297 = .ok (.aload_n 0, 1) := by decide +kernel
theorem dd_Md_keep_298 : decode prog_8_method_31_code 298 = .ok (.getfield 110, 3) := by decide +kernel
theorem dd_Md_keep_301 : decode prog_8_method_31_code 301 = .ok (.iastore, 1) := by decide +kernel
theorem dd_Md_keep_302 : decode prog_8_method_31_code 302 = .ok (.iload_n 2, 1) := by decide +kernel
theorem dd_Md_keep_303 : decode prog_8_method_31_code 303 = .ok (.ireturn, 1) := by decide +kernel
theorem dd_Md_find_0 : decode prog_8_method_30_code 0 = .ok (.aload_n 0, 1) := by decide +kernel
theorem dd_Md_find_1 : decode prog_8_method_30_code 1 = .ok (.getfield 32, 3) := by decide +kernel
theorem dd_Md_find_4 : decode prog_8_method_30_code 4 = .ok (.iload_n 2, 1) := by decide +kernel
theorem dd_Md_find_5 : decode prog_8_method_30_code 5 = .ok (.iconst 1, 1) := by decide +kernel
theorem dd_Md_find_6 : decode prog_8_method_30_code 6 = .ok (.iadd, 1) := by decide +kernel
theorem dd_Md_find_7 : decode prog_8_method_30_code 7 = .ok (.iaload, 1) := by decide +kernel
theorem dd_Md_find_8 : decode prog_8_method_30_code 8 = .ok (.aload_n 0, 1) := by decide +kernel
theorem dd_Md_find_9 : decode prog_8_method_30_code 9 = .ok (.getfield 32, 3) := by decide +kernel
theorem dd_Md_find_12 : decode prog_8_method_30_code 12 = .ok (.iload_n 2, 1) := by decide +kernel
theorem dd_Md_find_13 : decode prog_8_method_30_code 13 = .ok (.iaload, 1) := by decide +kernel
theorem dd_Md_find_14 : decode prog_8_method_30_code 14 = .ok (.isub, 1) := by decide +kernel
theorem dd_Md_find_15 : decode prog_8_method_30_code 15 = .ok (.istore_n 3, 1) := by decide +kernel
theorem dd_Md_find_16 : decode prog_8_method_30_code 16 = .ok (.iconst 0, 1) := by decide +kernel
theorem dd_Md_find_17 : decode prog_8_method_30_code 17 = .ok (.istore 4, 2) := by decide +kernel
theorem dd_Md_find_19 : decode prog_8_method_30_code 19 = .ok (.iload 4, 2) := by decide +kernel
theorem dd_Md_find_21 : decode prog_8_method_30_code 21 = .ok (.aload_n 0, 1) := by decide +kernel
theorem dd_Md_find_22 : decode prog_8_method_30_code 22 = .ok (.getfield 140, 3) := by decide +kernel
theorem dd_Md_find_25 : decode prog_8_method_30_code 25 = .ok (.if_icmp .ge 57, 3) := by decide +kernel
theorem dd_Md_find_28 : decode prog_8_method_30_code 28 = .ok (.aload_n 0, 1) := by decide +kernel
theorem dd_Md_find_29 : decode prog_8_method_30_code 29 = .ok (.getfield 44, 3) := by decide +kernel
theorem dd_Md_find_32 : decode prog_8_method_30_code 32 = .ok (.iload 4, 2) := by decide +kernel
theorem dd_Md_find_34 : decode prog_8_method_30_code 34 = .ok (.iaload, 1) := by decide +kernel
theorem dd_Md_find_35 : decode prog_8_method_30_code 35 = .ok (.iload_n 3, 1) := by decide +kernel
theorem dd_Md_find_36 : decode prog_8_method_30_code 36 = .ok (.if_icmp .ne 40, 3) := by decide +kernel
theorem dd_Md_find_39 : decode prog_8_method_30_code 39 = .ok (.aload_n 0, 1) := by decide +kernel
theorem dd_Md_find_40 : decode prog_8_method_30_code 40 = .ok (.getfield 38, 3) := by decide +kernel
theorem dd_Md_find_43 : decode prog_8_method_30_code 43 = .ok (.aload_n 0, 1) := by decide +kernel
theorem dd_Md_find_44 : decode prog_8_method_30_code 44 = .ok (.getfield 41, 3) := by decide +kernel
theorem dd_Md_find_47 : decode prog_8_method_30_code 47 = .ok (.iload 4, 2) := by decide +kernel
theorem dd_Md_find_49 : decode prog_8_method_30_code 49 = .ok (.iaload, 1) := by decide +kernel
theorem dd_Md_find_50 : decode prog_8_method_30_code 50 = .ok (.aload_n 0, 1) := by decide +kernel
theorem dd_Md_find_51 : decode prog_8_method_30_code 51 = .ok (.getfield 7, 3) := by decide +kernel
theorem dd_Md_find_54 : decode prog_8_method_30_code 54 = .ok (.sipush 1500, 3) := by decide +kernel
theorem dd_Md_find_57 : decode prog_8_method_30_code 57 = .ok (.iload_n 1, 1) := by decide +kernel
theorem dd_Md_find_58 : decode prog_8_method_30_code 58 = .ok (.imul, 1) := by decide +kernel
theorem dd_Md_find_59 : decode prog_8_method_30_code 59 = .ok (.aload_n 0, 1) := by decide +kernel
theorem dd_Md_find_60 : decode prog_8_method_30_code 60 = .ok (.getfield 32, 3) := by decide +kernel
theorem dd_Md_find_63 : decode prog_8_method_30_code 63 = .ok (.iload_n 2, 1) := by decide +kernel
theorem dd_Md_find_64 : decode prog_8_method_30_code 64 = .ok (.iaload, 1) := by decide +kernel
theorem dd_Md_find_65 : decode prog_8_method_30_code 65 = .ok (.iadd, 1) := by decide +kernel
theorem dd_Md_find_66 : decode prog_8_method_30_code 66 = .ok (.iload_n 3, 1) := by decide +kernel
theorem dd_Md_find_67 : decode prog_8_method_30_code 67 = .ok (.invokestatic 129, 3) := by decide +kernel
theorem dd_Md_find_70 : decode prog_8_method_30_code 70 = .ok (.ifCond .eq 6, 3) := by decide +kernel
theorem dd_Md_find_73 : decode prog_8_method_30_code 73 = .ok (.iload 4, 2) := by decide +kernel
theorem dd_Md_find_75 : decode prog_8_method_30_code 75 = .ok (.ireturn, 1) := by decide +kernel
theorem dd_Md_find_76 : decode prog_8_method_30_code 76 = .ok (.iinc 4 1, 3) := by decide +kernel
theorem dd_Md_find_79 : decode prog_8_method_30_code 79 = .ok (.goto (-60), 3) := by decide +kernel
theorem dd_Md_find_82 : decode prog_8_method_30_code 82 = .ok (.iconst (-1), 1) := by decide +kernel
theorem dd_Md_find_83 : decode prog_8_method_30_code 83 = .ok (.ireturn, 1) := by decide +kernel
theorem dd_Md_giveUp_0 : decode prog_8_method_32_code 0 = .ok (.iconst 0, 1) := by decide +kernel
theorem dd_Md_giveUp_1 : decode prog_8_method_32_code 1 = .ok (.istore 5, 2) := by decide +kernel
theorem dd_Md_giveUp_3 : decode prog_8_method_32_code 3 = .ok (.iload 5, 2) := by decide +kernel
theorem dd_Md_giveUp_5 : decode prog_8_method_32_code 5 = .ok (.iload_n 2, 1) := by decide +kernel
theorem dd_Md_giveUp_6 : decode prog_8_method_32_code 6 = .ok (.if_icmp .ge 31, 3) := by decide +kernel
theorem dd_Md_giveUp_9 : decode prog_8_method_32_code 9 = .ok (.aload_n 0, 1) := by decide +kernel
theorem dd_Md_giveUp_10 : decode prog_8_method_32_code 10 = .ok (.getfield 47, 3) := by decide +kernel
theorem dd_Md_giveUp_13 : decode prog_8_method_32_code 13 = .ok (.aload_n 0, 1) := by decide +kernel
theorem dd_Md_giveUp_14 : decode prog_8_method_32_code 14 = .ok (.getfield 57, 3) := by decide +kernel
theorem dd_Md_giveUp_17 : decode prog_8_method_32_code 17 = .ok (.sipush 1500, 3) := by decide +kernel
theorem dd_Md_giveUp_20 : decode prog_8_method_32_code 20 = .ok (.iload_n 1, 1) := by decide +kernel
theorem dd_Md_giveUp_21 : decode prog_8_method_32_code 21 = .ok (.imul, 1) := by decide +kernel
theorem dd_Md_giveUp_22 : decode prog_8_method_32_code 22 = .ok (.iload 5, 2) := by decide +kernel
theorem dd_Md_giveUp_24 : decode prog_8_method_32_code 24 = .ok (.iadd, 1) := by decide +kernel
theorem dd_Md_giveUp_25 : decode prog_8_method_32_code 25 = .ok (.iaload, 1) := by decide +kernel
theorem dd_Md_giveUp_26 : decode prog_8_method_32_code 26 = .ok (.dup2, 1) := by decide +kernel
theorem dd_Md_giveUp_27 : decode prog_8_method_32_code 27 = .ok (.iaload, 1) := by decide +kernel
theorem dd_Md_giveUp_28 : decode prog_8_method_32_code 28 = .ok (.iconst 1, 1) := by decide +kernel
theorem dd_Md_giveUp_29 : decode prog_8_method_32_code 29 = .ok (.isub, 1) := by decide +kernel
theorem dd_Md_giveUp_30 : decode prog_8_method_32_code 30 = .ok (.iastore, 1) := by decide +kernel
theorem dd_Md_giveUp_31 : decode prog_8_method_32_code 31 = .ok (.iinc 5 1, 3) := by decide +kernel
theorem dd_Md_giveUp_34 : decode prog_8_method_32_code 34 = .ok (.goto (-31), 3) := by decide +kernel
theorem dd_Md_giveUp_37 : decode prog_8_method_32_code 37 = .ok (.aload_n 0, 1) := by decide +kernel
theorem dd_Md_giveUp_38 : decode prog_8_method_32_code 38 = .ok (.iload_n 3, 1) := by decide +kernel
theorem dd_Md_giveUp_39 : decode prog_8_method_32_code 39 = .ok (.putfield 140, 3) := by decide +kernel
theorem dd_Md_giveUp_42 : decode prog_8_method_32_code 42 = .ok (.aload_n 0, 1) := by decide +kernel
theorem dd_Md_giveUp_43 : decode prog_8_method_32_code 43 = .ok (.iload 4, 2) := by decide +kernel
theorem dd_Md_giveUp_45 : decode prog_8_method_32_code 45 = .ok (.putfield 143, 3) := by decide +kernel
theorem dd_Md_giveUp_48 : decode prog_8_method_32_code 48 = .ok (.bipush (-2), 2) := by decide +kernel
theorem dd_Md_giveUp_50 : decode prog_8_method_32_code 50 = .ok (.ireturn, 1) := by decide +kernel
theorem dd_Md_drop_0 : decode prog_8_method_34_code 0 = .ok (.aload_n 0, 1) := by decide +kernel
theorem dd_Md_drop_1 : decode prog_8_method_34_code 1 = .ok (.iconst 0, 1) := by decide +kernel
theorem dd_Md_drop_2 : decode prog_8_method_34_code 2 = .ok (.putfield 67, 3) := by decide +kernel
theorem dd_Md_drop_5 : decode prog_8_method_34_code 5 = .ok (.aload_n 0, 1) := by decide +kernel
theorem dd_Md_drop_6 : decode prog_8_method_34_code 6 = .ok (.iload_n 1, 1) := by decide +kernel
theorem dd_Md_drop_7 : decode prog_8_method_34_code 7 = .ok (.invokevirtual 152, 3) := by decide +kernel
theorem dd_Md_drop_10 : decode prog_8_method_34_code 10 = .ok (.ifCond .ne 5, 3) := by decide +kernel
theorem dd_Md_drop_13 : decode prog_8_method_34_code 13 = .ok (.iconst (-1), 1) := by decide +kernel
theorem dd_Md_drop_14 : decode prog_8_method_34_code 14 = .ok (.ireturn, 1) := by decide +kernel
theorem dd_Md_drop_15 : decode prog_8_method_34_code 15 = .ok (.aload_n 0, 1) := by decide +kernel
theorem dd_Md_drop_16 : decode prog_8_method_34_code 16 = .ok (.getfield 50, 3) := by decide +kernel
theorem dd_Md_drop_19 : decode prog_8_method_34_code 19 = .ok (.iload_n 1, 1) := by decide +kernel
theorem dd_Md_drop_20 : decode prog_8_method_34_code 20 = .ok (.iconst 0, 1) := by decide +kernel
theorem dd_Md_drop_21 : decode prog_8_method_34_code 21 = .ok (.bastore, 1) := by decide +kernel
theorem dd_Md_drop_22 : decode prog_8_method_34_code 22 = .ok (.iconst 0, 1) := by decide +kernel
theorem dd_Md_drop_23 : decode prog_8_method_34_code 23 = .ok (.istore_n 2, 1) := by decide +kernel
theorem dd_Md_drop_24 : decode prog_8_method_34_code 24 = .ok (.iload_n 2, 1) := by decide +kernel
theorem dd_Md_drop_25 : decode prog_8_method_34_code 25 = .ok (.aload_n 0, 1) := by decide +kernel
theorem dd_Md_drop_26 : decode prog_8_method_34_code 26 = .ok (.getfield 54, 3) := by decide +kernel
theorem dd_Md_drop_29 : decode prog_8_method_34_code 29 = .ok (.iload_n 1, 1) := by decide +kernel
theorem dd_Md_drop_30 : decode prog_8_method_34_code 30 = .ok (.iaload, 1) := by decide +kernel
theorem dd_Md_drop_31 : decode prog_8_method_34_code 31 = .ok (.if_icmp .ge 30, 3) := by decide +kernel
theorem dd_Md_drop_34 : decode prog_8_method_34_code 34 = .ok (.aload_n 0, 1) := by decide +kernel
theorem dd_Md_drop_35 : decode prog_8_method_34_code 35 = .ok (.getfield 47, 3) := by decide +kernel
theorem dd_Md_drop_38 : decode prog_8_method_34_code 38 = .ok (.aload_n 0, 1) := by decide +kernel
theorem dd_Md_drop_39 : decode prog_8_method_34_code 39 = .ok (.getfield 57, 3) := by decide +kernel
theorem dd_Md_drop_42 : decode prog_8_method_34_code 42 = .ok (.sipush 1500, 3) := by decide +kernel
theorem dd_Md_drop_45 : decode prog_8_method_34_code 45 = .ok (.iload_n 1, 1) := by decide +kernel
theorem dd_Md_drop_46 : decode prog_8_method_34_code 46 = .ok (.imul, 1) := by decide +kernel
theorem dd_Md_drop_47 : decode prog_8_method_34_code 47 = .ok (.iload_n 2, 1) := by decide +kernel
theorem dd_Md_drop_48 : decode prog_8_method_34_code 48 = .ok (.iadd, 1) := by decide +kernel
theorem dd_Md_drop_49 : decode prog_8_method_34_code 49 = .ok (.iaload, 1) := by decide +kernel
theorem dd_Md_drop_50 : decode prog_8_method_34_code 50 = .ok (.dup2, 1) := by decide +kernel
theorem dd_Md_drop_51 : decode prog_8_method_34_code 51 = .ok (.iaload, 1) := by decide +kernel
theorem dd_Md_drop_52 : decode prog_8_method_34_code 52 = .ok (.iconst 1, 1) := by decide +kernel
theorem dd_Md_drop_53 : decode prog_8_method_34_code 53 = .ok (.isub, 1) := by decide +kernel
theorem dd_Md_drop_54 : decode prog_8_method_34_code 54 = .ok (.iastore, 1) := by decide +kernel
theorem dd_Md_drop_55 : decode prog_8_method_34_code 55 = .ok (.iinc 2 1, 3) := by decide +kernel
theorem dd_Md_drop_58 : decode prog_8_method_34_code 58 = .ok (.goto (-34), 3) := by decide +kernel
theorem dd_Md_drop_61 : decode prog_8_method_34_code 61 = .ok (.aload_n 0, 1) := by decide +kernel
theorem dd_Md_drop_62 : decode prog_8_method_34_code 62 = .ok (.getfield 143, 3) := by decide +kernel
theorem dd_Md_drop_65 : decode prog_8_method_34_code 65 = .ok (.istore_n 2, 1) := by decide +kernel
theorem dd_Md_drop_66 : decode prog_8_method_34_code 66 = .ok (.aload_n 0, 1) := by decide +kernel
theorem dd_Md_drop_67 : decode prog_8_method_34_code 67 = .ok (.getfield 140, 3) := by decide +kernel
theorem dd_Md_drop_70 : decode prog_8_method_34_code 70 = .ok (.iconst 1, 1) := by decide +kernel
theorem dd_Md_drop_71 : decode prog_8_method_34_code 71 = .ok (.isub, 1) := by decide +kernel
theorem dd_Md_drop_72 : decode prog_8_method_34_code 72 = .ok (.istore_n 3, 1) := by decide +kernel
theorem dd_Md_drop_73 : decode prog_8_method_34_code 73 = .ok (.iload_n 3, 1) := by decide +kernel
theorem dd_Md_drop_74 : decode prog_8_method_34_code 74 = .ok (.ifCond .lt 23, 3) := by decide +kernel
theorem dd_Md_drop_77 : decode prog_8_method_34_code 77 = .ok (.aload_n 0, 1) := by decide +kernel
theorem dd_Md_drop_78 : decode prog_8_method_34_code 78 = .ok (.getfield 47, 3) := by decide +kernel
theorem dd_Md_drop_81 : decode prog_8_method_34_code 81 = .ok (.iload_n 3, 1) := by decide +kernel
theorem dd_Md_drop_82 : decode prog_8_method_34_code 82 = .ok (.iaload, 1) := by decide +kernel
theorem dd_Md_drop_83 : decode prog_8_method_34_code 83 = .ok (.ifCond .ne 8, 3) := by decide +kernel
theorem dd_Md_drop_86 : decode prog_8_method_34_code 86 = .ok (.aload_n 0, 1) := by decide +kernel
theorem dd_Md_drop_87 : decode prog_8_method_34_code 87 = .ok (.iload_n 3, 1) := by decide +kernel
theorem dd_Md_drop_88 : decode prog_8_method_34_code 88 = .ok (.invokevirtual 155, 3) := by decide +kernel
theorem dd_Md_drop_91 : decode prog_8_method_34_code 91 = .ok (.iinc 3 (-1), 3) := by decide +kernel
theorem dd_Md_drop_94 : decode prog_8_method_34_code 94 = .ok (.goto (-21), 3) := by decide +kernel
theorem dd_Md_drop_97 : decode prog_8_method_34_code 97 = .ok (.iload_n 2, 1) := by decide +kernel
theorem dd_Md_drop_98 : decode prog_8_method_34_code 98 = .ok (.aload_n 0, 1) := by decide +kernel
theorem dd_Md_drop_99 : decode prog_8_method_34_code 99 = .ok (.getfield 143, 3) := by decide +kernel
theorem dd_Md_drop_102 : decode prog_8_method_34_code 102 = .ok (.isub, 1) := by decide +kernel
theorem dd_Md_drop_103 : decode prog_8_method_34_code 103 = .ok (.ireturn, 1) := by decide +kernel
theorem dd_Md_isSnapshot_0 : decode prog_8_method_33_code 0 = .ok (.iload_n 1, 1) := by decide +kernel
theorem dd_Md_isSnapshot_1 : decode prog_8_method_33_code 1 = .ok (.iconst 0, 1) := by decide +kernel
theorem dd_Md_isSnapshot_2 : decode prog_8_method_33_code 2 = .ok (.bipush 9, 2) := by decide +kernel
theorem dd_Md_isSnapshot_4 : decode prog_8_method_33_code 4 = .ok (.invokestatic 72, 3) := by decide +kernel
theorem dd_Md_isSnapshot_7 : decode prog_8_method_33_code 7 = .ok (.ifCond .eq 16, 3) := by decide +kernel
theorem dd_Md_isSnapshot_10 : decode prog_8_method_33_code 10 = .ok (.aload_n 0, 1) := by decide +kernel
theorem dd_Md_isSnapshot_11 : decode prog_8_method_33_code 11 = .ok (.getfield 50, 3) := by decide +kernel
theorem dd_Md_isSnapshot_14 : decode prog_8_method_33_code 14 = .ok (.iload_n 1, 1) := by decide +kernel
theorem dd_Md_isSnapshot_15 : decode prog_8_method_33_code 15 = .ok (.baload, 1) := by decide +kernel
theorem dd_Md_isSnapshot_16 : decode prog_8_method_33_code 16 = .ok (.ifCond .eq 7, 3) := by decide +kernel
theorem dd_Md_isSnapshot_19 : decode prog_8_method_33_code 19 = .ok (.iconst 1, 1) := by decide +kernel
theorem dd_Md_isSnapshot_20 : decode prog_8_method_33_code 20 = .ok (.goto 4, 3) := by decide +kernel
theorem dd_Md_isSnapshot_23 : decode prog_8_method_33_code 23 = .ok (.iconst 0, 1) := by decide +kernel
theorem dd_Md_isSnapshot_24 : decode prog_8_method_33_code 24 = .ok (.ireturn, 1) := by decide +kernel
theorem dd_Md_takeOut_0 : decode prog_8_method_35_code 0 = .ok (.aload_n 0, 1) := by decide +kernel
theorem dd_Md_takeOut_1 : decode prog_8_method_35_code 1 = .ok (.getfield 44, 3) := by decide +kernel
theorem dd_Md_takeOut_4 : decode prog_8_method_35_code 4 = .ok (.iload_n 1, 1) := by decide +kernel
theorem dd_Md_takeOut_5 : decode prog_8_method_35_code 5 = .ok (.iaload, 1) := by decide +kernel
theorem dd_Md_takeOut_6 : decode prog_8_method_35_code 6 = .ok (.istore_n 2, 1) := by decide +kernel
theorem dd_Md_takeOut_7 : decode prog_8_method_35_code 7 = .ok (.aload_n 0, 1) := by decide +kernel
theorem dd_Md_takeOut_8 : decode prog_8_method_35_code 8 = .ok (.getfield 41, 3) := by decide +kernel
theorem dd_Md_takeOut_11 : decode prog_8_method_35_code 11 = .ok (.iload_n 1, 1) := by decide +kernel
theorem dd_Md_takeOut_12 : decode prog_8_method_35_code 12 = .ok (.iaload, 1) := by decide +kernel
theorem dd_Md_takeOut_13 : decode prog_8_method_35_code 13 = .ok (.istore_n 3, 1) := by decide +kernel
theorem dd_Md_takeOut_14 : decode prog_8_method_35_code 14 = .ok (.iload_n 3, 1) := by decide +kernel
theorem dd_Md_takeOut_15 : decode prog_8_method_35_code 15 = .ok (.iload_n 2, 1) := by decide +kernel
theorem dd_Md_takeOut_16 : decode prog_8_method_35_code 16 = .ok (.iadd, 1) := by decide +kernel
theorem dd_Md_takeOut_17 : decode prog_8_method_35_code 17 = .ok (.aload_n 0, 1) := by decide +kernel
theorem dd_Md_takeOut_18 : decode prog_8_method_35_code 18 = .ok (.getfield 143, 3) := by decide +kernel
theorem dd_Md_takeOut_21 : decode prog_8_method_35_code 21 = .ok (.if_icmp .ge 23, 3) := by decide +kernel
theorem dd_Md_takeOut_24 : decode prog_8_method_35_code 24 = .ok (.aload_n 0, 1) := by decide +kernel
theorem dd_Md_takeOut_25 : decode prog_8_method_35_code 25 = .ok (.getfield 38, 3) := by decide +kernel
theorem dd_Md_takeOut_28 : decode prog_8_method_35_code 28 = .ok (.iload_n 3, 1) := by decide +kernel
theorem dd_Md_takeOut_29 : decode prog_8_method_35_code 29 = .ok (.aload_n 0, 1) := by decide +kernel
theorem dd_Md_takeOut_30 : decode prog_8_method_35_code 30 = .ok (.getfield 38, 3) := by decide +kernel
theorem dd_Md_takeOut_33 : decode prog_8_method_35_code 33 = .ok (.iload_n 3, 1) := by decide +kernel
theorem dd_Md_takeOut_34 : decode prog_8_method_35_code 34 = .ok (.iload_n 2, 1) := by decide +kernel
theorem dd_Md_takeOut_35 : decode prog_8_method_35_code 35 = .ok (.iadd, 1) := by decide +kernel
theorem dd_Md_takeOut_36 : decode prog_8_method_35_code 36 = .ok (.iaload, 1) := by decide +kernel
theorem dd_Md_takeOut_37 : decode prog_8_method_35_code 37 = .ok (.iastore, 1) := by decide +kernel
theorem dd_Md_takeOut_38 : decode prog_8_method_35_code 38 = .ok (.iinc 3 1, 3) := by decide +kernel
theorem dd_Md_takeOut_41 : decode prog_8_method_35_code 41 = .ok (.goto (-27), 3) := by decide +kernel
theorem dd_Md_takeOut_44 : decode prog_8_method_35_code 44 = .ok (.aload_n 0, 1) := by decide +kernel
theorem dd_Md_takeOut_45 : decode prog_8_method_35_code 45 = .ok (.dup, 1) := by decide +kernel
theorem dd_Md_takeOut_46 : decode prog_8_method_35_code 46 = .ok (.getfield 143, 3) := by decide +kernel
theorem dd_Md_takeOut_49 : decode prog_8_method_35_code 49 = .ok (.iload_n 2, 1) := by decide +kernel
theorem dd_Md_takeOut_50 : decode prog_8_method_35_code 50 = .ok (.isub, 1) := by decide +kernel
theorem dd_Md_takeOut_51 : decode prog_8_method_35_code 51 = .ok (.putfield 143, 3) := by decide +kernel
theorem dd_Md_takeOut_54 : decode prog_8_method_35_code 54 = .ok (.aload_n 0, 1) := by decide +kernel
theorem dd_Md_takeOut_55 : decode prog_8_method_35_code 55 = .ok (.dup, 1) := by decide +kernel
theorem dd_Md_takeOut_56 : decode prog_8_method_35_code 56 = .ok (.getfield 140, 3) := by decide +kernel
theorem dd_Md_takeOut_59 : decode prog_8_method_35_code 59 = .ok (.iconst 1, 1) := by decide +kernel
theorem dd_Md_takeOut_60 : decode prog_8_method_35_code 60 = .ok (.isub, 1) := by decide +kernel
theorem dd_Md_takeOut_61 : decode prog_8_method_35_code 61 = .ok (.putfield 140, 3) := by decide +kernel
theorem dd_Md_takeOut_64 : decode prog_8_method_35_code 64 = .ok (.iload_n 1, 1) := by decide +kernel
theorem dd_Md_takeOut_65 : decode prog_8_method_35_code 65 = .ok (.istore_n 3, 1) := by decide +kernel
theorem dd_Md_takeOut_66 : decode prog_8_method_35_code 66 = .ok (.iload_n 3, 1) := by decide +kernel
theorem dd_Md_takeOut_67 : decode prog_8_method_35_code 67 = .ok (.aload_n 0, 1) := by decide +kernel
theorem dd_Md_takeOut_68 : decode prog_8_method_35_code 68 = .ok (.getfield 140, 3) := by decide +kernel
theorem dd_Md_takeOut_71 : decode prog_8_method_35_code 71 = .ok (.if_icmp .ge 53, 3) := by decide +kernel
theorem dd_Md_takeOut_74 : decode prog_8_method_35_code 74 = .ok (.aload_n 0, 1) := by decide +kernel
theorem dd_Md_takeOut_75 : decode prog_8_method_35_code 75 = .ok (.getfield 41, 3) := by decide +kernel
theorem dd_Md_takeOut_78 : decode prog_8_method_35_code 78 = .ok (.iload_n 3, 1) := by decide +kernel
theorem dd_Md_takeOut_79 : decode prog_8_method_35_code 79 = .ok (.aload_n 0, 1) := by decide +kernel
theorem dd_Md_takeOut_80 : decode prog_8_method_35_code 80 = .ok (.getfield 41, 3) := by decide +kernel
theorem dd_Md_takeOut_83 : decode prog_8_method_35_code 83 = .ok (.iload_n 3, 1) := by decide +kernel
theorem dd_Md_takeOut_84 : decode prog_8_method_35_code 84 = .ok (.iconst 1, 1) := by decide +kernel
theorem dd_Md_takeOut_85 : decode prog_8_method_35_code 85 = .ok (.iadd, 1) := by decide +kernel
theorem dd_Md_takeOut_86 : decode prog_8_method_35_code 86 = .ok (.iaload, 1) := by decide +kernel
theorem dd_Md_takeOut_87 : decode prog_8_method_35_code 87 = .ok (.iload_n 2, 1) := by decide +kernel
theorem dd_Md_takeOut_88 : decode prog_8_method_35_code 88 = .ok (.isub, 1) := by decide +kernel
theorem dd_Md_takeOut_89 : decode prog_8_method_35_code 89 = .ok (.iastore, 1) := by decide +kernel
theorem dd_Md_takeOut_90 : decode prog_8_method_35_code 90 = .ok (.aload_n 0, 1) := by decide +kernel
theorem dd_Md_takeOut_91 : decode prog_8_method_35_code 91 = .ok (.getfield 44, 3) := by decide +kernel
theorem dd_Md_takeOut_94 : decode prog_8_method_35_code 94 = .ok (.iload_n 3, 1) := by decide +kernel
theorem dd_Md_takeOut_95 : decode prog_8_method_35_code 95 = .ok (.aload_n 0, 1) := by decide +kernel
theorem dd_Md_takeOut_96 : decode prog_8_method_35_code 96 = .ok (.getfield 44, 3) := by decide +kernel
theorem dd_Md_takeOut_99 : decode prog_8_method_35_code 99 = .ok (.iload_n 3, 1) := by decide +kernel
theorem dd_Md_takeOut_100 : decode prog_8_method_35_code 100 = .ok (.iconst 1, 1) := by decide +kernel
theorem dd_Md_takeOut_101 : decode prog_8_method_35_code 101 = .ok (.iadd, 1) := by decide +kernel
theorem dd_Md_takeOut_102 : decode prog_8_method_35_code 102 = .ok (.iaload, 1) := by decide +kernel
theorem dd_Md_takeOut_103 : decode prog_8_method_35_code 103 = .ok (.iastore, 1) := by decide +kernel
theorem dd_Md_takeOut_104 : decode prog_8_method_35_code 104 = .ok (.aload_n 0, 1) := by decide +kernel
theorem dd_Md_takeOut_105 : decode prog_8_method_35_code 105 = .ok (.getfield 47, 3) := by decide +kernel
theorem dd_Md_takeOut_108 : decode prog_8_method_35_code 108 = .ok (.iload_n 3, 1) := by decide +kernel
theorem dd_Md_takeOut_109 : decode prog_8_method_35_code 109 = .ok (.aload_n 0, 1) := by decide +kernel
theorem dd_Md_takeOut_110 : decode prog_8_method_35_code 110 = .ok (.getfield 47, 3) := by decide +kernel
theorem dd_Md_takeOut_113 : decode prog_8_method_35_code 113 = .ok (.iload_n 3, 1) := by decide +kernel
theorem dd_Md_takeOut_114 : decode prog_8_method_35_code 114 = .ok (.iconst 1, 1) := by decide +kernel
theorem dd_Md_takeOut_115 : decode prog_8_method_35_code 115 = .ok (.iadd, 1) := by decide +kernel
theorem dd_Md_takeOut_116 : decode prog_8_method_35_code 116 = .ok (.iaload, 1) := by decide +kernel
theorem dd_Md_takeOut_117 : decode prog_8_method_35_code 117 = .ok (.iastore, 1) := by decide +kernel
theorem dd_Md_takeOut_118 : decode prog_8_method_35_code 118 = .ok (.iinc 3 1, 3) := by decide +kernel
theorem dd_Md_takeOut_121 : decode prog_8_method_35_code 121 = .ok (.goto (-55), 3) := by decide +kernel
theorem dd_Md_takeOut_124 : decode prog_8_method_35_code 124 = .ok (.iconst 0, 1) := by decide +kernel
theorem dd_Md_takeOut_125 : decode prog_8_method_35_code 125 = .ok (.istore_n 3, 1) := by decide +kernel
theorem dd_Md_takeOut_126 : decode prog_8_method_35_code 126 = .ok (.iload_n 3, 1) := by decide +kernel
theorem dd_Md_takeOut_127 : decode prog_8_method_35_code 127 = .ok (.bipush 10, 2) := by decide +kernel
theorem dd_Md_takeOut_129 : decode prog_8_method_35_code 129 = .ok (.if_icmp .ge 76, 3) := by decide +kernel
theorem dd_Md_takeOut_132 : decode prog_8_method_35_code 132 = .ok (.iconst 0, 1) := by decide +kernel
theorem dd_Md_takeOut_133 : decode prog_8_method_35_code 133 = .ok (.istore 4, 2) := by decide +kernel
theorem dd_Md_takeOut_135 : decode prog_8_method_35_code 135 = .ok (.iload 4, 2) := by decide +kernel
theorem dd_Md_takeOut_137 : decode prog_8_method_35_code 137 = .ok (.aload_n 0, 1) := by decide +kernel
theorem dd_Md_takeOut_138 : decode prog_8_method_35_code 138 = .ok (.getfield 54, 3) := by decide +kernel
theorem dd_Md_takeOut_141 : decode prog_8_method_35_code 141 = .ok (.iload_n 3, 1) := by decide +kernel
theorem dd_Md_takeOut_142 : decode prog_8_method_35_code 142 = .ok (.iaload, 1) := by decide +kernel
theorem dd_Md_takeOut_143 : decode prog_8_method_35_code 143 = .ok (.if_icmp .ge 56, 3) := by decide +kernel
theorem dd_Md_takeOut_146 : decode prog_8_method_35_code 146 = .ok (.aload_n 0, 1) := by decide +kernel
theorem dd_Md_takeOut_147 : decode prog_8_method_35_code 147 = .ok (.getfield 50, 3) := by decide +kernel
theorem dd_Md_takeOut_150 : decode prog_8_method_35_code 150 = .ok (.iload_n 3, 1) := by decide +kernel
theorem dd_Md_takeOut_151 : decode prog_8_method_35_code 151 = .ok (.baload, 1) := by decide +kernel
theorem dd_Md_takeOut_152 : decode prog_8_method_35_code 152 = .ok (.ifCond .eq 47, 3) := by decide +kernel
theorem dd_Md_takeOut_155 : decode prog_8_method_35_code 155 = .ok (.aload_n 0, 1) := by decide +kernel
theorem dd_Md_takeOut_156 : decode prog_8_method_35_code 156 = .ok (.getfield 57, 3) := by decide +kernel
theorem dd_Md_takeOut_159 : decode prog_8_method_35_code 159 = .ok (.sipush 1500, 3) := by decide +kernel
theorem dd_Md_takeOut_162 : decode prog_8_method_35_code 162 = .ok (.iload_n 3, 1) := by decide +kernel
theorem dd_Md_takeOut_163 : decode prog_8_method_35_code 163 = .ok (.imul, 1) := by decide +kernel
theorem dd_Md_takeOut_164 : decode prog_8_method_35_code 164 = .ok (.iload 4, 2) := by decide +kernel
theorem dd_Md_takeOut_166 : decode prog_8_method_35_code 166 = .ok (.iadd, 1) := by decide +kernel
theorem dd_Md_takeOut_167 : decode prog_8_method_35_code 167 = .ok (.dup2, 1) := by decide +kernel
theorem dd_Md_takeOut_168 : decode prog_8_method_35_code 168 = .ok (.iaload, 1) := by decide +kernel
theorem dd_Md_takeOut_169 : decode prog_8_method_35_code 169 = .ok (.aload_n 0, 1) := by decide +kernel
theorem dd_Md_takeOut_170 : decode prog_8_method_35_code 170 = .ok (.getfield 57, 3) := by decide +kernel
theorem dd_Md_takeOut_173 : decode prog_8_method_35_code 173 = .ok (.sipush 1500, 3) := by decide +kernel
theorem dd_Md_takeOut_176 : decode prog_8_method_35_code 176 = .ok (.iload_n 3, 1) := by decide +kernel
theorem dd_Md_takeOut_177 : decode prog_8_method_35_code 177 = .ok (.imul, 1) := by decide +kernel
theorem dd_Md_takeOut_178 : decode prog_8_method_35_code 178 = .ok (.iload 4, 2) := by decide +kernel
theorem dd_Md_takeOut_180 : decode prog_8_method_35_code 180 = .ok (.iadd, 1) := by decide +kernel
theorem dd_Md_takeOut_181 : decode prog_8_method_35_code 181 = .ok (.iaload, 1) := by decide +kernel
theorem dd_Md_takeOut_182 : decode prog_8_method_35_code 182 = .ok (.iload_n 1, 1) := by decide +kernel
theorem dd_Md_takeOut_183 : decode prog_8_method_35_code 183 = .ok (.if_icmp .le 7, 3) := by decide +kernel
theorem dd_Md_takeOut_186 : decode prog_8_method_35_code 186 = .ok (.iconst 1, 1) := by decide +kernel
theorem dd_Md_takeOut_187 : decode prog_8_method_35_code 187 = .ok (.goto 4, 3) := by decide +kernel
theorem dd_Md_takeOut_190 : decode prog_8_method_35_code 190 = .ok (.iconst 0, 1) := by decide +kernel
theorem dd_Md_takeOut_191 : decode prog_8_method_35_code 191 = .ok (.isub, 1) := by decide +kernel
theorem dd_Md_takeOut_192 : decode prog_8_method_35_code 192 = .ok (.iastore, 1) := by decide +kernel
theorem dd_Md_takeOut_193 : decode prog_8_method_35_code 193 = .ok (.iinc 4 1, 3) := by decide +kernel
theorem dd_Md_takeOut_196 : decode prog_8_method_35_code 196 = .ok (.goto (-61), 3) := by decide +kernel
theorem dd_Md_takeOut_199 : decode prog_8_method_35_code 199 = .ok (.iinc 3 1, 3) := by decide +kernel
theorem dd_Md_takeOut_202 : decode prog_8_method_35_code 202 = .ok (.goto (-76), 3) := by decide +kernel
theorem dd_Md_takeOut_205 : decode prog_8_method_35_code 205 = .ok (.return_, 1) := by decide +kernel
theorem dd_Md_restore_0 : decode prog_8_method_36_code 0 = .ok (.aload_n 0, 1) := by decide +kernel
theorem dd_Md_restore_1 : decode prog_8_method_36_code 1 = .ok (.iconst 0, 1) := by decide +kernel
theorem dd_Md_restore_2 : decode prog_8_method_36_code 2 = .ok (.putfield 67, 3) := by decide +kernel
theorem dd_Md_restore_5 : decode prog_8_method_36_code 5 = .ok (.aload_n 0, 1) := by decide +kernel
theorem dd_Md_restore_6 : decode prog_8_method_36_code 6 = .ok (.iload_n 1, 1) := by decide +kernel
theorem dd_Md_restore_7 : decode prog_8_method_36_code 7 = .ok (.invokevirtual 152, 3) := by decide +kernel
theorem dd_Md_restore_10 : decode prog_8_method_36_code 10 = .ok (.ifCond .eq 10, 3) := by decide +kernel
theorem dd_Md_restore_13 : decode prog_8_method_36_code 13 = .ok (.iload_n 2, 1) := by decide +kernel
theorem dd_Md_restore_14 : decode prog_8_method_36_code 14 = .ok (.invokestatic 82, 3) := by decide +kernel
theorem dd_Md_restore_17 : decode prog_8_method_36_code 17 = .ok (.ifCond .ne 5, 3) := by decide +kernel
theorem dd_Md_restore_20 : decode prog_8_method_36_code 20 = .ok (.iconst (-1), 1) := by decide +kernel
theorem dd_Md_restore_21 : decode prog_8_method_36_code 21 = .ok (.ireturn, 1) := by decide +kernel
theorem dd_Md_restore_22 : decode prog_8_method_36_code 22 = .ok (.aload_n 0, 1) := by decide +kernel
theorem dd_Md_restore_23 : decode prog_8_method_36_code 23 = .ok (.getfield 13, 3) := by decide +kernel
theorem dd_Md_restore_26 : decode prog_8_method_36_code 26 = .ok (.iload_n 2, 1) := by decide +kernel
theorem dd_Md_restore_27 : decode prog_8_method_36_code 27 = .ok (.iconst 0, 1) := by decide +kernel
theorem dd_Md_restore_28 : decode prog_8_method_36_code 28 = .ok (.iastore, 1) := by decide +kernel
theorem dd_Md_restore_29 : decode prog_8_method_36_code 29 = .ok (.iconst 0, 1) := by decide +kernel
theorem dd_Md_restore_30 : decode prog_8_method_36_code 30 = .ok (.istore_n 3, 1) := by decide +kernel
theorem dd_Md_restore_31 : decode prog_8_method_36_code 31 = .ok (.iload_n 3, 1) := by decide +kernel
theorem dd_Md_restore_32 : decode prog_8_method_36_code 32 = .ok (.aload_n 0, 1) := by decide +kernel
theorem dd_Md_restore_33 : decode prog_8_method_36_code 33 = .ok (.getfield 54, 3) := by decide +kernel
theorem dd_Md_restore_36 : decode prog_8_method_36_code 36 = .ok (.iload_n 1, 1) := by decide +kernel
theorem dd_Md_restore_37 : decode prog_8_method_36_code 37 = .ok (.iaload, 1) := by decide +kernel
theorem dd_Md_restore_38 : decode prog_8_method_36_code 38 = .ok (.if_icmp .ge 86, 3) := by decide +kernel
theorem dd_Md_restore_41 : decode prog_8_method_36_code 41 = .ok (.aload_n 0, 1) := by decide +kernel
theorem dd_Md_restore_42 : decode prog_8_method_36_code 42 = .ok (.getfield 57, 3) := by decide +kernel
theorem dd_Md_restore_45 : decode prog_8_method_36_code 45 = .ok (.sipush 1500, 3) := by decide +kernel
theorem dd_Md_restore_48 : decode prog_8_method_36_code 48 = .ok (.iload_n 1, 1) := by decide +kernel
theorem dd_Md_restore_49 : decode prog_8_method_36_code 49 = .ok (.imul, 1) := by decide +kernel
theorem dd_Md_restore_50 : decode prog_8_method_36_code 50 = .ok (.iload_n 3, 1) := by decide +kernel
theorem dd_Md_restore_51 : decode prog_8_method_36_code 51 = .ok (.iadd, 1) := by decide +kernel
theorem dd_Md_restore_52 : decode prog_8_method_36_code 52 = .ok (.iaload, 1) := by decide +kernel
theorem dd_Md_restore_53 : decode prog_8_method_36_code 53 = .ok (.istore 4, 2) := by decide +kernel
theorem dd_Md_restore_55 : decode prog_8_method_36_code 55 = .ok (.iconst 0, 1) := by decide +kernel
theorem dd_Md_restore_56 : decode prog_8_method_36_code 56 = .ok (.istore 5, 2) := by decide +kernel
theorem dd_Md_restore_58 : decode prog_8_method_36_code 58 = .ok (.iload 5, 2) := by decide +kernel
theorem dd_Md_restore_60 : decode prog_8_method_36_code 60 = .ok (.aload_n 0, 1) := by decide +kernel
theorem dd_Md_restore_61 : decode prog_8_method_36_code 61 = .ok (.getfield 44, 3) := by decide +kernel
theorem dd_Md_restore_64 : decode prog_8_method_36_code 64 = .ok (.iload 4, 2) := by decide +kernel
theorem dd_Md_restore_66 : decode prog_8_method_36_code 66 = .ok (.iaload, 1) := by decide +kernel
theorem dd_Md_restore_67 : decode prog_8_method_36_code 67 = .ok (.if_icmp .ge 51, 3) := by decide +kernel
theorem dd_Md_restore_70 : decode prog_8_method_36_code 70 = .ok (.aload_n 0, 1) := by decide +kernel
theorem dd_Md_restore_71 : decode prog_8_method_36_code 71 = .ok (.getfield 7, 3) := by decide +kernel
theorem dd_Md_restore_74 : decode prog_8_method_36_code 74 = .ok (.sipush 1500, 3) := by decide +kernel
theorem dd_Md_restore_77 : decode prog_8_method_36_code 77 = .ok (.iload_n 2, 1) := by decide +kernel
theorem dd_Md_restore_78 : decode prog_8_method_36_code 78 = .ok (.imul, 1) := by decide +kernel
theorem dd_Md_restore_79 : decode prog_8_method_36_code 79 = .ok (.aload_n 0, 1) := by decide +kernel
theorem dd_Md_restore_80 : decode prog_8_method_36_code 80 = .ok (.getfield 13, 3) := by decide +kernel
theorem dd_Md_restore_83 : decode prog_8_method_36_code 83 = .ok (.iload_n 2, 1) := by decide +kernel
theorem dd_Md_restore_84 : decode prog_8_method_36_code 84 = .ok (.iaload, 1) := by decide +kernel
theorem dd_Md_restore_85 : decode prog_8_method_36_code 85 = .ok (.iadd, 1) := by decide +kernel
theorem dd_Md_restore_86 : decode prog_8_method_36_code 86 = .ok (.aload_n 0, 1) := by decide +kernel
theorem dd_Md_restore_87 : decode prog_8_method_36_code 87 = .ok (.getfield 38, 3) := by decide +kernel
theorem dd_Md_restore_90 : decode prog_8_method_36_code 90 = .ok (.aload_n 0, 1) := by decide +kernel
theorem dd_Md_restore_91 : decode prog_8_method_36_code 91 = .ok (.getfield 41, 3) := by decide +kernel
theorem dd_Md_restore_94 : decode prog_8_method_36_code 94 = .ok (.iload 4, 2) := by decide +kernel
theorem dd_Md_restore_96 : decode prog_8_method_36_code 96 = .ok (.iaload, 1) := by decide +kernel
theorem dd_Md_restore_97 : decode prog_8_method_36_code 97 = .ok (.iload 5, 2) := by decide +kernel
theorem dd_Md_restore_99 : decode prog_8_method_36_code 99 = .ok (.iadd, 1) := by decide +kernel
theorem dd_Md_restore_100 : decode prog_8_method_36_code 100 = .ok (.iaload, 1) := by decide +kernel
theorem dd_Md_restore_101 : decode prog_8_method_36_code 101 = .ok (.iastore, 1) := by decide +kernel
theorem dd_Md_restore_102 : decode prog_8_method_36_code 102 = .ok (.aload_n 0, 1) := by decide +kernel
theorem dd_Md_restore_103 : decode prog_8_method_36_code 103 = .ok (.getfield 13, 3) := by decide +kernel
theorem dd_Md_restore_106 : decode prog_8_method_36_code 106 = .ok (.iload_n 2, 1) := by decide +kernel
theorem dd_Md_restore_107 : decode prog_8_method_36_code 107 = .ok (.dup2, 1) := by decide +kernel
theorem dd_Md_restore_108 : decode prog_8_method_36_code 108 = .ok (.iaload, 1) := by decide +kernel
theorem dd_Md_restore_109 : decode prog_8_method_36_code 109 = .ok (.iconst 1, 1) := by decide +kernel
theorem dd_Md_restore_110 : decode prog_8_method_36_code 110 = .ok (.iadd, 1) := by decide +kernel
theorem dd_Md_restore_111 : decode prog_8_method_36_code 111 = .ok (.iastore, 1) := by decide +kernel
theorem dd_Md_restore_112 : decode prog_8_method_36_code 112 = .ok (.iinc 5 1, 3) := by decide +kernel
theorem dd_Md_restore_115 : decode prog_8_method_36_code 115 = .ok (.goto (-57), 3) := by decide +kernel
theorem dd_Md_restore_118 : decode prog_8_method_36_code 118 = .ok (.iinc 3 1, 3) := by decide +kernel
theorem dd_Md_restore_121 : decode prog_8_method_36_code 121 = .ok (.goto (-90), 3) := by decide +kernel
theorem dd_Md_restore_124 : decode prog_8_method_36_code 124 = .ok (.aload_n 0, 1) := by decide +kernel
theorem dd_Md_restore_125 : decode prog_8_method_36_code 125 = .ok (.getfield 13, 3) := by decide +kernel
theorem dd_Md_restore_128 : decode prog_8_method_36_code 128 = .ok (.iload_n 2, 1) := by decide +kernel
theorem dd_Md_restore_129 : decode prog_8_method_36_code 129 = .ok (.iaload, 1) := by decide +kernel
theorem dd_Md_restore_130 : decode prog_8_method_36_code 130 = .ok (.ireturn, 1) := by decide +kernel
theorem dd_Md_told_0 : decode prog_8_method_38_code 0 = .ok (.aload_n 0, 1) := by decide +kernel
theorem dd_Md_told_1 : decode prog_8_method_38_code 1 = .ok (.iconst 0, 1) := by decide +kernel
theorem dd_Md_told_2 : decode prog_8_method_38_code 2 = .ok (.putfield 67, 3) := by decide +kernel
theorem dd_Md_told_5 : decode prog_8_method_38_code 5 = .ok (.aload_n 0, 1) := by decide +kernel
theorem dd_Md_told_6 : decode prog_8_method_38_code 6 = .ok (.iload_n 1, 1) := by decide +kernel
theorem dd_Md_told_7 : decode prog_8_method_38_code 7 = .ok (.invokevirtual 152, 3) := by decide +kernel
theorem dd_Md_told_10 : decode prog_8_method_38_code 10 = .ok (.ifCond .eq 12, 3) := by decide +kernel
theorem dd_Md_told_13 : decode prog_8_method_38_code 13 = .ok (.iload_n 2, 1) := by decide +kernel
theorem dd_Md_told_14 : decode prog_8_method_38_code 14 = .ok (.iconst 0, 1) := by decide +kernel
theorem dd_Md_told_15 : decode prog_8_method_38_code 15 = .ok (.iconst 1, 1) := by decide +kernel
theorem dd_Md_told_16 : decode prog_8_method_38_code 16 = .ok (.invokestatic 72, 3) := by decide +kernel
theorem dd_Md_told_19 : decode prog_8_method_38_code 19 = .ok (.ifCond .ne 5, 3) := by decide +kernel
theorem dd_Md_told_22 : decode prog_8_method_38_code 22 = .ok (.iconst (-1), 1) := by decide +kernel
theorem dd_Md_told_23 : decode prog_8_method_38_code 23 = .ok (.ireturn, 1) := by decide +kernel
theorem dd_Md_told_24 : decode prog_8_method_38_code 24 = .ok (.iload_n 2, 1) := by decide +kernel
theorem dd_Md_told_25 : decode prog_8_method_38_code 25 = .ok (.ifCond .ne 12, 3) := by decide +kernel
theorem dd_Md_told_28 : decode prog_8_method_38_code 28 = .ok (.aload_n 0, 1) := by decide +kernel
theorem dd_Md_told_29 : decode prog_8_method_38_code 29 = .ok (.getfield 54, 3) := by decide +kernel
theorem dd_Md_told_32 : decode prog_8_method_38_code 32 = .ok (.iload_n 1, 1) := by decide +kernel
theorem dd_Md_told_33 : decode prog_8_method_38_code 33 = .ok (.iaload, 1) := by decide +kernel
theorem dd_Md_told_34 : decode prog_8_method_38_code 34 = .ok (.goto 8, 3) := by decide +kernel
theorem dd_Md_told_37 : decode prog_8_method_38_code 37 = .ok (.aload_n 0, 1) := by decide +kernel
theorem dd_Md_told_38 : decode prog_8_method_38_code 38 = .ok (.iload_n 1, 1) := by decide +kernel
theorem dd_Md_told_39 : decode prog_8_method_38_code 39 = .ok (.invokevirtual 158, 3) := by decide +kernel
theorem dd_Md_told_42 : decode prog_8_method_38_code 42 = .ok (.ireturn, 1) := by decide +kernel
theorem dd_Md_bytesOf_0 : decode prog_8_method_37_code 0 = .ok (.iconst 0, 1) := by decide +kernel
theorem dd_Md_bytesOf_1 : decode prog_8_method_37_code 1 = .ok (.istore_n 2, 1) := by decide +kernel
theorem dd_Md_bytesOf_2 : decode prog_8_method_37_code 2 = .ok (.iconst 0, 1) := by decide +kernel
theorem dd_Md_bytesOf_3 : decode prog_8_method_37_code 3 = .ok (.istore_n 3, 1) := by decide +kernel
theorem dd_Md_bytesOf_4 : decode prog_8_method_37_code 4 = .ok (.iload_n 3, 1) := by decide +kernel
theorem dd_Md_bytesOf_5 : decode prog_8_method_37_code 5 = .ok (.aload_n 0, 1) := by decide +kernel
theorem dd_Md_bytesOf_6 : decode prog_8_method_37_code 6 = .ok (.getfield 54, 3) := by decide +kernel
theorem dd_Md_bytesOf_9 : decode prog_8_method_37_code 9 = .ok (.iload_n 1, 1) := by decide +kernel
theorem dd_Md_bytesOf_10 : decode prog_8_method_37_code 10 = .ok (.iaload, 1) := by decide +kernel
theorem dd_Md_bytesOf_11 : decode prog_8_method_37_code 11 = .ok (.if_icmp .ge 29, 3) := by decide +kernel
theorem dd_Md_bytesOf_14 : decode prog_8_method_37_code 14 = .ok (.iload_n 2, 1) := by decide +kernel
theorem dd_Md_bytesOf_15 : decode prog_8_method_37_code 15 = .ok (.aload_n 0, 1) := by decide +kernel
theorem dd_Md_bytesOf_16 : decode prog_8_method_37_code 16 = .ok (.getfield 44, 3) := by decide +kernel
theorem dd_Md_bytesOf_19 : decode prog_8_method_37_code 19 = .ok (.aload_n 0, 1) := by decide +kernel
theorem dd_Md_bytesOf_20 : decode prog_8_method_37_code 20 = .ok (.getfield 57, 3) := by decide +kernel
theorem dd_Md_bytesOf_23 : decode prog_8_method_37_code 23 = .ok (.sipush 1500, 3) := by decide +kernel
theorem dd_Md_bytesOf_26 : decode prog_8_method_37_code 26 = .ok (.iload_n 1, 1) := by decide +kernel
theorem dd_Md_bytesOf_27 : decode prog_8_method_37_code 27 = .ok (.imul, 1) := by decide +kernel
theorem dd_Md_bytesOf_28 : decode prog_8_method_37_code 28 = .ok (.iload_n 3, 1) := by decide +kernel
theorem dd_Md_bytesOf_29 : decode prog_8_method_37_code 29 = .ok (.iadd, 1) := by decide +kernel
theorem dd_Md_bytesOf_30 : decode prog_8_method_37_code 30 = .ok (.iaload, 1) := by decide +kernel
theorem dd_Md_bytesOf_31 : decode prog_8_method_37_code 31 = .ok (.iaload, 1) := by decide +kernel
theorem dd_Md_bytesOf_32 : decode prog_8_method_37_code 32 = .ok (.iadd, 1) := by decide +kernel
theorem dd_Md_bytesOf_33 : decode prog_8_method_37_code 33 = .ok (.istore_n 2, 1) := by decide +kernel
theorem dd_Md_bytesOf_34 : decode prog_8_method_37_code 34 = .ok (.iinc 3 1, 3) := by decide +kernel
theorem dd_Md_bytesOf_37 : decode prog_8_method_37_code 37 = .ok (.goto (-33), 3) := by decide +kernel
theorem dd_Md_bytesOf_40 : decode prog_8_method_37_code 40 = .ok (.iload_n 2, 1) := by decide +kernel
theorem dd_Md_bytesOf_41 : decode prog_8_method_37_code 41 = .ok (.ireturn, 1) := by decide +kernel
theorem dd_Md_uses_0 : decode prog_8_method_39_code 0 = .ok (.aload_n 0, 1) := by decide +kernel
theorem dd_Md_uses_1 : decode prog_8_method_39_code 1 = .ok (.iconst 0, 1) := by decide +kernel
theorem dd_Md_uses_2 : decode prog_8_method_39_code 2 = .ok (.putfield 67, 3) := by decide +kernel
theorem dd_Md_uses_5 : decode prog_8_method_39_code 5 = .ok (.aload_n 0, 1) := by decide +kernel
theorem dd_Md_uses_6 : decode prog_8_method_39_code 6 = .ok (.iload_n 1, 1) := by decide +kernel
theorem dd_Md_uses_7 : decode prog_8_method_39_code 7 = .ok (.iload_n 2, 1) := by decide +kernel
theorem dd_Md_uses_8 : decode prog_8_method_39_code 8 = .ok (.invokevirtual 113, 3) := by decide +kernel
theorem dd_Md_uses_11 : decode prog_8_method_39_code 11 = .ok (.ifCond .ne 5, 3) := by decide +kernel
theorem dd_Md_uses_14 : decode prog_8_method_39_code 14 = .ok (.iconst (-1), 1) := by decide +kernel
theorem dd_Md_uses_15 : decode prog_8_method_39_code 15 = .ok (.ireturn, 1) := by decide +kernel
theorem dd_Md_uses_16 : decode prog_8_method_39_code 16 = .ok (.aload_n 0, 1) := by decide +kernel
theorem dd_Md_uses_17 : decode prog_8_method_39_code 17 = .ok (.iload_n 1, 1) := by decide +kernel
theorem dd_Md_uses_18 : decode prog_8_method_39_code 18 = .ok (.iload_n 2, 1) := by decide +kernel
theorem dd_Md_uses_19 : decode prog_8_method_39_code 19 = .ok (.invokevirtual 146, 3) := by decide +kernel
theorem dd_Md_uses_22 : decode prog_8_method_39_code 22 = .ok (.istore_n 3, 1) := by decide +kernel
theorem dd_Md_uses_23 : decode prog_8_method_39_code 23 = .ok (.iload_n 3, 1) := by decide +kernel
theorem dd_Md_uses_24 : decode prog_8_method_39_code 24 = .ok (.ifCond .ge 7, 3) := by decide +kernel
theorem dd_Md_uses_27 : decode prog_8_method_39_code 27 = .ok (.iconst 0, 1) := by decide +kernel
theorem dd_Md_uses_28 : decode prog_8_method_39_code 28 = .ok (.goto 9, 3) := by decide +kernel
theorem dd_Md_uses_31 : decode prog_8_method_39_code 31 = .ok (.aload_n 0, 1) := by decide +kernel
theorem dd_Md_uses_32 : decode prog_8_method_39_code 32 = .ok (.getfield 47, 3) := by decide +kernel
theorem dd_Md_uses_35 : decode prog_8_method_39_code 35 = .ok (.iload_n 3, 1) := by decide +kernel
theorem dd_Md_uses_36 : decode prog_8_method_39_code 36 = .ok (.iaload, 1) := by decide +kernel
theorem dd_Md_uses_37 : decode prog_8_method_39_code 37 = .ok (.ireturn, 1) := by decide +kernel
theorem dd_Md_kept_0 : decode prog_8_method_42_code 0 = .ok (.aload_n 0, 1) := by decide +kernel
theorem dd_Md_kept_1 : decode prog_8_method_42_code 1 = .ok (.iconst 0, 1) := by decide +kernel
theorem dd_Md_kept_2 : decode prog_8_method_42_code 2 = .ok (.putfield 67, 3) := by decide +kernel
theorem dd_Md_kept_5 : decode prog_8_method_42_code 5 = .ok (.iconst 0, 1) := by decide +kernel
theorem dd_Md_kept_6 : decode prog_8_method_42_code 6 = .ok (.istore_n 2, 1) := by decide +kernel
theorem dd_Md_kept_7 : decode prog_8_method_42_code 7 = .ok (.iload_n 1, 1) := by decide +kernel
theorem dd_Md_kept_8 : decode prog_8_method_42_code 8 = .ok (.tableswitch 122 0 5 #[40, 73, 78, 83, 110, 116], 40) := by decide +kernel
theorem dd_Md_kept_48 : decode prog_8_method_42_code 48 = .ok (.iconst 0, 1) := by decide +kernel
theorem dd_Md_kept_49 : decode prog_8_method_42_code 49 = .ok (.istore_n 3, 1) := by decide +kernel
theorem dd_Md_kept_50 : decode prog_8_method_42_code 50 = .ok (.iload_n 3, 1) := by decide +kernel
theorem dd_Md_kept_51 : decode prog_8_method_42_code 51 = .ok (.bipush 10, 2) := by decide +kernel
theorem dd_Md_kept_53 : decode prog_8_method_42_code 53 = .ok (.if_icmp .ge 26, 3) := by decide +kernel
theorem dd_Md_kept_56 : decode prog_8_method_42_code 56 = .ok (.iload_n 2, 1) := by decide +kernel
theorem dd_Md_kept_57 : decode prog_8_method_42_code 57 = .ok (.aload_n 0, 1) := by decide +kernel
theorem dd_Md_kept_58 : decode prog_8_method_42_code 58 = .ok (.getfield 50, 3) := by decide +kernel
theorem dd_Md_kept_61 : decode prog_8_method_42_code 61 = .ok (.iload_n 3, 1) := by decide +kernel
theorem dd_Md_kept_62 : decode prog_8_method_42_code 62 = .ok (.baload, 1) := by decide +kernel
theorem dd_Md_kept_63 : decode prog_8_method_42_code 63 = .ok (.ifCond .eq 7, 3) := by decide +kernel
theorem dd_Md_kept_66 : decode prog_8_method_42_code 66 = .ok (.iconst 1, 1) := by decide +kernel
theorem dd_Md_kept_67 : decode prog_8_method_42_code 67 = .ok (.goto 4, 3) := by decide +kernel
theorem dd_Md_kept_70 : decode prog_8_method_42_code 70 = .ok (.iconst 0, 1) := by decide +kernel
theorem dd_Md_kept_71 : decode prog_8_method_42_code 71 = .ok (.iadd, 1) := by decide +kernel
theorem dd_Md_kept_72 : decode prog_8_method_42_code 72 = .ok (.istore_n 2, 1) := by decide +kernel
theorem dd_Md_kept_73 : decode prog_8_method_42_code 73 = .ok (.iinc 3 1, 3) := by decide +kernel
theorem dd_Md_kept_76 : decode prog_8_method_42_code 76 = .ok (.goto (-26), 3) := by decide +kernel
theorem dd_Md_kept_79 : decode prog_8_method_42_code 79 = .ok (.iload_n 2, 1) := by decide +kernel
theorem dd_Md_kept_80 : decode prog_8_method_42_code 80 = .ok (.ireturn, 1) := by decide +kernel
theorem dd_Md_kept_81 : decode prog_8_method_42_code 81 = .ok (.aload_n 0, 1) := by decide +kernel
theorem dd_Md_kept_82 : decode prog_8_method_42_code 82 = .ok (.getfield 140, 3) := by decide +kernel
theorem dd_Md_kept_85 : decode prog_8_method_42_code 85 = .ok (.ireturn, 1) := by decide +kernel
theorem dd_Md_kept_86 : decode prog_8_method_42_code 86 = .ok (.aload_n 0, 1) := by decide +kernel
theorem dd_Md_kept_87 : decode prog_8_method_42_code 87 = .ok (.getfield 143, 3) := by decide +kernel
theorem dd_Md_kept_90 : decode prog_8_method_42_code 90 = .ok (.ireturn, 1) := by decide +kernel
theorem dd_Md_kept_91 : decode prog_8_method_42_code 91 = .ok (.iconst 0, 1) := by decide +kernel
theorem dd_Md_kept_92 : decode prog_8_method_42_code 92 = .ok (.istore_n 3, 1) := by decide +kernel
theorem dd_Md_kept_93 : decode prog_8_method_42_code 93 = .ok (.iload_n 3, 1) := by decide +kernel
theorem dd_Md_kept_94 : decode prog_8_method_42_code 94 = .ok (.aload_n 0, 1) := by decide +kernel
theorem dd_Md_kept_95 : decode prog_8_method_42_code 95 = .ok (.getfield 140, 3) := by decide +kernel
theorem dd_Md_kept_98 : decode prog_8_method_42_code 98 = .ok (.if_icmp .ge 18, 3) := by decide +kernel
theorem dd_Md_kept_101 : decode prog_8_method_42_code 101 = .ok (.iload_n 2, 1) := by decide +kernel
theorem dd_Md_kept_102 : decode prog_8_method_42_code 102 = .ok (.aload_n 0, 1) := by decide +kernel
theorem dd_Md_kept_103 : decode prog_8_method_42_code 103 = .ok (.getfield 47, 3) := by decide +kernel
theorem dd_Md_kept_106 : decode prog_8_method_42_code 106 = .ok (.iload_n 3, 1) := by decide +kernel
theorem dd_Md_kept_107 : decode prog_8_method_42_code 107 = .ok (.iaload, 1) := by decide +kernel
theorem dd_Md_kept_108 : decode prog_8_method_42_code 108 = .ok (.iadd, 1) := by decide +kernel
theorem dd_Md_kept_109 : decode prog_8_method_42_code 109 = .ok (.istore_n 2, 1) := by decide +kernel
theorem dd_Md_kept_110 : decode prog_8_method_42_code 110 = .ok (.iinc 3 1, 3) := by decide +kernel
theorem dd_Md_kept_113 : decode prog_8_method_42_code 113 = .ok (.goto (-20), 3) := by decide +kernel
theorem dd_Md_kept_116 : decode prog_8_method_42_code 116 = .ok (.iload_n 2, 1) := by decide +kernel
theorem dd_Md_kept_117 : decode prog_8_method_42_code 117 = .ok (.ireturn, 1) := by decide +kernel
theorem dd_Md_kept_118 : decode prog_8_method_42_code 118 = .ok (.aload_n 0, 1) := by decide +kernel
theorem dd_Md_kept_119 : decode prog_8_method_42_code 119 = .ok (.iconst 1, 1) := by decide +kernel
theorem dd_Md_kept_120 : decode prog_8_method_42_code 120 = .ok (.invokevirtual 168, 3) := by decide +kernel
theorem dd_Md_kept_123 : decode prog_8_method_42_code 123 = .ok (.ireturn, 1) := by decide +kernel
theorem dd_Md_kept_124 : decode prog_8_method_42_code 124 = .ok (.aload_n 0, 1) := by decide +kernel
theorem dd_Md_kept_125 : decode prog_8_method_42_code 125 = .ok (.iconst 0, 1) := by decide +kernel
theorem dd_Md_kept_126 : decode prog_8_method_42_code 126 = .ok (.invokevirtual 168, 3) := by decide +kernel
theorem dd_Md_kept_129 : decode prog_8_method_42_code 129 = .ok (.ireturn, 1) := by decide +kernel
theorem dd_Md_kept_130 : decode prog_8_method_42_code 130 = .ok (.iconst (-1), 1) := by decide +kernel
theorem dd_Md_kept_131 : decode prog_8_method_42_code 131 = .ok (.ireturn, 1) := by decide +kernel
theorem dd_Md_keysTold_0 : decode prog_8_method_41_code 0 = .ok (.iconst 0, 1) := by decide +kernel
theorem dd_Md_keysTold_1 : decode prog_8_method_41_code 1 = .ok (.istore_n 2, 1) := by decide +kernel
theorem dd_Md_keysTold_2 : decode prog_8_method_41_code 2 = .ok (.iload_n 2, 1) := by decide +kernel
theorem dd_Md_keysTold_3 : decode prog_8_method_41_code 3 = .ok (.sipush 256, 3) := by decide +kernel
theorem dd_Md_keysTold_6 : decode prog_8_method_41_code 6 = .ok (.if_icmp .ge 16, 3) := by decide +kernel
theorem dd_Md_keysTold_9 : decode prog_8_method_41_code 9 = .ok (.aload_n 0, 1) := by decide +kernel
theorem dd_Md_keysTold_10 : decode prog_8_method_41_code 10 = .ok (.getfield 60, 3) := by decide +kernel
theorem dd_Md_keysTold_13 : decode prog_8_method_41_code 13 = .ok (.iload_n 2, 1) := by decide +kernel
theorem dd_Md_keysTold_14 : decode prog_8_method_41_code 14 = .ok (.iconst 0, 1) := by decide +kernel
theorem dd_Md_keysTold_15 : decode prog_8_method_41_code 15 = .ok (.iastore, 1) := by decide +kernel
theorem dd_Md_keysTold_16 : decode prog_8_method_41_code 16 = .ok (.iinc 2 1, 3) := by decide +kernel
theorem dd_Md_keysTold_19 : decode prog_8_method_41_code 19 = .ok (.goto (-17), 3) := by decide +kernel
theorem dd_Md_keysTold_22 : decode prog_8_method_41_code 22 = .ok (.iconst 0, 1) := by decide +kernel
theorem dd_Md_keysTold_23 : decode prog_8_method_41_code 23 = .ok (.istore_n 2, 1) := by decide +kernel
theorem dd_Md_keysTold_24 : decode prog_8_method_41_code 24 = .ok (.iconst 0, 1) := by decide +kernel
theorem dd_Md_keysTold_25 : decode prog_8_method_41_code 25 = .ok (.istore_n 3, 1) := by decide +kernel
theorem dd_Md_keysTold_26 : decode prog_8_method_41_code 26 = .ok (.iconst 0, 1) := by decide +kernel
theorem dd_Md_keysTold_27 : decode prog_8_method_41_code 27 = .ok (.istore 4, 2) := by decide +kernel
theorem dd_Md_keysTold_29 : decode prog_8_method_41_code 29 = .ok (.iload 4, 2) := by decide +kernel
theorem dd_Md_keysTold_31 : decode prog_8_method_41_code 31 = .ok (.aload_n 0, 1) := by decide +kernel
theorem dd_Md_keysTold_32 : decode prog_8_method_41_code 32 = .ok (.getfield 140, 3) := by decide +kernel
theorem dd_Md_keysTold_35 : decode prog_8_method_41_code 35 = .ok (.if_icmp .ge 62, 3) := by decide +kernel
theorem dd_Md_keysTold_38 : decode prog_8_method_41_code 38 = .ok (.aload_n 0, 1) := by decide +kernel
theorem dd_Md_keysTold_39 : decode prog_8_method_41_code 39 = .ok (.iload 4, 2) := by decide +kernel
theorem dd_Md_keysTold_41 : decode prog_8_method_41_code 41 = .ok (.invokevirtual 164, 3) := by decide +kernel
theorem dd_Md_keysTold_44 : decode prog_8_method_41_code 44 = .ok (.l2i, 1) := by decide +kernel
theorem dd_Md_keysTold_45 : decode prog_8_method_41_code 45 = .ok (.istore 5, 2) := by decide +kernel
theorem dd_Md_keysTold_47 : decode prog_8_method_41_code 47 = .ok (.iload_n 2, 1) := by decide +kernel
theorem dd_Md_keysTold_48 : decode prog_8_method_41_code 48 = .ok (.aload_n 0, 1) := by decide +kernel
theorem dd_Md_keysTold_49 : decode prog_8_method_41_code 49 = .ok (.getfield 60, 3) := by decide +kernel
theorem dd_Md_keysTold_52 : decode prog_8_method_41_code 52 = .ok (.iload 5, 2) := by decide +kernel
theorem dd_Md_keysTold_54 : decode prog_8_method_41_code 54 = .ok (.iaload, 1) := by decide +kernel
theorem dd_Md_keysTold_55 : decode prog_8_method_41_code 55 = .ok (.iadd, 1) := by decide +kernel
theorem dd_Md_keysTold_56 : decode prog_8_method_41_code 56 = .ok (.istore_n 2, 1) := by decide +kernel
theorem dd_Md_keysTold_57 : decode prog_8_method_41_code 57 = .ok (.aload_n 0, 1) := by decide +kernel
theorem dd_Md_keysTold_58 : decode prog_8_method_41_code 58 = .ok (.getfield 60, 3) := by decide +kernel
theorem dd_Md_keysTold_61 : decode prog_8_method_41_code 61 = .ok (.iload 5, 2) := by decide +kernel
theorem dd_Md_keysTold_63 : decode prog_8_method_41_code 63 = .ok (.dup2, 1) := by decide +kernel
theorem dd_Md_keysTold_64 : decode prog_8_method_41_code 64 = .ok (.iaload, 1) := by decide +kernel
theorem dd_Md_keysTold_65 : decode prog_8_method_41_code 65 = .ok (.iconst 1, 1) := by decide +kernel
theorem dd_Md_keysTold_66 : decode prog_8_method_41_code 66 = .ok (.iadd, 1) := by decide +kernel
theorem dd_Md_keysTold_67 : decode prog_8_method_41_code 67 = .ok (.iastore, 1) := by decide +kernel
theorem dd_Md_keysTold_68 : decode prog_8_method_41_code 68 = .ok (.aload_n 0, 1) := by decide +kernel
theorem dd_Md_keysTold_69 : decode prog_8_method_41_code 69 = .ok (.getfield 60, 3) := by decide +kernel
theorem dd_Md_keysTold_72 : decode prog_8_method_41_code 72 = .ok (.iload 5, 2) := by decide +kernel
theorem dd_Md_keysTold_74 : decode prog_8_method_41_code 74 = .ok (.iaload, 1) := by decide +kernel
theorem dd_Md_keysTold_75 : decode prog_8_method_41_code 75 = .ok (.iload_n 3, 1) := by decide +kernel
theorem dd_Md_keysTold_76 : decode prog_8_method_41_code 76 = .ok (.if_icmp .le 13, 3) := by decide +kernel
theorem dd_Md_keysTold_79 : decode prog_8_method_41_code 79 = .ok (.aload_n 0, 1) := by decide +kernel
theorem dd_Md_keysTold_80 : decode prog_8_method_41_code 80 = .ok (.getfield 60, 3) := by decide +kernel
theorem dd_Md_keysTold_83 : decode prog_8_method_41_code 83 = .ok (.iload 5, 2) := by decide +kernel
theorem dd_Md_keysTold_85 : decode prog_8_method_41_code 85 = .ok (.iaload, 1) := by decide +kernel
theorem dd_Md_keysTold_86 : decode prog_8_method_41_code 86 = .ok (.goto 4, 3) := by decide +kernel
theorem dd_Md_keysTold_89 : decode prog_8_method_41_code 89 = .ok (.iload_n 3, 1) := by decide +kernel
theorem dd_Md_keysTold_90 : decode prog_8_method_41_code 90 = .ok (.istore_n 3, 1) := by decide +kernel
theorem dd_Md_keysTold_91 : decode prog_8_method_41_code 91 = .ok (.iinc 4 1, 3) := by decide +kernel
theorem dd_Md_keysTold_94 : decode prog_8_method_41_code 94 = .ok (.goto (-65), 3) := by decide +kernel
theorem dd_Md_keysTold_97 : decode prog_8_method_41_code 97 = .ok (.iload_n 1, 1) := by decide +kernel
theorem dd_Md_keysTold_98 : decode prog_8_method_41_code 98 = .ok (.ifCond .eq 7, 3) := by decide +kernel
theorem dd_Md_keysTold_101 : decode prog_8_method_41_code 101 = .ok (.iload_n 2, 1) := by decide +kernel
theorem dd_Md_keysTold_102 : decode prog_8_method_41_code 102 = .ok (.goto 4, 3) := by decide +kernel
theorem dd_Md_keysTold_105 : decode prog_8_method_41_code 105 = .ok (.iload_n 3, 1) := by decide +kernel
theorem dd_Md_keysTold_106 : decode prog_8_method_41_code 106 = .ok (.ireturn, 1) := by decide +kernel
theorem dd_Md_keyOf_0 : decode prog_8_method_40_code 0 = .ok (.aload_n 0, 1) := by decide +kernel
theorem dd_Md_keyOf_1 : decode prog_8_method_40_code 1 = .ok (.getfield 38, 3) := by decide +kernel
theorem dd_Md_keyOf_4 : decode prog_8_method_40_code 4 = .ok (.aload_n 0, 1) := by decide +kernel
theorem dd_Md_keyOf_5 : decode prog_8_method_40_code 5 = .ok (.getfield 41, 3) := by decide +kernel
theorem dd_Md_keyOf_8 : decode prog_8_method_40_code 8 = .ok (.iload_n 1, 1) := by decide +kernel
theorem dd_Md_keyOf_9 : decode prog_8_method_40_code 9 = .ok (.iaload, 1) := by decide +kernel
theorem dd_Md_keyOf_10 : decode prog_8_method_40_code 10 = .ok (.aload_n 0, 1) := by decide +kernel
theorem dd_Md_keyOf_11 : decode prog_8_method_40_code 11 = .ok (.getfield 41, 3) := by decide +kernel
theorem dd_Md_keyOf_14 : decode prog_8_method_40_code 14 = .ok (.iload_n 1, 1) := by decide +kernel
theorem dd_Md_keyOf_15 : decode prog_8_method_40_code 15 = .ok (.iaload, 1) := by decide +kernel
theorem dd_Md_keyOf_16 : decode prog_8_method_40_code 16 = .ok (.aload_n 0, 1) := by decide +kernel
theorem dd_Md_keyOf_17 : decode prog_8_method_40_code 17 = .ok (.getfield 44, 3) := by decide +kernel
theorem dd_Md_keyOf_20 : decode prog_8_method_40_code 20 = .ok (.iload_n 1, 1) := by decide +kernel
theorem dd_Md_keyOf_21 : decode prog_8_method_40_code 21 = .ok (.iaload, 1) := by decide +kernel
theorem dd_Md_keyOf_22 : decode prog_8_method_40_code 22 = .ok (.iadd, 1) := by decide +kernel
theorem dd_Md_keyOf_23 : decode prog_8_method_40_code 23 = .ok (.iconst 0, 1) := by decide +kernel
theorem dd_Md_keyOf_24 : decode prog_8_method_40_code 24 = .ok (.invokestatic 125, 3) := by decide +kernel
theorem dd_Md_keyOf_27 : decode prog_8_method_40_code 27 = .ok (.ldc2_w 162, 3) := by decide +kernel
theorem dd_Md_keyOf_30 : decode prog_8_method_40_code 30 = .ok (.land, 1) := by decide +kernel
theorem dd_Md_keyOf_31 : decode prog_8_method_40_code 31 = .ok (.lreturn, 1) := by decide +kernel
