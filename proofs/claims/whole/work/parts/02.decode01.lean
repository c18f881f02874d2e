theorem dX8_init_9 : decode cX8_init 9 = .ok (.invokespecial 9, 3) := by decide +kernel
theorem dX8_init_12 : decode cX8_init 12 = .ok (.putfield 10, 3) := by decide +kernel
theorem dX8_init_15 : decode cX8_init 15 = .ok (.aload_n 0, 1) := by decide +kernel
theorem dX8_init_16 : decode cX8_init 16 = .ok (.new 16, 3) := by decide +kernel
theorem dX8_init_19 : decode cX8_init 19 = .ok (.dup, 1) := by decide +kernel
theorem dX8_init_20 : decode cX8_init 20 = .ok (.invokespecial 18, 3) := by decide +kernel
theorem dX8_init_23 : decode cX8_init 23 = .ok (.putfield 19, 3) := by decide +kernel
theorem dX8_init_26 : decode cX8_init 26 = .ok (.aload_n 0, 1) := by decide +kernel
theorem dX8_init_27 : decode cX8_init 27 = .ok (.new 16, 3) := by decide +kernel
theorem dX8_init_30 : decode cX8_init 30 = .ok (.dup, 1) := by decide +kernel
theorem dX8_init_31 : decode cX8_init 31 = .ok (.invokespecial 18, 3) := by decide +kernel
theorem dX8_init_34 : decode cX8_init 34 = .ok (.putfield 23, 3) := by decide +kernel
theorem dX8_init_37 : decode cX8_init 37 = .ok (.aload_n 0, 1) := by decide +kernel
theorem dX8_init_38 : decode cX8_init 38 = .ok (.new 16, 3) := by decide +kernel
theorem dX8_init_41 : decode cX8_init 41 = .ok (.dup, 1) := by decide +kernel
theorem dX8_init_42 : decode cX8_init 42 = .ok (.invokespecial 18, 3) := by decide +kernel
theorem dX8_init_45 : decode cX8_init 45 = .ok (.putfield 26, 3) := by decide +kernel
theorem dX8_init_48 : decode cX8_init 48 = .ok (.aload_n 0, 1) := by decide +kernel
theorem dX8_init_49 : decode cX8_init 49 = .ok (.bipush 60, 2) := by decide +kernel
theorem dX8_init_51 : decode cX8_init 51 = .ok (.newarray .int, 2) := by decide +kernel
theorem dX8_init_53 : decode cX8_init 53 = .ok (.putfield 29, 3) := by decide +kernel
theorem dX8_init_56 : decode cX8_init 56 = .ok (.aload_n 0, 1) := by decide +kernel
theorem dX8_init_57 : decode cX8_init 57 = .ok (.bipush 60, 2) := by decide +kernel
theorem dX8_init_59 : decode cX8_init 59 = .ok (.newarray .boolean, 2) := by decide +kernel
theorem dX8_init_61 : decode cX8_init 61 = .ok (.putfield 33, 3) := by decide +kernel
theorem dX8_init_64 : decode cX8_init 64 = .ok (.aload_n 0, 1) := by decide +kernel
theorem dX8_init_65 : decode cX8_init 65 = .ok (.new 37, 3) := by decide +kernel
theorem dX8_init_68 : decode cX8_init 68 = .ok (.dup, 1) := by decide +kernel
theorem dX8_init_69 : decode cX8_init 69 = .ok (.invokespecial 39, 3) := by decide +kernel
theorem dX8_init_72 : decode cX8_init 72 = .ok (.putfield 40, 3) := by decide +kernel
theorem dX8_init_75 : decode cX8_init 75 = .ok (.aload_n 0, 1) := by decide +kernel
theorem dX8_init_76 : decode cX8_init 76 = .ok (.new 44, 3) := by decide +kernel
theorem dX8_init_79 : decode cX8_init 79 = .ok (.dup, 1) := by decide +kernel
theorem dX8_init_80 : decode cX8_init 80 = .ok (.invokespecial 46, 3) := by decide +kernel
theorem dX8_init_83 : decode cX8_init 83 = .ok (.putfield 47, 3) := by decide +kernel
theorem dX8_init_86 : decode cX8_init 86 = .ok (.aload_n 0, 1) := by decide +kernel
theorem dX8_init_87 : decode cX8_init 87 = .ok (.new 51, 3) := by decide +kernel
theorem dX8_init_90 : decode cX8_init 90 = .ok (.dup, 1) := by decide +kernel
theorem dX8_init_91 : decode cX8_init 91 = .ok (.invokespecial 53, 3) := by decide +kernel
theorem dX8_init_94 : decode cX8_init 94 = .ok (.putfield 54, 3) := by decide +kernel
theorem dX8_init_97 : decode cX8_init 97 = .ok (.aload_n 0, 1) := by decide +kernel
theorem dX8_init_98 : decode cX8_init 98 = .ok (.new 58, 3) := by decide +kernel
theorem dX8_init_101 : decode cX8_init 101 = .ok (.dup, 1) := by decide +kernel
theorem dX8_init_102 : decode cX8_init 102 = .ok (.invokespecial 60, 3) := by decide +kernel
theorem dX8_init_105 : decode cX8_init 105 = .ok (.putfield 61, 3) := by decide +kernel
theorem dX8_init_108 : decode cX8_init 108 = .ok (.aload_n 0, 1) := by decide +kernel
theorem dX8_init_109 : decode cX8_init 109 = .ok (.bipush 6, 2) := by decide +kernel
theorem dX8_init_111 : decode cX8_init 111 = .ok (.anewarray 65, 3) := by decide +kernel
theorem dX8_init_114 : decode cX8_init 114 = .ok (.putfield 67, 3) := by decide +kernel
theorem dX8_init_117 : decode cX8_init 117 = .ok (.iconst 0, 1) := by decide +kernel
theorem dX8_init_118 : decode cX8_init 118 = .ok (.istore_n 1, 1) := by decide +kernel
theorem dX8_init_119 : decode cX8_init 119 = .ok (.iload_n 1, 1) := by decide +kernel
theorem dX8_init_120 : decode cX8_init 120 = .ok (.bipush 6, 2) := by decide +kernel
theorem dX8_init_122 : decode cX8_init 122 = .ok (.if_icmp .ge 22, 3) := by decide +kernel
theorem dX8_init_125 : decode cX8_init 125 = .ok (.aload_n 0, 1) := by decide +kernel
theorem dX8_init_126 : decode cX8_init 126 = .ok (.getfield 67, 3) := by decide +kernel
theorem dX8_init_129 : decode cX8_init 129 = .ok (.iload_n 1, 1) := by decide +kernel
theorem dX8_init_130 : decode cX8_init 130 = .ok (.new 65, 3) := by decide +kernel
theorem dX8_init_133 : decode cX8_init 133 = .ok (.dup, 1) := by decide +kernel
theorem dX8_init_134 : decode cX8_init 134 = .ok (.invokespecial 71, 3) := by decide +kernel
theorem dX8_init_137 : decode cX8_init 137 = .ok (.aastore, 1) := by decide +kernel
theorem dX8_init_138 : decode cX8_init 138 = .ok (.iinc 1 1, 3) := by decide +kernel
theorem dX8_init_141 : decode cX8_init 141 = .ok (.goto (-22), 3) := by decide +kernel
theorem dX8_init_144 : decode cX8_init 144 = .ok (.aload_n 0, 1) := by decide +kernel
theorem dX8_init_145 : decode cX8_init 145 = .ok (.new 72, 3) := by decide +kernel
theorem dX8_init_148 : decode cX8_init 148 = .ok (.dup, 1) := by decide +kernel
theorem dX8_init_149 : decode cX8_init 149 = .ok (.invokespecial 74, 3) := by decide +kernel
theorem dX8_init_152 : decode cX8_init 152 = .ok (.putfield 75, 3) := by decide +kernel
theorem dX8_init_155 : decode cX8_init 155 = .ok (.aload_n 0, 1) := by decide +kernel
theorem dX8_init_156 : decode cX8_init 156 = .ok (.iconst (-1), 1) := by decide +kernel
theorem dX8_init_157 : decode cX8_init 157 = .ok (.putfield 79, 3) := by decide +kernel
theorem dX8_init_160 : decode cX8_init 160 = .ok (.return_, 1) := by decide +kernel
theorem dX8_mend_0 : decode cX8_mend 0 = .ok (.iload_n 1, 1) := by decide +kernel
theorem dX8_mend_1 : decode cX8_mend 1 = .ok (.iload_n 2, 1) := by decide +kernel
theorem dX8_mend_2 : decode cX8_mend 2 = .ok (.invokestatic 83, 3) := by decide +kernel
theorem dX8_mend_5 : decode cX8_mend 5 = .ok (.istore 4, 2) := by decide +kernel
theorem dX8_mend_7 : decode cX8_mend 7 = .ok (.iload 4, 2) := by decide +kernel
theorem dX8_mend_9 : decode cX8_mend 9 = .ok (.ifCond .lt 11, 3) := by decide +kernel
theorem dX8_mend_12 : decode cX8_mend 12 = .ok (.iload_n 2, 1) := by decide +kernel
theorem dX8_mend_13 : decode cX8_mend 13 = .ok (.iload_n 3, 1) := by decide +kernel
theorem dX8_mend_14 : decode cX8_mend 14 = .ok (.invokestatic 87, 3) := by decide +kernel
theorem dX8_mend_17 : decode cX8_mend 17 = .ok (.ifCond .ne 5, 3) := by decide +kernel
theorem dX8_mend_20 : decode cX8_mend 20 = .ok (.iconst (-1), 1) := by decide +kernel
theorem dX8_mend_21 : decode cX8_mend 21 = .ok (.ireturn, 1) := by decide +kernel
theorem dX8_mend_22 : decode cX8_mend 22 = .ok (.aload_n 0, 1) := by decide +kernel
theorem dX8_mend_23 : decode cX8_mend 23 = .ok (.getfield 10, 3) := by decide +kernel
theorem dX8_mend_26 : decode cX8_mend 26 = .ok (.iload 4, 2) := by decide +kernel
theorem dX8_mend_28 : decode cX8_mend 28 = .ok (.invokevirtual 91, 3) := by decide +kernel
theorem dX8_mend_31 : decode cX8_mend 31 = .ok (.istore 5, 2) := by decide +kernel
theorem dX8_mend_33 : decode cX8_mend 33 = .ok (.iload 5, 2) := by decide +kernel
theorem dX8_mend_35 : decode cX8_mend 35 = .ok (.iload_n 3, 1) := by decide +kernel
theorem dX8_mend_36 : decode cX8_mend 36 = .ok (.if_icmp .eq 25, 3) := by decide +kernel
theorem dX8_mend_39 : decode cX8_mend 39 = .ok (.aload_n 0, 1) := by decide +kernel
theorem dX8_mend_40 : decode cX8_mend 40 = .ok (.getfield 10, 3) := by decide +kernel
theorem dX8_mend_43 : decode cX8_mend 43 = .ok (.iload 4, 2) := by decide +kernel
theorem dX8_mend_45 : decode cX8_mend 45 = .ok (.iload_n 3, 1) := by decide +kernel
theorem dX8_mend_46 : decode cX8_mend 46 = .ok (.invokevirtual 95, 3) := by decide +kernel
theorem dX8_mend_49 : decode cX8_mend 49 = .ok (.aload_n 0, 1) := by decide +kernel
theorem dX8_mend_50 : decode cX8_mend 50 = .ok (.getfield 61, 3) := by decide +kernel
theorem dX8_mend_53 : decode cX8_mend 53 = .ok (.iload 4, 2) := by decide +kernel
theorem dX8_mend_55 : decode cX8_mend 55 = .ok (.iload 5, 2) := by decide +kernel
theorem dX8_mend_57 : decode cX8_mend 57 = .ok (.iload_n 3, 1) := by decide +kernel
theorem dX8_mend_58 : decode cX8_mend 58 = .ok (.invokevirtual 99, 3) := by decide +kernel
theorem dX8_mend_61 : decode cX8_mend 61 = .ok (.iload 5, 2) := by decide +kernel
theorem dX8_mend_63 : decode cX8_mend 63 = .ok (.ireturn, 1) := by decide +kernel
theorem dX8_of_0 : decode cX8_of 0 = .ok (.iload_n 1, 1) := by decide +kernel
theorem dX8_of_1 : decode cX8_of 1 = .ok (.iload_n 2, 1) := by decide +kernel
theorem dX8_of_2 : decode cX8_of 2 = .ok (.invokestatic 83, 3) := by decide +kernel
theorem dX8_of_5 : decode cX8_of 5 = .ok (.istore_n 3, 1) := by decide +kernel
theorem dX8_of_6 : decode cX8_of 6 = .ok (.iload_n 3, 1) := by decide +kernel
theorem dX8_of_7 : decode cX8_of 7 = .ok (.ifCond .lt 12, 3) := by decide +kernel
theorem dX8_of_10 : decode cX8_of 10 = .ok (.aload_n 0, 1) := by decide +kernel
theorem dX8_of_11 : decode cX8_of 11 = .ok (.getfield 10, 3) := by decide +kernel
theorem dX8_of_14 : decode cX8_of 14 = .ok (.iload_n 3, 1) := by decide +kernel
theorem dX8_of_15 : decode cX8_of 15 = .ok (.invokevirtual 91, 3) := by decide +kernel
theorem dX8_of_18 : decode cX8_of 18 = .ok (.ireturn, 1) := by decide +kernel
theorem dX8_of_19 : decode cX8_of 19 = .ok (.iload_n 2, 1) := by decide +kernel
theorem dX8_of_20 : decode cX8_of 20 = .ok (.bipush 10, 2) := by decide +kernel
theorem dX8_of_22 : decode cX8_of 22 = .ok (.if_icmp .eq 9, 3) := by decide +kernel
theorem dX8_of_25 : decode cX8_of 25 = .ok (.iload_n 2, 1) := by decide +kernel
theorem dX8_of_26 : decode cX8_of 26 = .ok (.bipush 11, 2) := by decide +kernel
theorem dX8_of_28 : decode cX8_of 28 = .ok (.if_icmp .ne 10, 3) := by decide +kernel
theorem dX8_of_31 : decode cX8_of 31 = .ok (.aload_n 0, 1) := by decide +kernel
theorem dX8_of_32 : decode cX8_of 32 = .ok (.iload_n 1, 1) := by decide +kernel
theorem dX8_of_33 : decode cX8_of 33 = .ok (.iload_n 2, 1) := by decide +kernel
theorem dX8_of_34 : decode cX8_of 34 = .ok (.invokevirtual 103, 3) := by decide +kernel
theorem dX8_of_37 : decode cX8_of 37 = .ok (.ireturn, 1) := by decide +kernel
theorem dX8_of_38 : decode cX8_of 38 = .ok (.iload_n 1, 1) := by decide +kernel
theorem dX8_of_39 : decode cX8_of 39 = .ok (.ifCond .ne 11, 3) := by decide +kernel
theorem dX8_of_42 : decode cX8_of 42 = .ok (.aload_n 0, 1) := by decide +kernel
theorem dX8_of_43 : decode cX8_of 43 = .ok (.iload_n 2, 1) := by decide +kernel
theorem dX8_of_44 : decode cX8_of 44 = .ok (.invokevirtual 106, 3) := by decide +kernel
theorem dX8_of_47 : decode cX8_of 47 = .ok (.goto 4, 3) := by decide +kernel
theorem dX8_of_50 : decode cX8_of 50 = .ok (.iconst (-1), 1) := by decide +kernel
theorem dX8_of_51 : decode cX8_of 51 = .ok (.ireturn, 1) := by decide +kernel
theorem dX8_ofCell_0 : decode cX8_ofCell 0 = .ok (.iload_n 1, 1) := by decide +kernel
theorem dX8_ofCell_1 : decode cX8_ofCell 1 = .ok (.invokestatic 109, 3) := by decide +kernel
theorem dX8_ofCell_4 : decode cX8_ofCell 4 = .ok (.ifCond .ne 5, 3) := by decide +kernel
theorem dX8_ofCell_7 : decode cX8_ofCell 7 = .ok (.iconst (-1), 1) := by decide +kernel
theorem dX8_ofCell_8 : decode cX8_ofCell 8 = .ok (.ireturn, 1) := by decide +kernel
theorem dX8_ofCell_9 : decode cX8_ofCell 9 = .ok (.iload_n 2, 1) := by decide +kernel
theorem dX8_ofCell_10 : decode cX8_ofCell 10 = .ok (.bipush 10, 2) := by decide +kernel
theorem dX8_ofCell_12 : decode cX8_ofCell 12 = .ok (.if_icmp .ne 14, 3) := by decide +kernel
theorem dX8_ofCell_15 : decode cX8_ofCell 15 = .ok (.aload_n 0, 1) := by decide +kernel
theorem dX8_ofCell_16 : decode cX8_ofCell 16 = .ok (.getfield 10, 3) := by decide +kernel
theorem dX8_ofCell_19 : decode cX8_ofCell 19 = .ok (.iload_n 1, 1) := by decide +kernel
theorem dX8_ofCell_20 : decode cX8_ofCell 20 = .ok (.invokevirtual 113, 3) := by decide +kernel
theorem dX8_ofCell_23 : decode cX8_ofCell 23 = .ok (.goto 11, 3) := by decide +kernel
theorem dX8_ofCell_26 : decode cX8_ofCell 26 = .ok (.aload_n 0, 1) := by decide +kernel
theorem dX8_ofCell_27 : decode cX8_ofCell 27 = .ok (.getfield 19, 3) := by decide +kernel
theorem dX8_ofCell_30 : decode cX8_ofCell 30 = .ok (.iload_n 1, 1) := by decide +kernel
theorem dX8_ofCell_31 : decode cX8_ofCell 31 = .ok (.invokevirtual 116, 3) := by decide +kernel
theorem dX8_ofCell_34 : decode cX8_ofCell 34 = .ok (.istore_n 3, 1) := by decide +kernel
theorem dX8_ofCell_35 : decode cX8_ofCell 35 = .ok (.iload_n 3, 1) := by decide +kernel
theorem dX8_ofCell_36 : decode cX8_ofCell 36 = .ok (.ifCond .eq 7, 3) := by decide +kernel
theorem dX8_ofCell_39 : decode cX8_ofCell 39 = .ok (.iconst 1, 1) := by decide +kernel
theorem dX8_ofCell_40 : decode cX8_ofCell 40 = .ok (.goto 4, 3) := by decide +kernel
theorem dX8_ofCell_43 : decode cX8_ofCell 43 = .ok (.iconst 0, 1) := by decide +kernel
theorem dX8_ofCell_44 : decode cX8_ofCell 44 = .ok (.ireturn, 1) := by decide +kernel
theorem dX8_ofCart_0 : decode cX8_ofCart 0 = .ok (.iload_n 1, 1) := by decide +kernel
theorem dX8_ofCart_1 : decode cX8_ofCart 1 = .ok (.tableswitch 75 20 24 #[35, 40, 48, 56, 64], 35) := by decide +kernel
theorem dX8_ofCart_36 : decode cX8_ofCart 36 = .ok (.aload_n 0, 1) := by decide +kernel
theorem dX8_ofCart_37 : decode cX8_ofCart 37 = .ok (.getfield 119, 3) := by decide +kernel
theorem dX8_ofCart_40 : decode cX8_ofCart 40 = .ok (.ireturn, 1) := by decide +kernel
theorem dX8_ofCart_41 : decode cX8_ofCart 41 = .ok (.aload_n 0, 1) := by decide +kernel
theorem dX8_ofCart_42 : decode cX8_ofCart 42 = .ok (.getfield 19, 3) := by decide +kernel
theorem dX8_ofCart_45 : decode cX8_ofCart 45 = .ok (.getfield 122, 3) := by decide +kernel
theorem dX8_ofCart_48 : decode cX8_ofCart 48 = .ok (.ireturn, 1) := by decide +kernel
theorem dX8_ofCart_49 : decode cX8_ofCart 49 = .ok (.aload_n 0, 1) := by decide +kernel
theorem dX8_ofCart_50 : decode cX8_ofCart 50 = .ok (.getfield 19, 3) := by decide +kernel
theorem dX8_ofCart_53 : decode cX8_ofCart 53 = .ok (.getfield 125, 3) := by decide +kernel
theorem dX8_ofCart_56 : decode cX8_ofCart 56 = .ok (.ireturn, 1) := by decide +kernel
theorem dX8_ofCart_57 : decode cX8_ofCart 57 = .ok (.aload_n 0, 1) := by decide +kernel
theorem dX8_ofCart_58 : decode cX8_ofCart 58 = .ok (.getfield 19, 3) := by decide +kernel
theorem dX8_ofCart_61 : decode cX8_ofCart 61 = .ok (.getfield 128, 3) := by decide +kernel
theorem dX8_ofCart_64 : decode cX8_ofCart 64 = .ok (.ireturn, 1) := by decide +kernel
theorem dX8_ofCart_65 : decode cX8_ofCart 65 = .ok (.aload_n 0, 1) := by decide +kernel
theorem dX8_ofCart_66 : decode cX8_ofCart 66 = .ok (.getfield 19, 3) := by decide +kernel
theorem dX8_ofCart_69 : decode cX8_ofCart 69 = .ok (.getfield 131, 3) := by decide +kernel
theorem dX8_ofCart_72 : decode cX8_ofCart 72 = .ok (.invokestatic 135, 3) := by decide +kernel
theorem dX8_ofCart_75 : decode cX8_ofCart 75 = .ok (.ireturn, 1) := by decide +kernel
theorem dX8_ofCart_76 : decode cX8_ofCart 76 = .ok (.iconst (-1), 1) := by decide +kernel
theorem dX8_ofCart_77 : decode cX8_ofCart 77 = .ok (.ireturn, 1) := by decide +kernel
theorem dX8_heights_0 : decode cX8_heights 0 = .ok (.iload_n 1, 1) := by decide +kernel
theorem dX8_heights_1 : decode cX8_heights 1 = .ok (.invokestatic 141, 3) := by decide +kernel
theorem dX8_heights_4 : decode cX8_heights 4 = .ok (.ifCond .eq 7, 3) := by decide +kernel
theorem dX8_heights_7 : decode cX8_heights 7 = .ok (.iload_n 3, 1) := by decide +kernel
theorem dX8_heights_8 : decode cX8_heights 8 = .ok (.ifCond .ge 5, 3) := by decide +kernel
theorem dX8_heights_11 : decode cX8_heights 11 = .ok (.iconst (-1), 1) := by decide +kernel
theorem dX8_heights_12 : decode cX8_heights 12 = .ok (.ireturn, 1) := by decide +kernel
theorem dX8_heights_13 : decode cX8_heights 13 = .ok (.iload_n 3, 1) := by decide +kernel
theorem dX8_heights_14 : decode cX8_heights 14 = .ok (.bipush 100, 2) := by decide +kernel
theorem dX8_heights_16 : decode cX8_heights 16 = .ok (.idiv, 1) := by decide +kernel
theorem dX8_heights_17 : decode cX8_heights 17 = .ok (.istore 4, 2) := by decide +kernel
theorem dX8_heights_19 : decode cX8_heights 19 = .ok (.iload_n 3, 1) := by decide +kernel
theorem dX8_heights_20 : decode cX8_heights 20 = .ok (.bipush 100, 2) := by decide +kernel
theorem dX8_heights_22 : decode cX8_heights 22 = .ok (.irem, 1) := by decide +kernel
theorem dX8_heights_23 : decode cX8_heights 23 = .ok (.istore 5, 2) := by decide +kernel
theorem dX8_heights_25 : decode cX8_heights 25 = .ok (.iload 4, 2) := by decide +kernel
theorem dX8_heights_27 : decode cX8_heights 27 = .ok (.invokestatic 109, 3) := by decide +kernel
theorem dX8_heights_30 : decode cX8_heights 30 = .ok (.ifCond .eq 16, 3) := by decide +kernel
theorem dX8_heights_33 : decode cX8_heights 33 = .ok (.iload 5, 2) := by decide +kernel
theorem dX8_heights_35 : decode cX8_heights 35 = .ok (.iconst 1, 1) := by decide +kernel
theorem dX8_heights_36 : decode cX8_heights 36 = .ok (.if_icmp .lt 10, 3) := by decide +kernel
theorem dX8_heights_39 : decode cX8_heights 39 = .ok (.iload 5, 2) := by decide +kernel
theorem dX8_heights_41 : decode cX8_heights 41 = .ok (.bipush 36, 2) := by decide +kernel
theorem dX8_heights_43 : decode cX8_heights 43 = .ok (.if_icmp .le 5, 3) := by decide +kernel
theorem dX8_heights_46 : decode cX8_heights 46 = .ok (.iconst (-1), 1) := by decide +kernel
theorem dX8_heights_47 : decode cX8_heights 47 = .ok (.ireturn, 1) := by decide +kernel
theorem dX8_heights_48 : decode cX8_heights 48 = .ok (.aload_n 0, 1) := by decide +kernel
theorem dX8_heights_49 : decode cX8_heights 49 = .ok (.getfield 67, 3) := by decide +kernel
theorem dX8_heights_52 : decode cX8_heights 52 = .ok (.iload_n 1, 1) := by decide +kernel
theorem dX8_heights_53 : decode cX8_heights 53 = .ok (.aaload, 1) := by decide +kernel
theorem dX8_heights_54 : decode cX8_heights 54 = .ok (.invokevirtual 144, 3) := by decide +kernel
theorem dX8_heights_57 : decode cX8_heights 57 = .ok (.ifCond .eq 5, 3) := by decide +kernel
theorem dX8_heights_60 : decode cX8_heights 60 = .ok (.iconst 0, 1) := by decide +kernel
theorem dX8_heights_61 : decode cX8_heights 61 = .ok (.ireturn, 1) := by decide +kernel
theorem dX8_heights_62 : decode cX8_heights 62 = .ok (.aload_n 0, 1) := by decide +kernel
theorem dX8_heights_63 : decode cX8_heights 63 = .ok (.getfield 67, 3) := by decide +kernel
theorem dX8_heights_66 : decode cX8_heights 66 = .ok (.iload_n 1, 1) := by decide +kernel
theorem dX8_heights_67 : decode cX8_heights 67 = .ok (.aaload, 1) := by decide +kernel
theorem dX8_heights_68 : decode cX8_heights 68 = .ok (.invokevirtual 148, 3) := by decide +kernel
theorem dX8_heights_71 : decode cX8_heights 71 = .ok (.ifCond .ne 6, 3) := by decide +kernel
theorem dX8_heights_74 : decode cX8_heights 74 = .ok (.bipush (-12), 2) := by decide +kernel
theorem dX8_heights_76 : decode cX8_heights 76 = .ok (.ireturn, 1) := by decide +kernel
theorem dX8_heights_77 : decode cX8_heights 77 = .ok (.aload_n 0, 1) := by decide +kernel
theorem dX8_heights_78 : decode cX8_heights 78 = .ok (.aload_n 0, 1) := by decide +kernel
theorem dX8_heights_79 : decode cX8_heights 79 = .ok (.getfield 67, 3) := by decide +kernel
theorem dX8_heights_82 : decode cX8_heights 82 = .ok (.iload_n 1, 1) := by decide +kernel
theorem dX8_heights_83 : decode cX8_heights 83 = .ok (.aaload, 1) := by decide +kernel
theorem dX8_heights_84 : decode cX8_heights 84 = .ok (.iload_n 2, 1) := by decide +kernel
theorem dX8_heights_85 : decode cX8_heights 85 = .ok (.iload 4, 2) := by decide +kernel
theorem dX8_heights_87 : decode cX8_heights 87 = .ok (.iload 5, 2) := by decide +kernel
theorem dX8_heights_89 : decode cX8_heights 89 = .ok (.invokevirtual 151, 3) := by decide +kernel
theorem dX8_heights_92 : decode cX8_heights 92 = .ok (.ireturn, 1) := by decide +kernel
theorem dX8_heightsFrom_0 : decode cX8_heightsFrom 0 = .ok (.iconst 0, 1) := by decide +kernel
theorem dX8_heightsFrom_1 : decode cX8_heightsFrom 1 = .ok (.istore 5, 2) := by decide +kernel
theorem dX8_heightsFrom_3 : decode cX8_heightsFrom 3 = .ok (.iconst 0, 1) := by decide +kernel
theorem dX8_heightsFrom_4 : decode cX8_heightsFrom 4 = .ok (.istore 6, 2) := by decide +kernel
theorem dX8_heightsFrom_6 : decode cX8_heightsFrom 6 = .ok (.iload 6, 2) := by decide +kernel
theorem dX8_heightsFrom_8 : decode cX8_heightsFrom 8 = .ok (.iload 4, 2) := by decide +kernel
theorem dX8_heightsFrom_10 : decode cX8_heightsFrom 10 = .ok (.if_icmp .ge 79, 3) := by decide +kernel
theorem dX8_heightsFrom_13 : decode cX8_heightsFrom 13 = .ok (.iload_n 3, 1) := by decide +kernel
theorem dX8_heightsFrom_14 : decode cX8_heightsFrom 14 = .ok (.iload 6, 2) := by decide +kernel
theorem dX8_heightsFrom_16 : decode cX8_heightsFrom 16 = .ok (.iadd, 1) := by decide +kernel
theorem dX8_heightsFrom_17 : decode cX8_heightsFrom 17 = .ok (.iconst 0, 1) := by decide +kernel
theorem dX8_heightsFrom_18 : decode cX8_heightsFrom 18 = .ok (.invokestatic 83, 3) := by decide +kernel
theorem dX8_heightsFrom_21 : decode cX8_heightsFrom 21 = .ok (.istore 7, 2) := by decide +kernel
theorem dX8_heightsFrom_23 : decode cX8_heightsFrom 23 = .ok (.iload 7, 2) := by decide +kernel
theorem dX8_heightsFrom_25 : decode cX8_heightsFrom 25 = .ok (.ifCond .lt 64, 3) := by decide +kernel
theorem dX8_heightsFrom_28 : decode cX8_heightsFrom 28 = .ok (.iload_n 2, 1) := by decide +kernel
theorem dX8_heightsFrom_29 : decode cX8_heightsFrom 29 = .ok (.ifCond .lt 60, 3) := by decide +kernel
theorem dX8_heightsFrom_32 : decode cX8_heightsFrom 32 = .ok (.iload_n 2, 1) := by decide +kernel
theorem dX8_heightsFrom_33 : decode cX8_heightsFrom 33 = .ok (.aload_n 1, 1) := by decide +kernel
theorem dX8_heightsFrom_34 : decode cX8_heightsFrom 34 = .ok (.getfield 155, 3) := by decide +kernel
theorem dX8_heightsFrom_37 : decode cX8_heightsFrom 37 = .ok (.iload 6, 2) := by decide +kernel
theorem dX8_heightsFrom_39 : decode cX8_heightsFrom 39 = .ok (.isub, 1) := by decide +kernel
theorem dX8_heightsFrom_40 : decode cX8_heightsFrom 40 = .ok (.if_icmp .lt 6, 3) := by decide +kernel
theorem dX8_heightsFrom_43 : decode cX8_heightsFrom 43 = .ok (.goto 46, 3) := by decide +kernel
theorem dX8_heightsFrom_46 : decode cX8_heightsFrom 46 = .ok (.aload_n 1, 1) := by decide +kernel
theorem dX8_heightsFrom_47 : decode cX8_heightsFrom 47 = .ok (.iload_n 2, 1) := by decide +kernel
theorem dX8_heightsFrom_48 : decode cX8_heightsFrom 48 = .ok (.iload 6, 2) := by decide +kernel
theorem dX8_heightsFrom_50 : decode cX8_heightsFrom 50 = .ok (.iadd, 1) := by decide +kernel
theorem dX8_heightsFrom_51 : decode cX8_heightsFrom 51 = .ok (.invokevirtual 158, 3) := by decide +kernel
theorem dX8_heightsFrom_54 : decode cX8_heightsFrom 54 = .ok (.l2i, 1) := by decide +kernel
theorem dX8_heightsFrom_55 : decode cX8_heightsFrom 55 = .ok (.istore 8, 2) := by decide +kernel
theorem dX8_heightsFrom_57 : decode cX8_heightsFrom 57 = .ok (.iconst 0, 1) := by decide +kernel
theorem dX8_heightsFrom_58 : decode cX8_heightsFrom 58 = .ok (.iload 8, 2) := by decide +kernel
theorem dX8_heightsFrom_60 : decode cX8_heightsFrom 60 = .ok (.invokestatic 87, 3) := by decide +kernel
theorem dX8_heightsFrom_63 : decode cX8_heightsFrom 63 = .ok (.ifCond .ne 6, 3) := by decide +kernel
theorem dX8_heightsFrom_66 : decode cX8_heightsFrom 66 = .ok (.goto 23, 3) := by decide +kernel
theorem dX8_heightsFrom_69 : decode cX8_heightsFrom 69 = .ok (.aload_n 0, 1) := by decide +kernel
theorem dX8_heightsFrom_70 : decode cX8_heightsFrom 70 = .ok (.getfield 10, 3) := by decide +kernel
theorem dX8_heightsFrom_73 : decode cX8_heightsFrom 73 = .ok (.iload 7, 2) := by decide +kernel
theorem dX8_heightsFrom_75 : decode cX8_heightsFrom 75 = .ok (.iload 8, 2) := by decide +kernel
theorem dX8_heightsFrom_77 : decode cX8_heightsFrom 77 = .ok (.invokevirtual 95, 3) := by decide +kernel
theorem dX8_heightsFrom_80 : decode cX8_heightsFrom 80 = .ok (.iinc 5 1, 3) := by decide +kernel
theorem dX8_heightsFrom_83 : decode cX8_heightsFrom 83 = .ok (.iinc 6 1, 3) := by decide +kernel
theorem dX8_heightsFrom_86 : decode cX8_heightsFrom 86 = .ok (.goto (-80), 3) := by decide +kernel
theorem dX8_heightsFrom_89 : decode cX8_heightsFrom 89 = .ok (.iload 5, 2) := by decide +kernel
theorem dX8_heightsFrom_91 : decode cX8_heightsFrom 91 = .ok (.ireturn, 1) := by decide +kernel
theorem dX8_feed_0 : decode cX8_feed 0 = .ok (.iload_n 1, 1) := by decide +kernel
theorem dX8_feed_1 : decode cX8_feed 1 = .ok (.ifCond .lt 10, 3) := by decide +kernel
theorem dX8_feed_4 : decode cX8_feed 4 = .ok (.iload_n 1, 1) := by decide +kernel
theorem dX8_feed_5 : decode cX8_feed 5 = .ok (.sipush 255, 3) := by decide +kernel
theorem dX8_feed_8 : decode cX8_feed 8 = .ok (.if_icmp .le 5, 3) := by decide +kernel
theorem dX8_feed_11 : decode cX8_feed 11 = .ok (.iconst (-1), 1) := by decide +kernel
theorem dX8_feed_12 : decode cX8_feed 12 = .ok (.ireturn, 1) := by decide +kernel
theorem dX8_feed_13 : decode cX8_feed 13 = .ok (.aload_n 0, 1) := by decide +kernel
theorem dX8_feed_14 : decode cX8_feed 14 = .ok (.getfield 40, 3) := by decide +kernel
theorem dX8_feed_17 : decode cX8_feed 17 = .ok (.iload_n 1, 1) := by decide +kernel
theorem dX8_feed_18 : decode cX8_feed 18 = .ok (.invokevirtual 162, 3) := by decide +kernel
theorem dX8_feed_21 : decode cX8_feed 21 = .ok (.ifCond .eq 13, 3) := by decide +kernel
theorem dX8_feed_24 : decode cX8_feed 24 = .ok (.aload_n 0, 1) := by decide +kernel
theorem dX8_feed_25 : decode cX8_feed 25 = .ok (.getfield 40, 3) := by decide +kernel
theorem dX8_feed_28 : decode cX8_feed 28 = .ok (.getfield 165, 3) := by decide +kernel
theorem dX8_feed_31 : decode cX8_feed 31 = .ok (.goto 5, 3) := by decide +kernel
theorem dX8_feed_34 : decode cX8_feed 34 = .ok (.bipush (-3), 2) := by decide +kernel
theorem dX8_feed_36 : decode cX8_feed 36 = .ok (.ireturn, 1) := by decide +kernel
theorem dX8_law_0 : decode cX8_law 0 = .ok (.aload_n 0, 1) := by decide +kernel
theorem dX8_law_1 : decode cX8_law 1 = .ok (.getfield 40, 3) := by decide +kernel
theorem dX8_law_4 : decode cX8_law 4 = .ok (.invokevirtual 168, 3) := by decide +kernel
theorem dX8_law_7 : decode cX8_law 7 = .ok (.istore_n 1, 1) := by decide +kernel
theorem dX8_law_8 : decode cX8_law 8 = .ok (.iload_n 1, 1) := by decide +kernel
theorem dX8_law_9 : decode cX8_law 9 = .ok (.ifCond .ge 7, 3) := by decide +kernel
theorem dX8_law_12 : decode cX8_law 12 = .ok (.iconst 1, 1) := by decide +kernel
theorem dX8_law_13 : decode cX8_law 13 = .ok (.goto 7, 3) := by decide +kernel
theorem dX8_law_16 : decode cX8_law 16 = .ok (.bipush (-100), 2) := by decide +kernel
theorem dX8_law_18 : decode cX8_law 18 = .ok (.iload_n 1, 1) := by decide +kernel
theorem dX8_law_19 : decode cX8_law 19 = .ok (.isub, 1) := by decide +kernel
theorem dX8_law_20 : decode cX8_law 20 = .ok (.ireturn, 1) := by decide +kernel
theorem dX8_cost_0 : decode cX8_cost 0 = .ok (.iload_n 1, 1) := by decide +kernel
theorem dX8_cost_1 : decode cX8_cost 1 = .ok (.invokestatic 109, 3) := by decide +kernel
theorem dX8_cost_4 : decode cX8_cost 4 = .ok (.ifCond .eq 13, 3) := by decide +kernel
theorem dX8_cost_7 : decode cX8_cost 7 = .ok (.iload_n 2, 1) := by decide +kernel
theorem dX8_cost_8 : decode cX8_cost 8 = .ok (.iconst 1, 1) := by decide +kernel
theorem dX8_cost_9 : decode cX8_cost 9 = .ok (.if_icmp .lt 8, 3) := by decide +kernel
theorem dX8_cost_12 : decode cX8_cost 12 = .ok (.iload_n 2, 1) := by decide +kernel
theorem dX8_cost_13 : decode cX8_cost 13 = .ok (.iconst 4, 1) := by decide +kernel
theorem dX8_cost_14 : decode cX8_cost 14 = .ok (.if_icmp .le 5, 3) := by decide +kernel
theorem dX8_cost_17 : decode cX8_cost 17 = .ok (.iconst (-1), 1) := by decide +kernel
theorem dX8_cost_18 : decode cX8_cost 18 = .ok (.ireturn, 1) := by decide +kernel
theorem dX8_cost_19 : decode cX8_cost 19 = .ok (.iload_n 1, 1) := by decide +kernel
theorem dX8_cost_20 : decode cX8_cost 20 = .ok (.iload_n 2, 1) := by decide +kernel
theorem dX8_cost_21 : decode cX8_cost 21 = .ok (.invokestatic 172, 3) := by decide +kernel
theorem dX8_cost_24 : decode cX8_cost 24 = .ok (.istore_n 3, 1) := by decide +kernel
theorem dX8_cost_25 : decode cX8_cost 25 = .ok (.iload_n 3, 1) := by decide +kernel
theorem dX8_cost_26 : decode cX8_cost 26 = .ok (.ifCond .ge 8, 3) := by decide +kernel
theorem dX8_cost_29 : decode cX8_cost 29 = .ok (.bipush (-2), 2) := by decide +kernel
theorem dX8_cost_31 : decode cX8_cost 31 = .ok (.goto 12, 3) := by decide +kernel
theorem dX8_cost_34 : decode cX8_cost 34 = .ok (.aload_n 0, 1) := by decide +kernel
theorem dX8_cost_35 : decode cX8_cost 35 = .ok (.getfield 10, 3) := by decide +kernel
theorem dX8_cost_38 : decode cX8_cost 38 = .ok (.iload_n 1, 1) := by decide +kernel
theorem dX8_cost_39 : decode cX8_cost 39 = .ok (.iload_n 3, 1) := by decide +kernel
theorem dX8_cost_40 : decode cX8_cost 40 = .ok (.invokevirtual 175, 3) := by decide +kernel
theorem dX8_cost_43 : decode cX8_cost 43 = .ok (.ireturn, 1) := by decide +kernel
theorem dX8_order_0 : decode cX8_order 0 = .ok (.aload_n 0, 1) := by decide +kernel
theorem dX8_order_1 : decode cX8_order 1 = .ok (.getfield 119, 3) := by decide +kernel
theorem dX8_order_4 : decode cX8_order 4 = .ok (.bipush 60, 2) := by decide +kernel
theorem dX8_order_6 : decode cX8_order 6 = .ok (.if_icmp .lt 8, 3) := by decide +kernel
theorem dX8_order_9 : decode cX8_order 9 = .ok (.bipush (-5), 2) := by decide +kernel
theorem dX8_order_11 : decode cX8_order 11 = .ok (.goto 22, 3) := by decide +kernel
theorem dX8_order_14 : decode cX8_order 14 = .ok (.aload_n 0, 1) := by decide +kernel
theorem dX8_order_15 : decode cX8_order 15 = .ok (.getfield 40, 3) := by decide +kernel
theorem dX8_order_18 : decode cX8_order 18 = .ok (.aload_n 0, 1) := by decide +kernel
theorem dX8_order_19 : decode cX8_order 19 = .ok (.getfield 10, 3) := by decide +kernel
theorem dX8_order_22 : decode cX8_order 22 = .ok (.aload_n 0, 1) := by decide +kernel
theorem dX8_order_23 : decode cX8_order 23 = .ok (.getfield 19, 3) := by decide +kernel
theorem dX8_order_26 : decode cX8_order 26 = .ok (.aload_n 0, 1) := by decide +kernel
theorem dX8_order_27 : decode cX8_order 27 = .ok (.getfield 119, 3) := by decide +kernel
theorem dX8_order_30 : decode cX8_order 30 = .ok (.invokevirtual 178, 3) := by decide +kernel
theorem dX8_order_33 : decode cX8_order 33 = .ok (.ireturn, 1) := by decide +kernel
theorem dX8_day_0 : decode cX8_day 0 = .ok (.iload_n 1, 1) := by decide +kernel
theorem dX8_day_1 : decode cX8_day 1 = .ok (.ifCond .lt 8, 3) := by decide +kernel
theorem dX8_day_4 : decode cX8_day 4 = .ok (.iload_n 1, 1) := by decide +kernel
theorem dX8_day_5 : decode cX8_day 5 = .ok (.iconst 5, 1) := by decide +kernel
theorem dX8_day_6 : decode cX8_day 6 = .ok (.if_icmp .le 5, 3) := by decide +kernel
theorem dX8_day_9 : decode cX8_day 9 = .ok (.iconst (-1), 1) := by decide +kernel
theorem dX8_day_10 : decode cX8_day 10 = .ok (.ireturn, 1) := by decide +kernel
theorem dX8_day_11 : decode cX8_day 11 = .ok (.aload_n 0, 1) := by decide +kernel
theorem dX8_day_12 : decode cX8_day 12 = .ok (.getfield 119, 3) := by decide +kernel
theorem dX8_day_15 : decode cX8_day 15 = .ok (.bipush 60, 2) := by decide +kernel
theorem dX8_day_17 : decode cX8_day 17 = .ok (.if_icmp .lt 6, 3) := by decide +kernel
theorem dX8_day_20 : decode cX8_day 20 = .ok (.bipush (-5), 2) := by decide +kernel
theorem dX8_day_22 : decode cX8_day 22 = .ok (.ireturn, 1) := by decide +kernel
theorem dX8_day_23 : decode cX8_day 23 = .ok (.aload_n 0, 1) := by decide +kernel
theorem dX8_day_24 : decode cX8_day 24 = .ok (.iload_n 1, 1) := by decide +kernel
theorem dX8_day_25 : decode cX8_day 25 = .ok (.invokevirtual 182, 3) := by decide +kernel
theorem dX8_day_28 : decode cX8_day 28 = .ok (.ifCond .eq 7, 3) := by decide +kernel
theorem dX8_day_31 : decode cX8_day 31 = .ok (.iconst 1, 1) := by decide +kernel
theorem dX8_day_32 : decode cX8_day 32 = .ok (.goto 4, 3) := by decide +kernel
theorem dX8_day_35 : decode cX8_day 35 = .ok (.iconst 0, 1) := by decide +kernel
theorem dX8_day_36 : decode cX8_day 36 = .ok (.ireturn, 1) := by decide +kernel
theorem dX8_days_0 : decode cX8_days 0 = .ok (.iload_n 1, 1) := by decide +kernel
theorem dX8_days_1 : decode cX8_days 1 = .ok (.iconst 1, 1) := by decide +kernel
theorem dX8_days_2 : decode cX8_days 2 = .ok (.if_icmp .lt 9, 3) := by decide +kernel
theorem dX8_days_5 : decode cX8_days 5 = .ok (.iload_n 1, 1) := by decide +kernel
theorem dX8_days_6 : decode cX8_days 6 = .ok (.bipush 60, 2) := by decide +kernel
theorem dX8_days_8 : decode cX8_days 8 = .ok (.if_icmp .le 5, 3) := by decide +kernel
theorem dX8_days_11 : decode cX8_days 11 = .ok (.iconst (-1), 1) := by decide +kernel
theorem dX8_days_12 : decode cX8_days 12 = .ok (.ireturn, 1) := by decide +kernel
theorem dX8_days_13 : decode cX8_days 13 = .ok (.iload_n 1, 1) := by decide +kernel
theorem dX8_days_14 : decode cX8_days 14 = .ok (.bipush 60, 2) := by decide +kernel
theorem dX8_days_16 : decode cX8_days 16 = .ok (.aload_n 0, 1) := by decide +kernel
theorem dX8_days_17 : decode cX8_days 17 = .ok (.getfield 119, 3) := by decide +kernel
theorem dX8_days_20 : decode cX8_days 20 = .ok (.isub, 1) := by decide +kernel
theorem dX8_days_21 : decode cX8_days 21 = .ok (.if_icmp .le 6, 3) := by decide +kernel
theorem dX8_days_24 : decode cX8_days 24 = .ok (.bipush (-5), 2) := by decide +kernel
theorem dX8_days_26 : decode cX8_days 26 = .ok (.ireturn, 1) := by decide +kernel
theorem dX8_days_27 : decode cX8_days 27 = .ok (.iconst 0, 1) := by decide +kernel
theorem dX8_days_28 : decode cX8_days 28 = .ok (.istore_n 2, 1) := by decide +kernel
theorem dX8_days_29 : decode cX8_days 29 = .ok (.iconst 0, 1) := by decide +kernel
theorem dX8_days_30 : decode cX8_days 30 = .ok (.istore_n 3, 1) := by decide +kernel
theorem dX8_days_31 : decode cX8_days 31 = .ok (.iload_n 3, 1) := by decide +kernel
theorem dX8_days_32 : decode cX8_days 32 = .ok (.iload_n 1, 1) := by decide +kernel
theorem dX8_days_33 : decode cX8_days 33 = .ok (.if_icmp .ge 38, 3) := by decide +kernel
theorem dX8_days_36 : decode cX8_days 36 = .ok (.aload_n 0, 1) := by decide +kernel
theorem dX8_days_37 : decode cX8_days 37 = .ok (.aload_n 0, 1) := by decide +kernel
theorem dX8_days_38 : decode cX8_days 38 = .ok (.getfield 40, 3) := by decide +kernel
theorem dX8_days_41 : decode cX8_days 41 = .ok (.aload_n 0, 1) := by decide +kernel
theorem dX8_days_42 : decode cX8_days 42 = .ok (.getfield 10, 3) := by decide +kernel
theorem dX8_days_45 : decode cX8_days 45 = .ok (.aload_n 0, 1) := by decide +kernel
theorem dX8_days_46 : decode cX8_days 46 = .ok (.getfield 19, 3) := by decide +kernel
theorem dX8_days_49 : decode cX8_days 49 = .ok (.aload_n 0, 1) := by decide +kernel
theorem dX8_days_50 : decode cX8_days 50 = .ok (.getfield 119, 3) := by decide +kernel
theorem dX8_days_53 : decode cX8_days 53 = .ok (.invokevirtual 178, 3) := by decide +kernel
theorem dX8_days_56 : decode cX8_days 56 = .ok (.invokevirtual 182, 3) := by decide +kernel
theorem dX8_days_59 : decode cX8_days 59 = .ok (.ifCond .eq 6, 3) := by decide +kernel
theorem dX8_days_62 : decode cX8_days 62 = .ok (.iinc 2 1, 3) := by decide +kernel
theorem dX8_days_65 : decode cX8_days 65 = .ok (.iinc 3 1, 3) := by decide +kernel
theorem dX8_days_68 : decode cX8_days 68 = .ok (.goto (-37), 3) := by decide +kernel
theorem dX8_days_71 : decode cX8_days 71 = .ok (.iload_n 2, 1) := by decide +kernel
theorem dX8_days_72 : decode cX8_days 72 = .ok (.ireturn, 1) := by decide +kernel
theorem dX8_live_0 : decode cX8_live 0 = .ok (.aload_n 0, 1) := by decide +kernel
theorem dX8_live_1 : decode cX8_live 1 = .ok (.getfield 119, 3) := by decide +kernel
theorem dX8_live_4 : decode cX8_live 4 = .ok (.bipush 60, 2) := by decide +kernel
theorem dX8_live_6 : decode cX8_live 6 = .ok (.if_icmp .lt 5, 3) := by decide +kernel
theorem dX8_live_9 : decode cX8_live 9 = .ok (.iconst 0, 1) := by decide +kernel
theorem dX8_live_10 : decode cX8_live 10 = .ok (.ireturn, 1) := by decide +kernel
theorem dX8_live_11 : decode cX8_live 11 = .ok (.aload_n 0, 1) := by decide +kernel
theorem dX8_live_12 : decode cX8_live 12 = .ok (.getfield 19, 3) := by decide +kernel
theorem dX8_live_15 : decode cX8_live 15 = .ok (.aload_n 0, 1) := by decide +kernel
theorem dX8_live_16 : decode cX8_live 16 = .ok (.getfield 10, 3) := by decide +kernel
theorem dX8_live_19 : decode cX8_live 19 = .ok (.aload_n 0, 1) := by decide +kernel
theorem dX8_live_20 : decode cX8_live 20 = .ok (.getfield 119, 3) := by decide +kernel
theorem dX8_live_23 : decode cX8_live 23 = .ok (.iload_n 1, 1) := by decide +kernel
theorem dX8_live_24 : decode cX8_live 24 = .ok (.invokevirtual 185, 3) := by decide +kernel
theorem dX8_live_27 : decode cX8_live 27 = .ok (.istore_n 2, 1) := by decide +kernel
theorem dX8_live_28 : decode cX8_live 28 = .ok (.aload_n 0, 1) := by decide +kernel
theorem dX8_live_29 : decode cX8_live 29 = .ok (.getfield 29, 3) := by decide +kernel
theorem dX8_live_32 : decode cX8_live 32 = .ok (.aload_n 0, 1) := by decide +kernel
theorem dX8_live_33 : decode cX8_live 33 = .ok (.getfield 119, 3) := by decide +kernel
theorem dX8_live_36 : decode cX8_live 36 = .ok (.iload_n 1, 1) := by decide +kernel
theorem dX8_live_37 : decode cX8_live 37 = .ok (.iastore, 1) := by decide +kernel
theorem dX8_live_38 : decode cX8_live 38 = .ok (.aload_n 0, 1) := by decide +kernel
theorem dX8_live_39 : decode cX8_live 39 = .ok (.getfield 33, 3) := by decide +kernel
theorem dX8_live_42 : decode cX8_live 42 = .ok (.aload_n 0, 1) := by decide +kernel
theorem dX8_live_43 : decode cX8_live 43 = .ok (.getfield 119, 3) := by decide +kernel
theorem dX8_live_46 : decode cX8_live 46 = .ok (.iload_n 2, 1) := by decide +kernel
theorem dX8_live_47 : decode cX8_live 47 = .ok (.bastore, 1) := by decide +kernel
theorem dX8_live_48 : decode cX8_live 48 = .ok (.aload_n 0, 1) := by decide +kernel
theorem dX8_live_49 : decode cX8_live 49 = .ok (.dup, 1) := by decide +kernel
theorem dX8_live_50 : decode cX8_live 50 = .ok (.getfield 119, 3) := by decide +kernel
theorem dX8_live_53 : decode cX8_live 53 = .ok (.iconst 1, 1) := by decide +kernel
theorem dX8_live_54 : decode cX8_live 54 = .ok (.iadd, 1) := by decide +kernel
theorem dX8_live_55 : decode cX8_live 55 = .ok (.putfield 119, 3) := by decide +kernel
theorem dX8_live_58 : decode cX8_live 58 = .ok (.iload_n 2, 1) := by decide +kernel
theorem dX8_live_59 : decode cX8_live 59 = .ok (.ireturn, 1) := by decide +kernel
theorem dX8_led_0 : decode cX8_led 0 = .ok (.iload_n 1, 1) := by decide +kernel
theorem dX8_led_1 : decode cX8_led 1 = .ok (.ifCond .lt 25, 3) := by decide +kernel
theorem dX8_led_4 : decode cX8_led 4 = .ok (.iload_n 1, 1) := by decide +kernel
theorem dX8_led_5 : decode cX8_led 5 = .ok (.aload_n 0, 1) := by decide +kernel
theorem dX8_led_6 : decode cX8_led 6 = .ok (.getfield 119, 3) := by decide +kernel
theorem dX8_led_9 : decode cX8_led 9 = .ok (.if_icmp .ge 17, 3) := by decide +kernel
theorem dX8_led_12 : decode cX8_led 12 = .ok (.iload_n 1, 1) := by decide +kernel
theorem dX8_led_13 : decode cX8_led 13 = .ok (.bipush 60, 2) := by decide +kernel
theorem dX8_led_15 : decode cX8_led 15 = .ok (.if_icmp .ge 11, 3) := by decide +kernel
theorem dX8_led_18 : decode cX8_led 18 = .ok (.iload_n 2, 1) := by decide +kernel
theorem dX8_led_19 : decode cX8_led 19 = .ok (.iconst 2, 1) := by decide +kernel
theorem dX8_led_20 : decode cX8_led 20 = .ok (.invokestatic 188, 3) := by decide +kernel
theorem dX8_led_23 : decode cX8_led 23 = .ok (.ifCond .ne 5, 3) := by decide +kernel
theorem dX8_led_26 : decode cX8_led 26 = .ok (.iconst (-1), 1) := by decide +kernel
theorem dX8_led_27 : decode cX8_led 27 = .ok (.ireturn, 1) := by decide +kernel
theorem dX8_led_28 : decode cX8_led 28 = .ok (.iload_n 2, 1) := by decide +kernel
theorem dX8_led_29 : decode cX8_led 29 = .ok (.ifCond .ne 10, 3) := by decide +kernel
theorem dX8_led_32 : decode cX8_led 32 = .ok (.aload_n 0, 1) := by decide +kernel
theorem dX8_led_33 : decode cX8_led 33 = .ok (.getfield 29, 3) := by decide +kernel
theorem dX8_led_36 : decode cX8_led 36 = .ok (.iload_n 1, 1) := by decide +kernel
theorem dX8_led_37 : decode cX8_led 37 = .ok (.iaload, 1) := by decide +kernel
theorem dX8_led_38 : decode cX8_led 38 = .ok (.ireturn, 1) := by decide +kernel
theorem dX8_led_39 : decode cX8_led 39 = .ok (.aload_n 0, 1) := by decide +kernel
theorem dX8_led_40 : decode cX8_led 40 = .ok (.getfield 33, 3) := by decide +kernel
theorem dX8_led_43 : decode cX8_led 43 = .ok (.iload_n 1, 1) := by decide +kernel
theorem dX8_led_44 : decode cX8_led 44 = .ok (.baload, 1) := by decide +kernel
theorem dX8_led_45 : decode cX8_led 45 = .ok (.ifCond .eq 7, 3) := by decide +kernel
theorem dX8_led_48 : decode cX8_led 48 = .ok (.iconst 1, 1) := by decide +kernel
theorem dX8_led_49 : decode cX8_led 49 = .ok (.goto 4, 3) := by decide +kernel
theorem dX8_led_52 : decode cX8_led 52 = .ok (.iconst 0, 1) := by decide +kernel
theorem dX8_led_53 : decode cX8_led 53 = .ok (.ireturn, 1) := by decide +kernel
theorem dX8_run_0 : decode cX8_run 0 = .ok (.iload_n 1, 1) := by decide +kernel
theorem dX8_run_1 : decode cX8_run 1 = .ok (.invokestatic 141, 3) := by decide +kernel
theorem dX8_run_4 : decode cX8_run 4 = .ok (.ifCond .eq 15, 3) := by decide +kernel
theorem dX8_run_7 : decode cX8_run 7 = .ok (.iload_n 2, 1) := by decide +kernel
theorem dX8_run_8 : decode cX8_run 8 = .ok (.ifCond .lt 11, 3) := by decide +kernel
theorem dX8_run_11 : decode cX8_run 11 = .ok (.iload_n 3, 1) := by decide +kernel
theorem dX8_run_12 : decode cX8_run 12 = .ok (.iconst 4, 1) := by decide +kernel
theorem dX8_run_13 : decode cX8_run 13 = .ok (.invokestatic 188, 3) := by decide +kernel
theorem dX8_run_16 : decode cX8_run 16 = .ok (.ifCond .ne 5, 3) := by decide +kernel
theorem dX8_run_19 : decode cX8_run 19 = .ok (.iconst (-1), 1) := by decide +kernel
theorem dX8_run_20 : decode cX8_run 20 = .ok (.ireturn, 1) := by decide +kernel
theorem dX8_run_21 : decode cX8_run 21 = .ok (.aload_n 0, 1) := by decide +kernel
theorem dX8_run_22 : decode cX8_run 22 = .ok (.iload_n 1, 1) := by decide +kernel
theorem dX8_run_23 : decode cX8_run 23 = .ok (.invokevirtual 191, 3) := by decide +kernel
theorem dX8_run_26 : decode cX8_run 26 = .ok (.istore 4, 2) := by decide +kernel
theorem dX8_run_28 : decode cX8_run 28 = .ok (.iload 4, 2) := by decide +kernel
theorem dX8_run_30 : decode cX8_run 30 = .ok (.ifCond .eq 6, 3) := by decide +kernel
theorem dX8_run_33 : decode cX8_run 33 = .ok (.iload 4, 2) := by decide +kernel
theorem dX8_run_35 : decode cX8_run 35 = .ok (.ireturn, 1) := by decide +kernel
theorem dX8_run_36 : decode cX8_run 36 = .ok (.iload_n 2, 1) := by decide +kernel
theorem dX8_run_37 : decode cX8_run 37 = .ok (.aload_n 0, 1) := by decide +kernel
theorem dX8_run_38 : decode cX8_run 38 = .ok (.getfield 67, 3) := by decide +kernel
theorem dX8_run_41 : decode cX8_run 41 = .ok (.iload_n 1, 1) := by decide +kernel
theorem dX8_run_42 : decode cX8_run 42 = .ok (.aaload, 1) := by decide +kernel
theorem dX8_run_43 : decode cX8_run 43 = .ok (.getfield 155, 3) := by decide +kernel
theorem dX8_run_46 : decode cX8_run 46 = .ok (.if_icmp .gt 14, 3) := by decide +kernel
theorem dX8_run_49 : decode cX8_run 49 = .ok (.iload_n 2, 1) := by decide +kernel
theorem dX8_run_50 : decode cX8_run 50 = .ok (.bipush 60, 2) := by decide +kernel
theorem dX8_run_52 : decode cX8_run 52 = .ok (.aload_n 0, 1) := by decide +kernel
theorem dX8_run_53 : decode cX8_run 53 = .ok (.getfield 119, 3) := by decide +kernel
theorem dX8_run_56 : decode cX8_run 56 = .ok (.isub, 1) := by decide +kernel
theorem dX8_run_57 : decode cX8_run 57 = .ok (.if_icmp .le 6, 3) := by decide +kernel
theorem dX8_run_60 : decode cX8_run 60 = .ok (.bipush (-5), 2) := by decide +kernel
theorem dX8_run_62 : decode cX8_run 62 = .ok (.ireturn, 1) := by decide +kernel
theorem dX8_run_63 : decode cX8_run 63 = .ok (.aload_n 0, 1) := by decide +kernel
theorem dX8_run_64 : decode cX8_run 64 = .ok (.getfield 23, 3) := by decide +kernel
theorem dX8_run_67 : decode cX8_run 67 = .ok (.aload_n 0, 1) := by decide +kernel
theorem dX8_run_68 : decode cX8_run 68 = .ok (.getfield 19, 3) := by decide +kernel
theorem dX8_run_71 : decode cX8_run 71 = .ok (.invokevirtual 194, 3) := by decide +kernel
theorem dX8_run_74 : decode cX8_run 74 = .ok (.iconst 0, 1) := by decide +kernel
theorem dX8_run_75 : decode cX8_run 75 = .ok (.istore 5, 2) := by decide +kernel
theorem dX8_run_77 : decode cX8_run 77 = .ok (.iload 5, 2) := by decide +kernel
theorem dX8_run_79 : decode cX8_run 79 = .ok (.iload_n 2, 1) := by decide +kernel
theorem dX8_run_80 : decode cX8_run 80 = .ok (.if_icmp .ge 39, 3) := by decide +kernel
theorem dX8_run_83 : decode cX8_run 83 = .ok (.aload_n 0, 1) := by decide +kernel
theorem dX8_run_84 : decode cX8_run 84 = .ok (.getfield 23, 3) := by decide +kernel
theorem dX8_run_87 : decode cX8_run 87 = .ok (.aload_n 0, 1) := by decide +kernel
theorem dX8_run_88 : decode cX8_run 88 = .ok (.getfield 10, 3) := by decide +kernel
theorem dX8_run_91 : decode cX8_run 91 = .ok (.aload_n 0, 1) := by decide +kernel
theorem dX8_run_92 : decode cX8_run 92 = .ok (.getfield 119, 3) := by decide +kernel
theorem dX8_run_95 : decode cX8_run 95 = .ok (.iload 5, 2) := by decide +kernel
theorem dX8_run_97 : decode cX8_run 97 = .ok (.iadd, 1) := by decide +kernel
theorem dX8_run_98 : decode cX8_run 98 = .ok (.aload_n 0, 1) := by decide +kernel
theorem dX8_run_99 : decode cX8_run 99 = .ok (.getfield 67, 3) := by decide +kernel
theorem dX8_run_102 : decode cX8_run 102 = .ok (.iload_n 1, 1) := by decide +kernel
theorem dX8_run_103 : decode cX8_run 103 = .ok (.aaload, 1) := by decide +kernel
theorem dX8_run_104 : decode cX8_run 104 = .ok (.iload 5, 2) := by decide +kernel
theorem dX8_run_106 : decode cX8_run 106 = .ok (.invokestatic 197, 3) := by decide +kernel
theorem dX8_run_109 : decode cX8_run 109 = .ok (.invokevirtual 185, 3) := by decide +kernel
theorem dX8_run_112 : decode cX8_run 112 = .ok (.pop, 1) := by decide +kernel
theorem dX8_run_113 : decode cX8_run 113 = .ok (.iinc 5 1, 3) := by decide +kernel
theorem dX8_run_116 : decode cX8_run 116 = .ok (.goto (-39), 3) := by decide +kernel
theorem dX8_run_119 : decode cX8_run 119 = .ok (.aload_n 0, 1) := by decide +kernel
theorem dX8_run_120 : decode cX8_run 120 = .ok (.iload_n 3, 1) := by decide +kernel
theorem dX8_run_121 : decode cX8_run 121 = .ok (.invokevirtual 201, 3) := by decide +kernel
theorem dX8_run_124 : decode cX8_run 124 = .ok (.ireturn, 1) := by decide +kernel
theorem dX8_first_0 : decode cX8_first 0 = .ok (.iload_n 1, 1) := by decide +kernel
theorem dX8_first_1 : decode cX8_first 1 = .ok (.invokestatic 141, 3) := by decide +kernel
theorem dX8_first_4 : decode cX8_first 4 = .ok (.ifCond .ne 5, 3) := by decide +kernel
theorem dX8_first_7 : decode cX8_first 7 = .ok (.iconst (-1), 1) := by decide +kernel
theorem dX8_first_8 : decode cX8_first 8 = .ok (.ireturn, 1) := by decide +kernel
theorem dX8_first_9 : decode cX8_first 9 = .ok (.aload_n 0, 1) := by decide +kernel
theorem dX8_first_10 : decode cX8_first 10 = .ok (.iload_n 1, 1) := by decide +kernel
theorem dX8_first_11 : decode cX8_first 11 = .ok (.invokevirtual 191, 3) := by decide +kernel
theorem dX8_first_14 : decode cX8_first 14 = .ok (.istore_n 2, 1) := by decide +kernel
theorem dX8_first_15 : decode cX8_first 15 = .ok (.iload_n 2, 1) := by decide +kernel
theorem dX8_first_16 : decode cX8_first 16 = .ok (.ifCond .eq 5, 3) := by decide +kernel
theorem dX8_first_19 : decode cX8_first 19 = .ok (.iload_n 2, 1) := by decide +kernel
theorem dX8_first_20 : decode cX8_first 20 = .ok (.ireturn, 1) := by decide +kernel
theorem dX8_first_21 : decode cX8_first 21 = .ok (.aload_n 0, 1) := by decide +kernel
theorem dX8_first_22 : decode cX8_first 22 = .ok (.getfield 67, 3) := by decide +kernel
theorem dX8_first_25 : decode cX8_first 25 = .ok (.iload_n 1, 1) := by decide +kernel
theorem dX8_first_26 : decode cX8_first 26 = .ok (.aaload, 1) := by decide +kernel
theorem dX8_first_27 : decode cX8_first 27 = .ok (.getfield 155, 3) := by decide +kernel
theorem dX8_first_30 : decode cX8_first 30 = .ok (.bipush 60, 2) := by decide +kernel
theorem dX8_first_32 : decode cX8_first 32 = .ok (.aload_n 0, 1) := by decide +kernel
theorem dX8_first_33 : decode cX8_first 33 = .ok (.getfield 119, 3) := by decide +kernel
theorem dX8_first_36 : decode cX8_first 36 = .ok (.isub, 1) := by decide +kernel
theorem dX8_first_37 : decode cX8_first 37 = .ok (.invokestatic 204, 3) := by decide +kernel
theorem dX8_first_40 : decode cX8_first 40 = .ok (.istore_n 3, 1) := by decide +kernel
theorem dX8_first_41 : decode cX8_first 41 = .ok (.aload_n 0, 1) := by decide +kernel
theorem dX8_first_42 : decode cX8_first 42 = .ok (.getfield 23, 3) := by decide +kernel
theorem dX8_first_45 : decode cX8_first 45 = .ok (.aload_n 0, 1) := by decide +kernel
theorem dX8_first_46 : decode cX8_first 46 = .ok (.getfield 19, 3) := by decide +kernel
theorem dX8_first_49 : decode cX8_first 49 = .ok (.invokevirtual 194, 3) := by decide +kernel
theorem dX8_first_52 : decode cX8_first 52 = .ok (.iconst 0, 1) := by decide +kernel
theorem dX8_first_53 : decode cX8_first 53 = .ok (.istore 4, 2) := by decide +kernel
theorem dX8_first_55 : decode cX8_first 55 = .ok (.iload 4, 2) := by decide +kernel
theorem dX8_first_57 : decode cX8_first 57 = .ok (.iload_n 3, 1) := by decide +kernel
theorem dX8_first_58 : decode cX8_first 58 = .ok (.if_icmp .ge 44, 3) := by decide +kernel
theorem dX8_first_61 : decode cX8_first 61 = .ok (.aload_n 0, 1) := by decide +kernel
theorem dX8_first_62 : decode cX8_first 62 = .ok (.getfield 23, 3) := by decide +kernel
theorem dX8_first_65 : decode cX8_first 65 = .ok (.aload_n 0, 1) := by decide +kernel
theorem dX8_first_66 : decode cX8_first 66 = .ok (.getfield 10, 3) := by decide +kernel
theorem dX8_first_69 : decode cX8_first 69 = .ok (.aload_n 0, 1) := by decide +kernel
theorem dX8_first_70 : decode cX8_first 70 = .ok (.getfield 119, 3) := by decide +kernel
theorem dX8_first_73 : decode cX8_first 73 = .ok (.iload 4, 2) := by decide +kernel
theorem dX8_first_75 : decode cX8_first 75 = .ok (.iadd, 1) := by decide +kernel
theorem dX8_first_76 : decode cX8_first 76 = .ok (.aload_n 0, 1) := by decide +kernel
theorem dX8_first_77 : decode cX8_first 77 = .ok (.getfield 67, 3) := by decide +kernel
theorem dX8_first_80 : decode cX8_first 80 = .ok (.iload_n 1, 1) := by decide +kernel
theorem dX8_first_81 : decode cX8_first 81 = .ok (.aaload, 1) := by decide +kernel
theorem dX8_first_82 : decode cX8_first 82 = .ok (.iload 4, 2) := by decide +kernel
theorem dX8_first_84 : decode cX8_first 84 = .ok (.invokestatic 197, 3) := by decide +kernel
theorem dX8_first_87 : decode cX8_first 87 = .ok (.invokevirtual 185, 3) := by decide +kernel
theorem dX8_first_90 : decode cX8_first 90 = .ok (.ifCond .ne 6, 3) := by decide +kernel
theorem dX8_first_93 : decode cX8_first 93 = .ok (.iload 4, 2) := by decide +kernel
theorem dX8_first_95 : decode cX8_first 95 = .ok (.ireturn, 1) := by decide +kernel
theorem dX8_first_96 : decode cX8_first 96 = .ok (.iinc 4 1, 3) := by decide +kernel
theorem dX8_first_99 : decode cX8_first 99 = .ok (.goto (-44), 3) := by decide +kernel
theorem dX8_first_102 : decode cX8_first 102 = .ok (.bipush (-2), 2) := by decide +kernel
theorem dX8_first_104 : decode cX8_first 104 = .ok (.ireturn, 1) := by decide +kernel
theorem dX8_orderOn_0 : decode cX8_orderOn 0 = .ok (.aload_n 0, 1) := by decide +kernel
theorem dX8_orderOn_1 : decode cX8_orderOn 1 = .ok (.iload_n 1, 1) := by decide +kernel
theorem dX8_orderOn_2 : decode cX8_orderOn 2 = .ok (.invokevirtual 158, 3) := by decide +kernel
theorem dX8_orderOn_5 : decode cX8_orderOn 5 = .ok (.l2i, 1) := by decide +kernel
theorem dX8_orderOn_6 : decode cX8_orderOn 6 = .ok (.istore_n 2, 1) := by decide +kernel
theorem dX8_orderOn_7 : decode cX8_orderOn 7 = .ok (.iload_n 2, 1) := by decide +kernel
theorem dX8_orderOn_8 : decode cX8_orderOn 8 = .ok (.ifCond .lt 8, 3) := by decide +kernel
theorem dX8_orderOn_11 : decode cX8_orderOn 11 = .ok (.iload_n 2, 1) := by decide +kernel
theorem dX8_orderOn_12 : decode cX8_orderOn 12 = .ok (.iconst 5, 1) := by decide +kernel
theorem dX8_orderOn_13 : decode cX8_orderOn 13 = .ok (.if_icmp .le 7, 3) := by decide +kernel
theorem dX8_orderOn_16 : decode cX8_orderOn 16 = .ok (.iconst 0, 1) := by decide +kernel
theorem dX8_orderOn_17 : decode cX8_orderOn 17 = .ok (.goto 4, 3) := by decide +kernel
theorem dX8_orderOn_20 : decode cX8_orderOn 20 = .ok (.iload_n 2, 1) := by decide +kernel
theorem dX8_orderOn_21 : decode cX8_orderOn 21 = .ok (.ireturn, 1) := by decide +kernel
theorem dX8_thoughtOf_0 : decode cX8_thoughtOf 0 = .ok (.iload_n 1, 1) := by decide +kernel
theorem dX8_thoughtOf_1 : decode cX8_thoughtOf 1 = .ok (.tableswitch 51 0 2 #[27, 35, 43], 27) := by decide +kernel
theorem dX8_thoughtOf_28 : decode cX8_thoughtOf 28 = .ok (.aload_n 0, 1) := by decide +kernel
theorem dX8_thoughtOf_29 : decode cX8_thoughtOf 29 = .ok (.getfield 23, 3) := by decide +kernel
theorem dX8_thoughtOf_32 : decode cX8_thoughtOf 32 = .ok (.getfield 122, 3) := by decide +kernel
theorem dX8_thoughtOf_35 : decode cX8_thoughtOf 35 = .ok (.ireturn, 1) := by decide +kernel
theorem dX8_thoughtOf_36 : decode cX8_thoughtOf 36 = .ok (.aload_n 0, 1) := by decide +kernel
theorem dX8_thoughtOf_37 : decode cX8_thoughtOf 37 = .ok (.getfield 23, 3) := by decide +kernel
theorem dX8_thoughtOf_40 : decode cX8_thoughtOf 40 = .ok (.getfield 125, 3) := by decide +kernel
theorem dX8_thoughtOf_43 : decode cX8_thoughtOf 43 = .ok (.ireturn, 1) := by decide +kernel
theorem dX8_thoughtOf_44 : decode cX8_thoughtOf 44 = .ok (.aload_n 0, 1) := by decide +kernel
theorem dX8_thoughtOf_45 : decode cX8_thoughtOf 45 = .ok (.getfield 23, 3) := by decide +kernel
theorem dX8_thoughtOf_48 : decode cX8_thoughtOf 48 = .ok (.getfield 128, 3) := by decide +kernel
theorem dX8_thoughtOf_51 : decode cX8_thoughtOf 51 = .ok (.ireturn, 1) := by decide +kernel
theorem dX8_thoughtOf_52 : decode cX8_thoughtOf 52 = .ok (.aload_n 0, 1) := by decide +kernel
theorem dX8_thoughtOf_53 : decode cX8_thoughtOf 53 = .ok (.getfield 23, 3) := by decide +kernel
theorem dX8_thoughtOf_56 : decode cX8_thoughtOf 56 = .ok (.getfield 131, 3) := by decide +kernel
theorem dX8_thoughtOf_59 : decode cX8_thoughtOf 59 = .ok (.invokestatic 135, 3) := by decide +kernel
theorem dX8_thoughtOf_62 : decode cX8_thoughtOf 62 = .ok (.aload_n 0, 1) := by decide +kernel
theorem dX8_thoughtOf_63 : decode cX8_thoughtOf 63 = .ok (.getfield 19, 3) := by decide +kernel
theorem dX8_thoughtOf_66 : decode cX8_thoughtOf 66 = .ok (.getfield 131, 3) := by decide +kernel
theorem dX8_thoughtOf_69 : decode cX8_thoughtOf 69 = .ok (.invokestatic 135, 3) := by decide +kernel
theorem dX8_thoughtOf_72 : decode cX8_thoughtOf 72 = .ok (.isub, 1) := by decide +kernel
theorem dX8_thoughtOf_73 : decode cX8_thoughtOf 73 = .ok (.ireturn, 1) := by decide +kernel
theorem dX8_lawful_0 : decode cX8_lawful 0 = .ok (.iload_n 1, 1) := by decide +kernel
theorem dX8_lawful_1 : decode cX8_lawful 1 = .ok (.ifCond .lt 17, 3) := by decide +kernel
theorem dX8_lawful_4 : decode cX8_lawful 4 = .ok (.iload_n 1, 1) := by decide +kernel
theorem dX8_lawful_5 : decode cX8_lawful 5 = .ok (.bipush 60, 2) := by decide +kernel
theorem dX8_lawful_7 : decode cX8_lawful 7 = .ok (.if_icmp .gt 11, 3) := by decide +kernel
theorem dX8_lawful_10 : decode cX8_lawful 10 = .ok (.iload_n 2, 1) := by decide +kernel
theorem dX8_lawful_11 : decode cX8_lawful 11 = .ok (.iconst 4, 1) := by decide +kernel
theorem dX8_lawful_12 : decode cX8_lawful 12 = .ok (.invokestatic 188, 3) := by decide +kernel
theorem dX8_lawful_15 : decode cX8_lawful 15 = .ok (.ifCond .ne 5, 3) := by decide +kernel
theorem dX8_lawful_18 : decode cX8_lawful 18 = .ok (.iconst (-1), 1) := by decide +kernel
theorem dX8_lawful_19 : decode cX8_lawful 19 = .ok (.ireturn, 1) := by decide +kernel
theorem dX8_lawful_20 : decode cX8_lawful 20 = .ok (.iload_n 1, 1) := by decide +kernel
theorem dX8_lawful_21 : decode cX8_lawful 21 = .ok (.bipush 60, 2) := by decide +kernel
theorem dX8_lawful_23 : decode cX8_lawful 23 = .ok (.aload_n 0, 1) := by decide +kernel
theorem dX8_lawful_24 : decode cX8_lawful 24 = .ok (.getfield 119, 3) := by decide +kernel
theorem dX8_lawful_27 : decode cX8_lawful 27 = .ok (.isub, 1) := by decide +kernel
theorem dX8_lawful_28 : decode cX8_lawful 28 = .ok (.if_icmp .le 6, 3) := by decide +kernel
theorem dX8_lawful_31 : decode cX8_lawful 31 = .ok (.bipush (-5), 2) := by decide +kernel
theorem dX8_lawful_33 : decode cX8_lawful 33 = .ok (.ireturn, 1) := by decide +kernel
theorem dX8_lawful_34 : decode cX8_lawful 34 = .ok (.aload_n 0, 1) := by decide +kernel
theorem dX8_lawful_35 : decode cX8_lawful 35 = .ok (.getfield 23, 3) := by decide +kernel
theorem dX8_lawful_38 : decode cX8_lawful 38 = .ok (.aload_n 0, 1) := by decide +kernel
theorem dX8_lawful_39 : decode cX8_lawful 39 = .ok (.getfield 19, 3) := by decide +kernel
theorem dX8_lawful_42 : decode cX8_lawful 42 = .ok (.invokevirtual 194, 3) := by decide +kernel
theorem dX8_lawful_45 : decode cX8_lawful 45 = .ok (.iconst 0, 1) := by decide +kernel
theorem dX8_lawful_46 : decode cX8_lawful 46 = .ok (.istore_n 3, 1) := by decide +kernel
theorem dX8_lawful_47 : decode cX8_lawful 47 = .ok (.iload_n 3, 1) := by decide +kernel
theorem dX8_lawful_48 : decode cX8_lawful 48 = .ok (.iload_n 1, 1) := by decide +kernel
theorem dX8_lawful_49 : decode cX8_lawful 49 = .ok (.if_icmp .ge 48, 3) := by decide +kernel
theorem dX8_lawful_52 : decode cX8_lawful 52 = .ok (.aload_n 0, 1) := by decide +kernel
theorem dX8_lawful_53 : decode cX8_lawful 53 = .ok (.getfield 23, 3) := by decide +kernel
theorem dX8_lawful_56 : decode cX8_lawful 56 = .ok (.aload_n 0, 1) := by decide +kernel
theorem dX8_lawful_57 : decode cX8_lawful 57 = .ok (.getfield 10, 3) := by decide +kernel
theorem dX8_lawful_60 : decode cX8_lawful 60 = .ok (.aload_n 0, 1) := by decide +kernel
theorem dX8_lawful_61 : decode cX8_lawful 61 = .ok (.getfield 119, 3) := by decide +kernel
theorem dX8_lawful_64 : decode cX8_lawful 64 = .ok (.iload_n 3, 1) := by decide +kernel
theorem dX8_lawful_65 : decode cX8_lawful 65 = .ok (.iadd, 1) := by decide +kernel
theorem dX8_lawful_66 : decode cX8_lawful 66 = .ok (.aload_n 0, 1) := by decide +kernel
theorem dX8_lawful_67 : decode cX8_lawful 67 = .ok (.getfield 40, 3) := by decide +kernel
theorem dX8_lawful_70 : decode cX8_lawful 70 = .ok (.aload_n 0, 1) := by decide +kernel
theorem dX8_lawful_71 : decode cX8_lawful 71 = .ok (.getfield 10, 3) := by decide +kernel
theorem dX8_lawful_74 : decode cX8_lawful 74 = .ok (.aload_n 0, 1) := by decide +kernel
theorem dX8_lawful_75 : decode cX8_lawful 75 = .ok (.getfield 23, 3) := by decide +kernel
theorem dX8_lawful_78 : decode cX8_lawful 78 = .ok (.aload_n 0, 1) := by decide +kernel
theorem dX8_lawful_79 : decode cX8_lawful 79 = .ok (.getfield 119, 3) := by decide +kernel
theorem dX8_lawful_82 : decode cX8_lawful 82 = .ok (.iload_n 3, 1) := by decide +kernel
theorem dX8_lawful_83 : decode cX8_lawful 83 = .ok (.iadd, 1) := by decide +kernel
theorem dX8_lawful_84 : decode cX8_lawful 84 = .ok (.invokevirtual 178, 3) := by decide +kernel
theorem dX8_lawful_87 : decode cX8_lawful 87 = .ok (.invokevirtual 185, 3) := by decide +kernel
theorem dX8_lawful_90 : decode cX8_lawful 90 = .ok (.pop, 1) := by decide +kernel
theorem dX8_lawful_91 : decode cX8_lawful 91 = .ok (.iinc 3 1, 3) := by decide +kernel
theorem dX8_lawful_94 : decode cX8_lawful 94 = .ok (.goto (-47), 3) := by decide +kernel
theorem dX8_lawful_97 : decode cX8_lawful 97 = .ok (.aload_n 0, 1) := by decide +kernel
theorem dX8_lawful_98 : decode cX8_lawful 98 = .ok (.iload_n 2, 1) := by decide +kernel
theorem dX8_lawful_99 : decode cX8_lawful 99 = .ok (.invokevirtual 201, 3) := by decide +kernel
theorem dX8_lawful_102 : decode cX8_lawful 102 = .ok (.ireturn, 1) := by decide +kernel
theorem dX8_cheapest_0 : decode cX8_cheapest 0 = .ok (.iload_n 1, 1) := by decide +kernel
theorem dX8_cheapest_1 : decode cX8_cheapest 1 = .ok (.ifCond .lt 31, 3) := by decide +kernel
theorem dX8_cheapest_4 : decode cX8_cheapest 4 = .ok (.iload_n 1, 1) := by decide +kernel
theorem dX8_cheapest_5 : decode cX8_cheapest 5 = .ok (.bipush 100, 2) := by decide +kernel
theorem dX8_cheapest_7 : decode cX8_cheapest 7 = .ok (.idiv, 1) := by decide +kernel
theorem dX8_cheapest_8 : decode cX8_cheapest 8 = .ok (.invokestatic 109, 3) := by decide +kernel
theorem dX8_cheapest_11 : decode cX8_cheapest 11 = .ok (.ifCond .eq 21, 3) := by decide +kernel
theorem dX8_cheapest_14 : decode cX8_cheapest 14 = .ok (.iload_n 1, 1) := by decide +kernel
theorem dX8_cheapest_15 : decode cX8_cheapest 15 = .ok (.bipush 100, 2) := by decide +kernel
theorem dX8_cheapest_17 : decode cX8_cheapest 17 = .ok (.irem, 1) := by decide +kernel
theorem dX8_cheapest_18 : decode cX8_cheapest 18 = .ok (.invokestatic 109, 3) := by decide +kernel
theorem dX8_cheapest_21 : decode cX8_cheapest 21 = .ok (.ifCond .eq 11, 3) := by decide +kernel
theorem dX8_cheapest_24 : decode cX8_cheapest 24 = .ok (.iload_n 2, 1) := by decide +kernel
theorem dX8_cheapest_25 : decode cX8_cheapest 25 = .ok (.iconst 2, 1) := by decide +kernel
theorem dX8_cheapest_26 : decode cX8_cheapest 26 = .ok (.invokestatic 188, 3) := by decide +kernel
theorem dX8_cheapest_29 : decode cX8_cheapest 29 = .ok (.ifCond .ne 5, 3) := by decide +kernel
theorem dX8_cheapest_32 : decode cX8_cheapest 32 = .ok (.iconst (-1), 1) := by decide +kernel
theorem dX8_cheapest_33 : decode cX8_cheapest 33 = .ok (.ireturn, 1) := by decide +kernel
theorem dX8_cheapest_34 : decode cX8_cheapest 34 = .ok (.iload_n 1, 1) := by decide +kernel
theorem dX8_cheapest_35 : decode cX8_cheapest 35 = .ok (.bipush 100, 2) := by decide +kernel
theorem dX8_cheapest_37 : decode cX8_cheapest 37 = .ok (.idiv, 1) := by decide +kernel
theorem dX8_cheapest_38 : decode cX8_cheapest 38 = .ok (.istore_n 3, 1) := by decide +kernel
theorem dX8_cheapest_39 : decode cX8_cheapest 39 = .ok (.aload_n 0, 1) := by decide +kernel
theorem dX8_cheapest_40 : decode cX8_cheapest 40 = .ok (.getfield 47, 3) := by decide +kernel
theorem dX8_cheapest_43 : decode cX8_cheapest 43 = .ok (.aload_n 0, 1) := by decide +kernel
theorem dX8_cheapest_44 : decode cX8_cheapest 44 = .ok (.getfield 10, 3) := by decide +kernel
theorem dX8_cheapest_47 : decode cX8_cheapest 47 = .ok (.iload_n 1, 1) := by decide +kernel
theorem dX8_cheapest_48 : decode cX8_cheapest 48 = .ok (.bipush 100, 2) := by decide +kernel
theorem dX8_cheapest_50 : decode cX8_cheapest 50 = .ok (.irem, 1) := by decide +kernel
theorem dX8_cheapest_51 : decode cX8_cheapest 51 = .ok (.invokevirtual 209, 3) := by decide +kernel
theorem dX8_cheapest_54 : decode cX8_cheapest 54 = .ok (.iload_n 2, 1) := by decide +kernel
theorem dX8_cheapest_55 : decode cX8_cheapest 55 = .ok (.ifCond .ne 12, 3) := by decide +kernel
theorem dX8_cheapest_58 : decode cX8_cheapest 58 = .ok (.aload_n 0, 1) := by decide +kernel
theorem dX8_cheapest_59 : decode cX8_cheapest 59 = .ok (.getfield 47, 3) := by decide +kernel
theorem dX8_cheapest_62 : decode cX8_cheapest 62 = .ok (.iload_n 3, 1) := by decide +kernel
theorem dX8_cheapest_63 : decode cX8_cheapest 63 = .ok (.invokevirtual 213, 3) := by decide +kernel
theorem dX8_cheapest_66 : decode cX8_cheapest 66 = .ok (.ireturn, 1) := by decide +kernel
theorem dX8_cheapest_67 : decode cX8_cheapest 67 = .ok (.aload_n 0, 1) := by decide +kernel
theorem dX8_cheapest_68 : decode cX8_cheapest 68 = .ok (.getfield 47, 3) := by decide +kernel
theorem dX8_cheapest_71 : decode cX8_cheapest 71 = .ok (.aload_n 0, 1) := by decide +kernel
theorem dX8_cheapest_72 : decode cX8_cheapest 72 = .ok (.getfield 10, 3) := by decide +kernel
theorem dX8_cheapest_75 : decode cX8_cheapest 75 = .ok (.iload_n 3, 1) := by decide +kernel
theorem dX8_cheapest_76 : decode cX8_cheapest 76 = .ok (.invokevirtual 216, 3) := by decide +kernel
theorem dX8_cheapest_79 : decode cX8_cheapest 79 = .ok (.istore 4, 2) := by decide +kernel
theorem dX8_cheapest_81 : decode cX8_cheapest 81 = .ok (.iload 4, 2) := by decide +kernel
theorem dX8_cheapest_83 : decode cX8_cheapest 83 = .ok (.ifCond .ge 8, 3) := by decide +kernel
theorem dX8_cheapest_86 : decode cX8_cheapest 86 = .ok (.bipush (-2), 2) := by decide +kernel
theorem dX8_cheapest_88 : decode cX8_cheapest 88 = .ok (.goto 5, 3) := by decide +kernel
theorem dX8_cheapest_91 : decode cX8_cheapest 91 = .ok (.iload 4, 2) := by decide +kernel
theorem dX8_cheapest_93 : decode cX8_cheapest 93 = .ok (.ireturn, 1) := by decide +kernel
theorem dX8_soonest_0 : decode cX8_soonest 0 = .ok (.iload_n 1, 1) := by decide +kernel
theorem dX8_soonest_1 : decode cX8_soonest 1 = .ok (.invokestatic 109, 3) := by decide +kernel
theorem dX8_soonest_4 : decode cX8_soonest 4 = .ok (.ifCond .eq 11, 3) := by decide +kernel
theorem dX8_soonest_7 : decode cX8_soonest 7 = .ok (.iload_n 2, 1) := by decide +kernel
theorem dX8_soonest_8 : decode cX8_soonest 8 = .ok (.iconst 2, 1) := by decide +kernel
theorem dX8_soonest_9 : decode cX8_soonest 9 = .ok (.invokestatic 188, 3) := by decide +kernel
theorem dX8_soonest_12 : decode cX8_soonest 12 = .ok (.ifCond .ne 5, 3) := by decide +kernel
theorem dX8_soonest_15 : decode cX8_soonest 15 = .ok (.iconst (-1), 1) := by decide +kernel
theorem dX8_soonest_16 : decode cX8_soonest 16 = .ok (.ireturn, 1) := by decide +kernel
theorem dX8_soonest_17 : decode cX8_soonest 17 = .ok (.aload_n 0, 1) := by decide +kernel
theorem dX8_soonest_18 : decode cX8_soonest 18 = .ok (.getfield 54, 3) := by decide +kernel
theorem dX8_soonest_21 : decode cX8_soonest 21 = .ok (.aload_n 0, 1) := by decide +kernel
theorem dX8_soonest_22 : decode cX8_soonest 22 = .ok (.getfield 10, 3) := by decide +kernel
theorem dX8_soonest_25 : decode cX8_soonest 25 = .ok (.aload_n 0, 1) := by decide +kernel
theorem dX8_soonest_26 : decode cX8_soonest 26 = .ok (.getfield 19, 3) := by decide +kernel
theorem dX8_soonest_29 : decode cX8_soonest 29 = .ok (.aload_n 0, 1) := by decide +kernel
theorem dX8_soonest_30 : decode cX8_soonest 30 = .ok (.getfield 119, 3) := by decide +kernel
theorem dX8_soonest_33 : decode cX8_soonest 33 = .ok (.iload_n 1, 1) := by decide +kernel
theorem dX8_soonest_34 : decode cX8_soonest 34 = .ok (.invokevirtual 220, 3) := by decide +kernel
theorem dX8_soonest_37 : decode cX8_soonest 37 = .ok (.ifCond .ne 6, 3) := by decide +kernel
theorem dX8_soonest_40 : decode cX8_soonest 40 = .ok (.bipush (-2), 2) := by decide +kernel
theorem dX8_soonest_42 : decode cX8_soonest 42 = .ok (.ireturn, 1) := by decide +kernel
theorem dX8_soonest_43 : decode cX8_soonest 43 = .ok (.iload_n 2, 1) := by decide +kernel
theorem dX8_soonest_44 : decode cX8_soonest 44 = .ok (.ifCond .ne 13, 3) := by decide +kernel
theorem dX8_soonest_47 : decode cX8_soonest 47 = .ok (.aload_n 0, 1) := by decide +kernel
theorem dX8_soonest_48 : decode cX8_soonest 48 = .ok (.getfield 54, 3) := by decide +kernel
theorem dX8_soonest_51 : decode cX8_soonest 51 = .ok (.getfield 224, 3) := by decide +kernel
theorem dX8_soonest_54 : decode cX8_soonest 54 = .ok (.goto 10, 3) := by decide +kernel
theorem dX8_soonest_57 : decode cX8_soonest 57 = .ok (.aload_n 0, 1) := by decide +kernel
theorem dX8_soonest_58 : decode cX8_soonest 58 = .ok (.getfield 54, 3) := by decide +kernel
theorem dX8_soonest_61 : decode cX8_soonest 61 = .ok (.getfield 227, 3) := by decide +kernel
theorem dX8_soonest_64 : decode cX8_soonest 64 = .ok (.ireturn, 1) := by decide +kernel
theorem dX8_round_0 : decode cX8_round 0 = .ok (.iload_n 1, 1) := by decide +kernel
theorem dX8_round_1 : decode cX8_round 1 = .ok (.iconst 2, 1) := by decide +kernel
theorem dX8_round_2 : decode cX8_round 2 = .ok (.invokestatic 188, 3) := by decide +kernel
theorem dX8_round_5 : decode cX8_round 5 = .ok (.ifCond .ne 5, 3) := by decide +kernel
theorem dX8_round_8 : decode cX8_round 8 = .ok (.iconst (-1), 1) := by decide +kernel
theorem dX8_round_9 : decode cX8_round 9 = .ok (.ireturn, 1) := by decide +kernel
theorem dX8_round_10 : decode cX8_round 10 = .ok (.aload_n 0, 1) := by decide +kernel
theorem dX8_round_11 : decode cX8_round 11 = .ok (.getfield 47, 3) := by decide +kernel
theorem dX8_round_14 : decode cX8_round 14 = .ok (.aload_n 0, 1) := by decide +kernel
theorem dX8_round_15 : decode cX8_round 15 = .ok (.getfield 10, 3) := by decide +kernel
theorem dX8_round_18 : decode cX8_round 18 = .ok (.aload_n 0, 1) := by decide +kernel
theorem dX8_round_19 : decode cX8_round 19 = .ok (.getfield 19, 3) := by decide +kernel
theorem dX8_round_22 : decode cX8_round 22 = .ok (.invokevirtual 230, 3) := by decide +kernel
theorem dX8_round_25 : decode cX8_round 25 = .ok (.ifCond .ne 6, 3) := by decide +kernel
theorem dX8_round_28 : decode cX8_round 28 = .ok (.bipush (-5), 2) := by decide +kernel
theorem dX8_round_30 : decode cX8_round 30 = .ok (.ireturn, 1) := by decide +kernel
theorem dX8_round_31 : decode cX8_round 31 = .ok (.iload_n 1, 1) := by decide +kernel
theorem dX8_round_32 : decode cX8_round 32 = .ok (.ifCond .ne 11, 3) := by decide +kernel
theorem dX8_round_35 : decode cX8_round 35 = .ok (.aload_n 0, 1) := by decide +kernel
theorem dX8_round_36 : decode cX8_round 36 = .ok (.getfield 47, 3) := by decide +kernel
theorem dX8_round_39 : decode cX8_round 39 = .ok (.getfield 234, 3) := by decide +kernel
theorem dX8_round_42 : decode cX8_round 42 = .ok (.ireturn, 1) := by decide +kernel
theorem dX8_round_43 : decode cX8_round 43 = .ok (.aload_n 0, 1) := by decide +kernel
theorem dX8_round_44 : decode cX8_round 44 = .ok (.getfield 47, 3) := by decide +kernel
theorem dX8_round_47 : decode cX8_round 47 = .ok (.getfield 237, 3) := by decide +kernel
theorem dX8_round_50 : decode cX8_round 50 = .ok (.ifCond .ge 8, 3) := by decide +kernel
theorem dX8_round_53 : decode cX8_round 53 = .ok (.bipush (-2), 2) := by decide +kernel
theorem dX8_round_55 : decode cX8_round 55 = .ok (.goto 10, 3) := by decide +kernel
theorem dX8_round_58 : decode cX8_round 58 = .ok (.aload_n 0, 1) := by decide +kernel
theorem dX8_round_59 : decode cX8_round 59 = .ok (.getfield 47, 3) := by decide +kernel
theorem dX8_round_62 : decode cX8_round 62 = .ok (.getfield 237, 3) := by decide +kernel
theorem dX8_round_65 : decode cX8_round 65 = .ok (.ireturn, 1) := by decide +kernel
theorem dX8_lasts_0 : decode cX8_lasts 0 = .ok (.iload_n 1, 1) := by decide +kernel
theorem dX8_lasts_1 : decode cX8_lasts 1 = .ok (.ifCond .lt 9, 3) := by decide +kernel
theorem dX8_lasts_4 : decode cX8_lasts 4 = .ok (.iload_n 1, 1) := by decide +kernel
theorem dX8_lasts_5 : decode cX8_lasts 5 = .ok (.bipush 20, 2) := by decide +kernel
theorem dX8_lasts_7 : decode cX8_lasts 7 = .ok (.if_icmp .le 5, 3) := by decide +kernel
theorem dX8_lasts_10 : decode cX8_lasts 10 = .ok (.iconst (-1), 1) := by decide +kernel
theorem dX8_lasts_11 : decode cX8_lasts 11 = .ok (.ireturn, 1) := by decide +kernel
theorem dX8_lasts_12 : decode cX8_lasts 12 = .ok (.aload_n 0, 1) := by decide +kernel
theorem dX8_lasts_13 : decode cX8_lasts 13 = .ok (.getfield 23, 3) := by decide +kernel
theorem dX8_lasts_16 : decode cX8_lasts 16 = .ok (.aload_n 0, 1) := by decide +kernel
theorem dX8_lasts_17 : decode cX8_lasts 17 = .ok (.getfield 19, 3) := by decide +kernel
theorem dX8_lasts_20 : decode cX8_lasts 20 = .ok (.invokevirtual 194, 3) := by decide +kernel
theorem dX8_lasts_23 : decode cX8_lasts 23 = .ok (.aload_n 0, 1) := by decide +kernel
theorem dX8_lasts_24 : decode cX8_lasts 24 = .ok (.getfield 119, 3) := by decide +kernel
theorem dX8_lasts_27 : decode cX8_lasts 27 = .ok (.istore_n 2, 1) := by decide +kernel
theorem dX8_lasts_28 : decode cX8_lasts 28 = .ok (.iload_n 2, 1) := by decide +kernel
theorem dX8_lasts_29 : decode cX8_lasts 29 = .ok (.bipush 60, 2) := by decide +kernel
theorem dX8_lasts_31 : decode cX8_lasts 31 = .ok (.if_icmp .ge 57, 3) := by decide +kernel
theorem dX8_lasts_34 : decode cX8_lasts 34 = .ok (.aload_n 0, 1) := by decide +kernel
theorem dX8_lasts_35 : decode cX8_lasts 35 = .ok (.getfield 23, 3) := by decide +kernel
theorem dX8_lasts_38 : decode cX8_lasts 38 = .ok (.aload_n 0, 1) := by decide +kernel
theorem dX8_lasts_39 : decode cX8_lasts 39 = .ok (.getfield 10, 3) := by decide +kernel
theorem dX8_lasts_42 : decode cX8_lasts 42 = .ok (.iload_n 2, 1) := by decide +kernel
theorem dX8_lasts_43 : decode cX8_lasts 43 = .ok (.iconst 0, 1) := by decide +kernel
theorem dX8_lasts_44 : decode cX8_lasts 44 = .ok (.iconst 0, 1) := by decide +kernel
theorem dX8_lasts_45 : decode cX8_lasts 45 = .ok (.aload_n 0, 1) := by decide +kernel
theorem dX8_lasts_46 : decode cX8_lasts 46 = .ok (.getfield 10, 3) := by decide +kernel
theorem dX8_lasts_49 : decode cX8_lasts 49 = .ok (.iload_n 2, 1) := by decide +kernel
theorem dX8_lasts_50 : decode cX8_lasts 50 = .ok (.invokevirtual 240, 3) := by decide +kernel
theorem dX8_lasts_53 : decode cX8_lasts 53 = .ok (.iload_n 1, 1) := by decide +kernel
theorem dX8_lasts_54 : decode cX8_lasts 54 = .ok (.isub, 1) := by decide +kernel
theorem dX8_lasts_55 : decode cX8_lasts 55 = .ok (.invokestatic 243, 3) := by decide +kernel
theorem dX8_lasts_58 : decode cX8_lasts 58 = .ok (.aload_n 0, 1) := by decide +kernel
theorem dX8_lasts_59 : decode cX8_lasts 59 = .ok (.getfield 10, 3) := by decide +kernel
theorem dX8_lasts_62 : decode cX8_lasts 62 = .ok (.iload_n 2, 1) := by decide +kernel
theorem dX8_lasts_63 : decode cX8_lasts 63 = .ok (.invokevirtual 246, 3) := by decide +kernel
theorem dX8_lasts_66 : decode cX8_lasts 66 = .ok (.invokevirtual 249, 3) := by decide +kernel
theorem dX8_lasts_69 : decode cX8_lasts 69 = .ok (.pop, 1) := by decide +kernel
theorem dX8_lasts_70 : decode cX8_lasts 70 = .ok (.aload_n 0, 1) := by decide +kernel
theorem dX8_lasts_71 : decode cX8_lasts 71 = .ok (.getfield 23, 3) := by decide +kernel
theorem dX8_lasts_74 : decode cX8_lasts 74 = .ok (.getfield 125, 3) := by decide +kernel
theorem dX8_lasts_77 : decode cX8_lasts 77 = .ok (.ifCond .ne 5, 3) := by decide +kernel
theorem dX8_lasts_80 : decode cX8_lasts 80 = .ok (.iload_n 2, 1) := by decide +kernel
theorem dX8_lasts_81 : decode cX8_lasts 81 = .ok (.ireturn, 1) := by decide +kernel
theorem dX8_lasts_82 : decode cX8_lasts 82 = .ok (.iinc 2 1, 3) := by decide +kernel
theorem dX8_lasts_85 : decode cX8_lasts 85 = .ok (.goto (-57), 3) := by decide +kernel
theorem dX8_lasts_88 : decode cX8_lasts 88 = .ok (.bipush (-2), 2) := by decide +kernel
theorem dX8_lasts_90 : decode cX8_lasts 90 = .ok (.ireturn, 1) := by decide +kernel
theorem dX8_clean_0 : decode cX8_clean 0 = .ok (.iload_n 1, 1) := by decide +kernel
theorem dX8_clean_1 : decode cX8_clean 1 = .ok (.ifCond .lt 25, 3) := by decide +kernel
theorem dX8_clean_4 : decode cX8_clean 4 = .ok (.iload_n 1, 1) := by decide +kernel
theorem dX8_clean_5 : decode cX8_clean 5 = .ok (.bipush 8, 2) := by decide +kernel
theorem dX8_clean_7 : decode cX8_clean 7 = .ok (.if_icmp .gt 19, 3) := by decide +kernel
theorem dX8_clean_10 : decode cX8_clean 10 = .ok (.iload_n 2, 1) := by decide +kernel
theorem dX8_clean_11 : decode cX8_clean 11 = .ok (.iconst 2, 1) := by decide +kernel
theorem dX8_clean_12 : decode cX8_clean 12 = .ok (.invokestatic 188, 3) := by decide +kernel
theorem dX8_clean_15 : decode cX8_clean 15 = .ok (.ifCond .eq 11, 3) := by decide +kernel
theorem dX8_clean_18 : decode cX8_clean 18 = .ok (.iload_n 3, 1) := by decide +kernel
theorem dX8_clean_19 : decode cX8_clean 19 = .ok (.iconst 2, 1) := by decide +kernel
theorem dX8_clean_20 : decode cX8_clean 20 = .ok (.invokestatic 188, 3) := by decide +kernel
theorem dX8_clean_23 : decode cX8_clean 23 = .ok (.ifCond .ne 7, 3) := by decide +kernel
theorem dX8_clean_26 : decode cX8_clean 26 = .ok (.ldc2_w 253, 3) := by decide +kernel
theorem dX8_clean_29 : decode cX8_clean 29 = .ok (.lreturn, 1) := by decide +kernel
theorem dX8_clean_30 : decode cX8_clean 30 = .ok (.bipush 12, 2) := by decide +kernel
theorem dX8_clean_32 : decode cX8_clean 32 = .ok (.aload_n 0, 1) := by decide +kernel
theorem dX8_clean_33 : decode cX8_clean 33 = .ok (.getfield 10, 3) := by decide +kernel
theorem dX8_clean_36 : decode cX8_clean 36 = .ok (.invokevirtual 255, 3) := by decide +kernel
theorem dX8_clean_39 : decode cX8_clean 39 = .ok (.isub, 1) := by decide +kernel
theorem dX8_clean_40 : decode cX8_clean 40 = .ok (.i2l, 1) := by decide +kernel
theorem dX8_clean_41 : decode cX8_clean 41 = .ok (.lstore 4, 2) := by decide +kernel
theorem dX8_clean_43 : decode cX8_clean 43 = .ok (.iload_n 2, 1) := by decide +kernel
theorem dX8_clean_44 : decode cX8_clean 44 = .ok (.ifCond .ne 26, 3) := by decide +kernel
theorem dX8_clean_47 : decode cX8_clean 47 = .ok (.ldc2_w 258, 3) := by decide +kernel
theorem dX8_clean_50 : decode cX8_clean 50 = .ok (.iload_n 1, 1) := by decide +kernel
theorem dX8_clean_51 : decode cX8_clean 51 = .ok (.invokestatic 260, 3) := by decide +kernel
theorem dX8_clean_54 : decode cX8_clean 54 = .ok (.lstore 8, 2) := by decide +kernel
theorem dX8_clean_56 : decode cX8_clean 56 = .ok (.lload 8, 2) := by decide +kernel
theorem dX8_clean_58 : decode cX8_clean 58 = .ok (.lload 4, 2) := by decide +kernel
theorem dX8_clean_60 : decode cX8_clean 60 = .ok (.iload_n 1, 1) := by decide +kernel
theorem dX8_clean_61 : decode cX8_clean 61 = .ok (.invokestatic 260, 3) := by decide +kernel
theorem dX8_clean_64 : decode cX8_clean 64 = .ok (.lsub, 1) := by decide +kernel
theorem dX8_clean_65 : decode cX8_clean 65 = .ok (.lstore 6, 2) := by decide +kernel
theorem dX8_clean_67 : decode cX8_clean 67 = .ok (.goto 61, 3) := by decide +kernel
theorem dX8_clean_70 : decode cX8_clean 70 = .ok (.ldc2_w 258, 3) := by decide +kernel
theorem dX8_clean_73 : decode cX8_clean 73 = .ok (.iconst 0, 1) := by decide +kernel
theorem dX8_clean_74 : decode cX8_clean 74 = .ok (.iload_n 1, 1) := by decide +kernel
theorem dX8_clean_75 : decode cX8_clean 75 = .ok (.iconst 1, 1) := by decide +kernel
theorem dX8_clean_76 : decode cX8_clean 76 = .ok (.isub, 1) := by decide +kernel
theorem dX8_clean_77 : decode cX8_clean 77 = .ok (.invokestatic 243, 3) := by decide +kernel
theorem dX8_clean_80 : decode cX8_clean 80 = .ok (.invokestatic 260, 3) := by decide +kernel
theorem dX8_clean_83 : decode cX8_clean 83 = .ok (.lstore 8, 2) := by decide +kernel
theorem dX8_clean_85 : decode cX8_clean 85 = .ok (.lconst 0, 1) := by decide +kernel
theorem dX8_clean_86 : decode cX8_clean 86 = .ok (.lstore 6, 2) := by decide +kernel
theorem dX8_clean_88 : decode cX8_clean 88 = .ok (.iconst 0, 1) := by decide +kernel
theorem dX8_clean_89 : decode cX8_clean 89 = .ok (.istore 10, 2) := by decide +kernel
theorem dX8_clean_91 : decode cX8_clean 91 = .ok (.iload 10, 2) := by decide +kernel
theorem dX8_clean_93 : decode cX8_clean 93 = .ok (.iload_n 1, 1) := by decide +kernel
theorem dX8_clean_94 : decode cX8_clean 94 = .ok (.if_icmp .ge 34, 3) := by decide +kernel
theorem dX8_clean_97 : decode cX8_clean 97 = .ok (.lload 6, 2) := by decide +kernel
theorem dX8_clean_99 : decode cX8_clean 99 = .ok (.lload 4, 2) := by decide +kernel
theorem dX8_clean_101 : decode cX8_clean 101 = .ok (.iload 10, 2) := by decide +kernel
theorem dX8_clean_103 : decode cX8_clean 103 = .ok (.invokestatic 260, 3) := by decide +kernel
theorem dX8_clean_106 : decode cX8_clean 106 = .ok (.ldc2_w 258, 3) := by decide +kernel
theorem dX8_clean_109 : decode cX8_clean 109 = .ok (.iload_n 1, 1) := by decide +kernel
theorem dX8_clean_110 : decode cX8_clean 110 = .ok (.iconst 1, 1) := by decide +kernel
theorem dX8_clean_111 : decode cX8_clean 111 = .ok (.isub, 1) := by decide +kernel
theorem dX8_clean_112 : decode cX8_clean 112 = .ok (.iload 10, 2) := by decide +kernel
theorem dX8_clean_114 : decode cX8_clean 114 = .ok (.isub, 1) := by decide +kernel
theorem dX8_clean_115 : decode cX8_clean 115 = .ok (.invokestatic 260, 3) := by decide +kernel
theorem dX8_clean_118 : decode cX8_clean 118 = .ok (.lmul, 1) := by decide +kernel
theorem dX8_clean_119 : decode cX8_clean 119 = .ok (.ladd, 1) := by decide +kernel
theorem dX8_clean_120 : decode cX8_clean 120 = .ok (.lstore 6, 2) := by decide +kernel
theorem dX8_clean_122 : decode cX8_clean 122 = .ok (.iinc 10 1, 3) := by decide +kernel
theorem dX8_clean_125 : decode cX8_clean 125 = .ok (.goto (-34), 3) := by decide +kernel
theorem dX8_clean_128 : decode cX8_clean 128 = .ok (.lload 6, 2) := by decide +kernel
theorem dX8_clean_130 : decode cX8_clean 130 = .ok (.lload 8, 2) := by decide +kernel
theorem dX8_clean_132 : decode cX8_clean 132 = .ok (.invokestatic 264, 3) := by decide +kernel
theorem dX8_clean_135 : decode cX8_clean 135 = .ok (.lstore 10, 2) := by decide +kernel
theorem dX8_clean_137 : decode cX8_clean 137 = .ok (.lload 10, 2) := by decide +kernel
theorem dX8_clean_139 : decode cX8_clean 139 = .ok (.lconst 0, 1) := by decide +kernel
theorem dX8_clean_140 : decode cX8_clean 140 = .ok (.lcmp, 1) := by decide +kernel
theorem dX8_clean_141 : decode cX8_clean 141 = .ok (.ifCond .ne 7, 3) := by decide +kernel
theorem dX8_clean_144 : decode cX8_clean 144 = .ok (.ldc2_w 253, 3) := by decide +kernel
theorem dX8_clean_147 : decode cX8_clean 147 = .ok (.lreturn, 1) := by decide +kernel
theorem dX8_clean_148 : decode cX8_clean 148 = .ok (.iload_n 3, 1) := by decide +kernel
theorem dX8_clean_149 : decode cX8_clean 149 = .ok (.ifCond .ne 8, 3) := by decide +kernel
theorem dX8_clean_152 : decode cX8_clean 152 = .ok (.lload 6, 2) := by decide +kernel
theorem dX8_clean_154 : decode cX8_clean 154 = .ok (.goto 5, 3) := by decide +kernel
theorem dX8_clean_157 : decode cX8_clean 157 = .ok (.lload 8, 2) := by decide +kernel
theorem dX8_clean_159 : decode cX8_clean 159 = .ok (.lload 10, 2) := by decide +kernel
theorem dX8_clean_161 : decode cX8_clean 161 = .ok (.ldiv, 1) := by decide +kernel
theorem dX8_clean_162 : decode cX8_clean 162 = .ok (.lreturn, 1) := by decide +kernel
theorem dX8_power_0 : decode cX8_power 0 = .ok (.lconst 1, 1) := by decide +kernel
theorem dX8_power_1 : decode cX8_power 1 = .ok (.lstore_n 3, 1) := by decide +kernel
theorem dX8_power_2 : decode cX8_power 2 = .ok (.iconst 0, 1) := by decide +kernel
theorem dX8_power_3 : decode cX8_power 3 = .ok (.istore 5, 2) := by decide +kernel
theorem dX8_power_5 : decode cX8_power 5 = .ok (.iload 5, 2) := by decide +kernel
theorem dX8_power_7 : decode cX8_power 7 = .ok (.iload_n 2, 1) := by decide +kernel
theorem dX8_power_8 : decode cX8_power 8 = .ok (.if_icmp .ge 13, 3) := by decide +kernel
theorem dX8_power_11 : decode cX8_power 11 = .ok (.lload_n 3, 1) := by decide +kernel
theorem dX8_power_12 : decode cX8_power 12 = .ok (.lload_n 0, 1) := by decide +kernel
theorem dX8_power_13 : decode cX8_power 13 = .ok (.lmul, 1) := by decide +kernel
theorem dX8_power_14 : decode cX8_power 14 = .ok (.lstore_n 3, 1) := by decide +kernel
theorem dX8_power_15 : decode cX8_power 15 = .ok (.iinc 5 1, 3) := by decide +kernel
theorem dX8_power_18 : decode cX8_power 18 = .ok (.goto (-13), 3) := by decide +kernel
theorem dX8_power_21 : decode cX8_power 21 = .ok (.lload_n 3, 1) := by decide +kernel
theorem dX8_power_22 : decode cX8_power 22 = .ok (.lreturn, 1) := by decide +kernel
theorem dX8_greatestCommon_0 : decode cX8_greatestCommon 0 = .ok (.lload_n 0, 1) := by decide +kernel
theorem dX8_greatestCommon_1 : decode cX8_greatestCommon 1 = .ok (.lstore 4, 2) := by decide +kernel
theorem dX8_greatestCommon_3 : decode cX8_greatestCommon 3 = .ok (.lload_n 2, 1) := by decide +kernel
theorem dX8_greatestCommon_4 : decode cX8_greatestCommon 4 = .ok (.lstore 6, 2) := by decide +kernel
theorem dX8_greatestCommon_6 : decode cX8_greatestCommon 6 = .ok (.iconst 0, 1) := by decide +kernel
theorem dX8_greatestCommon_7 : decode cX8_greatestCommon 7 = .ok (.istore 8, 2) := by decide +kernel
theorem dX8_greatestCommon_9 : decode cX8_greatestCommon 9 = .ok (.iload 8, 2) := by decide +kernel
theorem dX8_greatestCommon_11 : decode cX8_greatestCommon 11 = .ok (.sipush 200, 3) := by decide +kernel
theorem dX8_greatestCommon_14 : decode cX8_greatestCommon 14 = .ok (.if_icmp .ge 31, 3) := by decide +kernel
theorem dX8_greatestCommon_17 : decode cX8_greatestCommon 17 = .ok (.lload 6, 2) := by decide +kernel
theorem dX8_greatestCommon_19 : decode cX8_greatestCommon 19 = .ok (.lconst 0, 1) := by decide +kernel
theorem dX8_greatestCommon_20 : decode cX8_greatestCommon 20 = .ok (.lcmp, 1) := by decide +kernel
theorem dX8_greatestCommon_21 : decode cX8_greatestCommon 21 = .ok (.ifCond .eq 24, 3) := by decide +kernel
theorem dX8_greatestCommon_24 : decode cX8_greatestCommon 24 = .ok (.lload 4, 2) := by decide +kernel
theorem dX8_greatestCommon_26 : decode cX8_greatestCommon 26 = .ok (.lload 6, 2) := by decide +kernel
theorem dX8_greatestCommon_28 : decode cX8_greatestCommon 28 = .ok (.lrem, 1) := by decide +kernel
theorem dX8_greatestCommon_29 : decode cX8_greatestCommon 29 = .ok (.lstore 9, 2) := by decide +kernel
theorem dX8_greatestCommon_31 : decode cX8_greatestCommon 31 = .ok (.lload 6, 2) := by decide +kernel
theorem dX8_greatestCommon_33 : decode cX8_greatestCommon 33 = .ok (.lstore 4, 2) := by decide +kernel
theorem dX8_greatestCommon_35 : decode cX8_greatestCommon 35 = .ok (.lload 9, 2) := by decide +kernel
theorem dX8_greatestCommon_37 : decode cX8_greatestCommon 37 = .ok (.lstore 6, 2) := by decide +kernel
theorem dX8_greatestCommon_39 : decode cX8_greatestCommon 39 = .ok (.iinc 8 1, 3) := by decide +kernel
theorem dX8_greatestCommon_42 : decode cX8_greatestCommon 42 = .ok (.goto (-33), 3) := by decide +kernel
theorem dX8_greatestCommon_45 : decode cX8_greatestCommon 45 = .ok (.lload 4, 2) := by decide +kernel
theorem dX8_greatestCommon_47 : decode cX8_greatestCommon 47 = .ok (.lreturn, 1) := by decide +kernel
theorem dX8_line_0 : decode cX8_line 0 = .ok (.iload_n 1, 1) := by decide +kernel
theorem dX8_line_1 : decode cX8_line 1 = .ok (.invokestatic 141, 3) := by decide +kernel
theorem dX8_line_4 : decode cX8_line 4 = .ok (.ifCond .eq 23, 3) := by decide +kernel
theorem dX8_line_7 : decode cX8_line 7 = .ok (.iload_n 2, 1) := by decide +kernel
theorem dX8_line_8 : decode cX8_line 8 = .ok (.iconst 2, 1) := by decide +kernel
theorem dX8_line_9 : decode cX8_line 9 = .ok (.invokestatic 188, 3) := by decide +kernel
theorem dX8_line_12 : decode cX8_line 12 = .ok (.ifCond .eq 15, 3) := by decide +kernel
theorem dX8_line_15 : decode cX8_line 15 = .ok (.aload_n 0, 1) := by decide +kernel
theorem dX8_line_16 : decode cX8_line 16 = .ok (.getfield 67, 3) := by decide +kernel
theorem dX8_line_19 : decode cX8_line 19 = .ok (.iload_n 1, 1) := by decide +kernel
theorem dX8_line_20 : decode cX8_line 20 = .ok (.aaload, 1) := by decide +kernel
theorem dX8_line_21 : decode cX8_line 21 = .ok (.invokevirtual 148, 3) := by decide +kernel
theorem dX8_line_24 : decode cX8_line 24 = .ok (.ifCond .ne 7, 3) := by decide +kernel
theorem dX8_line_27 : decode cX8_line 27 = .ok (.ldc2_w 253, 3) := by decide +kernel
theorem dX8_line_30 : decode cX8_line 30 = .ok (.lreturn, 1) := by decide +kernel
theorem dX8_line_31 : decode cX8_line 31 = .ok (.lconst 0, 1) := by decide +kernel
theorem dX8_line_32 : decode cX8_line 32 = .ok (.lstore_n 3, 1) := by decide +kernel
theorem dX8_line_33 : decode cX8_line 33 = .ok (.lconst 0, 1) := by decide +kernel
theorem dX8_line_34 : decode cX8_line 34 = .ok (.lstore 5, 2) := by decide +kernel
theorem dX8_line_36 : decode cX8_line 36 = .ok (.iconst 0, 1) := by decide +kernel
theorem dX8_line_37 : decode cX8_line 37 = .ok (.istore 7, 2) := by decide +kernel
theorem dX8_line_39 : decode cX8_line 39 = .ok (.iload 7, 2) := by decide +kernel
theorem dX8_line_41 : decode cX8_line 41 = .ok (.bipush 36, 2) := by decide +kernel
theorem dX8_line_43 : decode cX8_line 43 = .ok (.if_icmp .ge 43, 3) := by decide +kernel
theorem dX8_line_46 : decode cX8_line 46 = .ok (.aload_n 0, 1) := by decide +kernel
theorem dX8_line_47 : decode cX8_line 47 = .ok (.getfield 67, 3) := by decide +kernel
theorem dX8_line_50 : decode cX8_line 50 = .ok (.iload_n 1, 1) := by decide +kernel
theorem dX8_line_51 : decode cX8_line 51 = .ok (.aaload, 1) := by decide +kernel
theorem dX8_line_52 : decode cX8_line 52 = .ok (.iload 7, 2) := by decide +kernel
theorem dX8_line_54 : decode cX8_line 54 = .ok (.invokestatic 268, 3) := by decide +kernel
theorem dX8_line_57 : decode cX8_line 57 = .ok (.istore 8, 2) := by decide +kernel
theorem dX8_line_59 : decode cX8_line 59 = .ok (.iload 8, 2) := by decide +kernel
theorem dX8_line_61 : decode cX8_line 61 = .ok (.ifCond .lt 19, 3) := by decide +kernel
theorem dX8_line_64 : decode cX8_line 64 = .ok (.lload_n 3, 1) := by decide +kernel
theorem dX8_line_65 : decode cX8_line 65 = .ok (.lconst 1, 1) := by decide +kernel
theorem dX8_line_66 : decode cX8_line 66 = .ok (.iload 7, 2) := by decide +kernel
theorem dX8_line_68 : decode cX8_line 68 = .ok (.lshl, 1) := by decide +kernel
theorem dX8_line_69 : decode cX8_line 69 = .ok (.lor, 1) := by decide +kernel
theorem dX8_line_70 : decode cX8_line 70 = .ok (.lstore_n 3, 1) := by decide +kernel
theorem dX8_line_71 : decode cX8_line 71 = .ok (.lload 5, 2) := by decide +kernel
theorem dX8_line_73 : decode cX8_line 73 = .ok (.lconst 1, 1) := by decide +kernel
theorem dX8_line_74 : decode cX8_line 74 = .ok (.iload 8, 2) := by decide +kernel
theorem dX8_line_76 : decode cX8_line 76 = .ok (.lshl, 1) := by decide +kernel
theorem dX8_line_77 : decode cX8_line 77 = .ok (.lor, 1) := by decide +kernel
theorem dX8_line_78 : decode cX8_line 78 = .ok (.lstore 5, 2) := by decide +kernel
theorem dX8_line_80 : decode cX8_line 80 = .ok (.iinc 7 1, 3) := by decide +kernel
theorem dX8_line_83 : decode cX8_line 83 = .ok (.goto (-44), 3) := by decide +kernel
theorem dX8_line_86 : decode cX8_line 86 = .ok (.iload_n 2, 1) := by decide +kernel
theorem dX8_line_87 : decode cX8_line 87 = .ok (.ifCond .ne 7, 3) := by decide +kernel
theorem dX8_line_90 : decode cX8_line 90 = .ok (.lload_n 3, 1) := by decide +kernel
theorem dX8_line_91 : decode cX8_line 91 = .ok (.goto 5, 3) := by decide +kernel
theorem dX8_line_94 : decode cX8_line 94 = .ok (.lload 5, 2) := by decide +kernel
theorem dX8_line_96 : decode cX8_line 96 = .ok (.lreturn, 1) := by decide +kernel
theorem dX8_endOfLine_0 : decode cX8_endOfLine 0 = .ok (.iload_n 1, 1) := by decide +kernel
theorem dX8_endOfLine_1 : decode cX8_endOfLine 1 = .ok (.istore_n 2, 1) := by decide +kernel
theorem dX8_endOfLine_2 : decode cX8_endOfLine 2 = .ok (.iconst 0, 1) := by decide +kernel
theorem dX8_endOfLine_3 : decode cX8_endOfLine 3 = .ok (.istore_n 3, 1) := by decide +kernel
theorem dX8_endOfLine_4 : decode cX8_endOfLine 4 = .ok (.iload_n 3, 1) := by decide +kernel
theorem dX8_endOfLine_5 : decode cX8_endOfLine 5 = .ok (.aload_n 0, 1) := by decide +kernel
theorem dX8_endOfLine_6 : decode cX8_endOfLine 6 = .ok (.getfield 155, 3) := by decide +kernel
theorem dX8_endOfLine_9 : decode cX8_endOfLine 9 = .ok (.if_icmp .ge 24, 3) := by decide +kernel
theorem dX8_endOfLine_12 : decode cX8_endOfLine 12 = .ok (.iload_n 2, 1) := by decide +kernel
theorem dX8_endOfLine_13 : decode cX8_endOfLine 13 = .ok (.ifCond .lt 20, 3) := by decide +kernel
theorem dX8_endOfLine_16 : decode cX8_endOfLine 16 = .ok (.iload_n 2, 1) := by decide +kernel
theorem dX8_endOfLine_17 : decode cX8_endOfLine 17 = .ok (.aload_n 0, 1) := by decide +kernel
theorem dX8_endOfLine_18 : decode cX8_endOfLine 18 = .ok (.iload_n 3, 1) := by decide +kernel
theorem dX8_endOfLine_19 : decode cX8_endOfLine 19 = .ok (.invokevirtual 158, 3) := by decide +kernel
theorem dX8_endOfLine_22 : decode cX8_endOfLine 22 = .ok (.l2i, 1) := by decide +kernel
theorem dX8_endOfLine_23 : decode cX8_endOfLine 23 = .ok (.invokestatic 172, 3) := by decide +kernel
theorem dX8_endOfLine_26 : decode cX8_endOfLine 26 = .ok (.istore_n 2, 1) := by decide +kernel
theorem dX8_endOfLine_27 : decode cX8_endOfLine 27 = .ok (.iinc 3 1, 3) := by decide +kernel
theorem dX8_endOfLine_30 : decode cX8_endOfLine 30 = .ok (.goto (-26), 3) := by decide +kernel
theorem dX8_endOfLine_33 : decode cX8_endOfLine 33 = .ok (.iload_n 2, 1) := by decide +kernel
theorem dX8_endOfLine_34 : decode cX8_endOfLine 34 = .ok (.ireturn, 1) := by decide +kernel
theorem dX8_drawn_0 : decode cX8_drawn 0 = .ok (.iload_n 2, 1) := by decide +kernel
theorem dX8_drawn_1 : decode cX8_drawn 1 = .ok (.iconst 1, 1) := by decide +kernel
theorem dX8_drawn_2 : decode cX8_drawn 2 = .ok (.if_icmp .lt 17, 3) := by decide +kernel
theorem dX8_drawn_5 : decode cX8_drawn 5 = .ok (.iload_n 2, 1) := by decide +kernel
theorem dX8_drawn_6 : decode cX8_drawn 6 = .ok (.bipush 30, 2) := by decide +kernel
theorem dX8_drawn_8 : decode cX8_drawn 8 = .ok (.if_icmp .gt 11, 3) := by decide +kernel
theorem dX8_drawn_11 : decode cX8_drawn 11 = .ok (.iload_n 3, 1) := by decide +kernel
theorem dX8_drawn_12 : decode cX8_drawn 12 = .ok (.iconst 2, 1) := by decide +kernel
theorem dX8_drawn_13 : decode cX8_drawn 13 = .ok (.invokestatic 188, 3) := by decide +kernel
theorem dX8_drawn_16 : decode cX8_drawn 16 = .ok (.ifCond .ne 5, 3) := by decide +kernel
theorem dX8_drawn_19 : decode cX8_drawn 19 = .ok (.iconst (-1), 1) := by decide +kernel
theorem dX8_drawn_20 : decode cX8_drawn 20 = .ok (.ireturn, 1) := by decide +kernel
theorem dX8_drawn_21 : decode cX8_drawn 21 = .ok (.iload_n 1, 1) := by decide +kernel
theorem dX8_drawn_22 : decode cX8_drawn 22 = .ok (.istore 4, 2) := by decide +kernel
theorem dX8_drawn_24 : decode cX8_drawn 24 = .ok (.iconst 0, 1) := by decide +kernel
theorem dX8_drawn_25 : decode cX8_drawn 25 = .ok (.istore 5, 2) := by decide +kernel
theorem dX8_drawn_27 : decode cX8_drawn 27 = .ok (.iconst 0, 1) := by decide +kernel
theorem dX8_drawn_28 : decode cX8_drawn 28 = .ok (.istore 6, 2) := by decide +kernel
theorem dX8_drawn_30 : decode cX8_drawn 30 = .ok (.iconst 0, 1) := by decide +kernel
theorem dX8_drawn_31 : decode cX8_drawn 31 = .ok (.istore 7, 2) := by decide +kernel
theorem dX8_drawn_33 : decode cX8_drawn 33 = .ok (.iload 7, 2) := by decide +kernel
theorem dX8_drawn_35 : decode cX8_drawn 35 = .ok (.iload_n 2, 1) := by decide +kernel
theorem dX8_drawn_36 : decode cX8_drawn 36 = .ok (.if_icmp .ge 139, 3) := by decide +kernel
theorem dX8_drawn_39 : decode cX8_drawn 39 = .ok (.iconst 0, 1) := by decide +kernel
theorem dX8_drawn_40 : decode cX8_drawn 40 = .ok (.istore 8, 2) := by decide +kernel
theorem dX8_drawn_42 : decode cX8_drawn 42 = .ok (.aload_n 0, 1) := by decide +kernel
theorem dX8_drawn_43 : decode cX8_drawn 43 = .ok (.getfield 23, 3) := by decide +kernel
theorem dX8_drawn_46 : decode cX8_drawn 46 = .ok (.aload_n 0, 1) := by decide +kernel
theorem dX8_drawn_47 : decode cX8_drawn 47 = .ok (.getfield 19, 3) := by decide +kernel
theorem dX8_drawn_50 : decode cX8_drawn 50 = .ok (.invokevirtual 194, 3) := by decide +kernel
theorem dX8_drawn_53 : decode cX8_drawn 53 = .ok (.aload_n 0, 1) := by decide +kernel
theorem dX8_drawn_54 : decode cX8_drawn 54 = .ok (.getfield 119, 3) := by decide +kernel
theorem dX8_drawn_57 : decode cX8_drawn 57 = .ok (.istore 9, 2) := by decide +kernel
theorem dX8_drawn_59 : decode cX8_drawn 59 = .ok (.iload 9, 2) := by decide +kernel
theorem dX8_drawn_61 : decode cX8_drawn 61 = .ok (.bipush 60, 2) := by decide +kernel
theorem dX8_drawn_63 : decode cX8_drawn 63 = .ok (.if_icmp .ge 86, 3) := by decide +kernel
theorem dX8_drawn_66 : decode cX8_drawn 66 = .ok (.iload 4, 2) := by decide +kernel
theorem dX8_drawn_68 : decode cX8_drawn 68 = .ok (.ldc_w 271, 3) := by decide +kernel
theorem dX8_drawn_71 : decode cX8_drawn 71 = .ok (.imul, 1) := by decide +kernel
theorem dX8_drawn_72 : decode cX8_drawn 72 = .ok (.sipush 12345, 3) := by decide +kernel
theorem dX8_drawn_75 : decode cX8_drawn 75 = .ok (.iadd, 1) := by decide +kernel
theorem dX8_drawn_76 : decode cX8_drawn 76 = .ok (.istore 4, 2) := by decide +kernel
theorem dX8_drawn_78 : decode cX8_drawn 78 = .ok (.iload 4, 2) := by decide +kernel
theorem dX8_drawn_80 : decode cX8_drawn 80 = .ok (.bipush 8, 2) := by decide +kernel
theorem dX8_drawn_82 : decode cX8_drawn 82 = .ok (.iushr, 1) := by decide +kernel
theorem dX8_drawn_83 : decode cX8_drawn 83 = .ok (.bipush 12, 2) := by decide +kernel
theorem dX8_drawn_85 : decode cX8_drawn 85 = .ok (.irem, 1) := by decide +kernel
theorem dX8_drawn_86 : decode cX8_drawn 86 = .ok (.aload_n 0, 1) := by decide +kernel
theorem dX8_drawn_87 : decode cX8_drawn 87 = .ok (.getfield 10, 3) := by decide +kernel
theorem dX8_drawn_90 : decode cX8_drawn 90 = .ok (.invokevirtual 255, 3) := by decide +kernel
theorem dX8_drawn_93 : decode cX8_drawn 93 = .ok (.if_icmp .ge 8, 3) := by decide +kernel
theorem dX8_drawn_96 : decode cX8_drawn 96 = .ok (.bipush 9, 2) := by decide +kernel
theorem dX8_drawn_98 : decode cX8_drawn 98 = .ok (.goto 4, 3) := by decide +kernel
theorem dX8_drawn_101 : decode cX8_drawn 101 = .ok (.iconst 0, 1) := by decide +kernel
theorem dX8_drawn_102 : decode cX8_drawn 102 = .ok (.istore 10, 2) := by decide +kernel
theorem dX8_drawn_104 : decode cX8_drawn 104 = .ok (.aload_n 0, 1) := by decide +kernel
theorem dX8_drawn_105 : decode cX8_drawn 105 = .ok (.getfield 23, 3) := by decide +kernel
theorem dX8_drawn_108 : decode cX8_drawn 108 = .ok (.aload_n 0, 1) := by decide +kernel
theorem dX8_drawn_109 : decode cX8_drawn 109 = .ok (.getfield 10, 3) := by decide +kernel
theorem dX8_drawn_112 : decode cX8_drawn 112 = .ok (.iload 9, 2) := by decide +kernel
theorem dX8_drawn_114 : decode cX8_drawn 114 = .ok (.iconst 0, 1) := by decide +kernel
theorem dX8_drawn_115 : decode cX8_drawn 115 = .ok (.aload_n 0, 1) := by decide +kernel
theorem dX8_drawn_116 : decode cX8_drawn 116 = .ok (.getfield 10, 3) := by decide +kernel
theorem dX8_drawn_119 : decode cX8_drawn 119 = .ok (.iload 9, 2) := by decide +kernel
theorem dX8_drawn_121 : decode cX8_drawn 121 = .ok (.invokevirtual 240, 3) := by decide +kernel
theorem dX8_drawn_124 : decode cX8_drawn 124 = .ok (.iload 10, 2) := by decide +kernel
theorem dX8_drawn_126 : decode cX8_drawn 126 = .ok (.invokevirtual 249, 3) := by decide +kernel
theorem dX8_drawn_129 : decode cX8_drawn 129 = .ok (.pop, 1) := by decide +kernel
theorem dX8_drawn_130 : decode cX8_drawn 130 = .ok (.aload_n 0, 1) := by decide +kernel
theorem dX8_drawn_131 : decode cX8_drawn 131 = .ok (.getfield 23, 3) := by decide +kernel
theorem dX8_drawn_134 : decode cX8_drawn 134 = .ok (.getfield 125, 3) := by decide +kernel
theorem dX8_drawn_137 : decode cX8_drawn 137 = .ok (.ifCond .ne 6, 3) := by decide +kernel
theorem dX8_drawn_140 : decode cX8_drawn 140 = .ok (.iconst 1, 1) := by decide +kernel
theorem dX8_drawn_141 : decode cX8_drawn 141 = .ok (.istore 8, 2) := by decide +kernel
theorem dX8_drawn_143 : decode cX8_drawn 143 = .ok (.iinc 9 1, 3) := by decide +kernel
theorem dX8_drawn_146 : decode cX8_drawn 146 = .ok (.goto (-87), 3) := by decide +kernel
theorem dX8_drawn_149 : decode cX8_drawn 149 = .ok (.iload 8, 2) := by decide +kernel
theorem dX8_drawn_151 : decode cX8_drawn 151 = .ok (.ifCond .eq 6, 3) := by decide +kernel
theorem dX8_drawn_154 : decode cX8_drawn 154 = .ok (.iinc 5 1, 3) := by decide +kernel
theorem dX8_drawn_157 : decode cX8_drawn 157 = .ok (.iload 6, 2) := by decide +kernel
theorem dX8_drawn_159 : decode cX8_drawn 159 = .ok (.aload_n 0, 1) := by decide +kernel
theorem dX8_drawn_160 : decode cX8_drawn 160 = .ok (.getfield 23, 3) := by decide +kernel
theorem dX8_drawn_163 : decode cX8_drawn 163 = .ok (.getfield 125, 3) := by decide +kernel
theorem dX8_drawn_166 : decode cX8_drawn 166 = .ok (.iadd, 1) := by decide +kernel
theorem dX8_drawn_167 : decode cX8_drawn 167 = .ok (.istore 6, 2) := by decide +kernel
theorem dX8_drawn_169 : decode cX8_drawn 169 = .ok (.iinc 7 1, 3) := by decide +kernel
theorem dX8_drawn_172 : decode cX8_drawn 172 = .ok (.goto (-139), 3) := by decide +kernel
theorem dX8_drawn_175 : decode cX8_drawn 175 = .ok (.iload_n 3, 1) := by decide +kernel
theorem dX8_drawn_176 : decode cX8_drawn 176 = .ok (.ifCond .ne 8, 3) := by decide +kernel
theorem dX8_drawn_179 : decode cX8_drawn 179 = .ok (.iload 5, 2) := by decide +kernel
theorem dX8_drawn_181 : decode cX8_drawn 181 = .ok (.goto 5, 3) := by decide +kernel
theorem dX8_drawn_184 : decode cX8_drawn 184 = .ok (.iload 6, 2) := by decide +kernel
theorem dX8_drawn_186 : decode cX8_drawn 186 = .ok (.ireturn, 1) := by decide +kernel
theorem dX8_judge_0 : decode cX8_judge 0 = .ok (.iload_n 1, 1) := by decide +kernel
theorem dX8_judge_1 : decode cX8_judge 1 = .ok (.invokestatic 141, 3) := by decide +kernel
theorem dX8_judge_4 : decode cX8_judge 4 = .ok (.ifCond .ne 5, 3) := by decide +kernel
theorem dX8_judge_7 : decode cX8_judge 7 = .ok (.iconst (-1), 1) := by decide +kernel
theorem dX8_judge_8 : decode cX8_judge 8 = .ok (.ireturn, 1) := by decide +kernel
theorem dX8_judge_9 : decode cX8_judge 9 = .ok (.aload_n 0, 1) := by decide +kernel
theorem dX8_judge_10 : decode cX8_judge 10 = .ok (.iload_n 1, 1) := by decide +kernel
theorem dX8_judge_11 : decode cX8_judge 11 = .ok (.invokevirtual 191, 3) := by decide +kernel
theorem dX8_judge_14 : decode cX8_judge 14 = .ok (.istore_n 2, 1) := by decide +kernel
theorem dX8_judge_15 : decode cX8_judge 15 = .ok (.iload_n 2, 1) := by decide +kernel
theorem dX8_judge_16 : decode cX8_judge 16 = .ok (.ifCond .eq 5, 3) := by decide +kernel
theorem dX8_judge_19 : decode cX8_judge 19 = .ok (.iload_n 2, 1) := by decide +kernel
theorem dX8_judge_20 : decode cX8_judge 20 = .ok (.ireturn, 1) := by decide +kernel
theorem dX8_judge_21 : decode cX8_judge 21 = .ok (.aload_n 0, 1) := by decide +kernel
theorem dX8_judge_22 : decode cX8_judge 22 = .ok (.getfield 67, 3) := by decide +kernel
theorem dX8_judge_25 : decode cX8_judge 25 = .ok (.iload_n 1, 1) := by decide +kernel
theorem dX8_judge_26 : decode cX8_judge 26 = .ok (.aaload, 1) := by decide +kernel
theorem dX8_judge_27 : decode cX8_judge 27 = .ok (.getfield 155, 3) := by decide +kernel
theorem dX8_judge_30 : decode cX8_judge 30 = .ok (.bipush 60, 2) := by decide +kernel
theorem dX8_judge_32 : decode cX8_judge 32 = .ok (.aload_n 0, 1) := by decide +kernel
theorem dX8_judge_33 : decode cX8_judge 33 = .ok (.getfield 119, 3) := by decide +kernel
theorem dX8_judge_36 : decode cX8_judge 36 = .ok (.isub, 1) := by decide +kernel
theorem dX8_judge_37 : decode cX8_judge 37 = .ok (.invokestatic 204, 3) := by decide +kernel
theorem dX8_judge_40 : decode cX8_judge 40 = .ok (.istore_n 3, 1) := by decide +kernel
theorem dX8_judge_41 : decode cX8_judge 41 = .ok (.aload_n 0, 1) := by decide +kernel
theorem dX8_judge_42 : decode cX8_judge 42 = .ok (.getfield 23, 3) := by decide +kernel
theorem dX8_judge_45 : decode cX8_judge 45 = .ok (.aload_n 0, 1) := by decide +kernel
theorem dX8_judge_46 : decode cX8_judge 46 = .ok (.getfield 19, 3) := by decide +kernel
theorem dX8_judge_49 : decode cX8_judge 49 = .ok (.invokevirtual 194, 3) := by decide +kernel
theorem dX8_judge_52 : decode cX8_judge 52 = .ok (.iconst 0, 1) := by decide +kernel
theorem dX8_judge_53 : decode cX8_judge 53 = .ok (.istore 4, 2) := by decide +kernel
theorem dX8_judge_55 : decode cX8_judge 55 = .ok (.iload 4, 2) := by decide +kernel
theorem dX8_judge_57 : decode cX8_judge 57 = .ok (.iload_n 3, 1) := by decide +kernel
theorem dX8_judge_58 : decode cX8_judge 58 = .ok (.if_icmp .ge 55, 3) := by decide +kernel
theorem dX8_judge_61 : decode cX8_judge 61 = .ok (.aload_n 0, 1) := by decide +kernel
theorem dX8_judge_62 : decode cX8_judge 62 = .ok (.getfield 23, 3) := by decide +kernel
theorem dX8_judge_65 : decode cX8_judge 65 = .ok (.aload_n 0, 1) := by decide +kernel
theorem dX8_judge_66 : decode cX8_judge 66 = .ok (.getfield 10, 3) := by decide +kernel
theorem dX8_judge_69 : decode cX8_judge 69 = .ok (.aload_n 0, 1) := by decide +kernel
theorem dX8_judge_70 : decode cX8_judge 70 = .ok (.getfield 119, 3) := by decide +kernel
theorem dX8_judge_73 : decode cX8_judge 73 = .ok (.iload 4, 2) := by decide +kernel
theorem dX8_judge_75 : decode cX8_judge 75 = .ok (.iadd, 1) := by decide +kernel
theorem dX8_judge_76 : decode cX8_judge 76 = .ok (.iconst 0, 1) := by decide +kernel
theorem dX8_judge_77 : decode cX8_judge 77 = .ok (.invokevirtual 185, 3) := by decide +kernel
theorem dX8_judge_80 : decode cX8_judge 80 = .ok (.pop, 1) := by decide +kernel
theorem dX8_judge_81 : decode cX8_judge 81 = .ok (.aload_n 0, 1) := by decide +kernel
theorem dX8_judge_82 : decode cX8_judge 82 = .ok (.getfield 67, 3) := by decide +kernel
theorem dX8_judge_85 : decode cX8_judge 85 = .ok (.iload_n 1, 1) := by decide +kernel
theorem dX8_judge_86 : decode cX8_judge 86 = .ok (.aaload, 1) := by decide +kernel
theorem dX8_judge_87 : decode cX8_judge 87 = .ok (.iload 4, 2) := by decide +kernel
theorem dX8_judge_89 : decode cX8_judge 89 = .ok (.invokevirtual 158, 3) := by decide +kernel
theorem dX8_judge_92 : decode cX8_judge 92 = .ok (.aload_n 0, 1) := by decide +kernel
theorem dX8_judge_93 : decode cX8_judge 93 = .ok (.getfield 23, 3) := by decide +kernel
theorem dX8_judge_96 : decode cX8_judge 96 = .ok (.getfield 125, 3) := by decide +kernel
theorem dX8_judge_99 : decode cX8_judge 99 = .ok (.i2l, 1) := by decide +kernel
theorem dX8_judge_100 : decode cX8_judge 100 = .ok (.lcmp, 1) := by decide +kernel
theorem dX8_judge_101 : decode cX8_judge 101 = .ok (.ifCond .eq 6, 3) := by decide +kernel
theorem dX8_judge_104 : decode cX8_judge 104 = .ok (.iload 4, 2) := by decide +kernel
theorem dX8_judge_106 : decode cX8_judge 106 = .ok (.ireturn, 1) := by decide +kernel
theorem dX8_judge_107 : decode cX8_judge 107 = .ok (.iinc 4 1, 3) := by decide +kernel
theorem dX8_judge_110 : decode cX8_judge 110 = .ok (.goto (-55), 3) := by decide +kernel
theorem dX8_judge_113 : decode cX8_judge 113 = .ok (.bipush (-2), 2) := by decide +kernel
theorem dX8_judge_115 : decode cX8_judge 115 = .ok (.ireturn, 1) := by decide +kernel
theorem dX8_image_0 : decode cX8_image 0 = .ok (.aload_n 0, 1) := by decide +kernel
theorem dX8_image_1 : decode cX8_image 1 = .ok (.getfield 26, 3) := by decide +kernel
theorem dX8_image_4 : decode cX8_image 4 = .ok (.aload_n 0, 1) := by decide +kernel
theorem dX8_image_5 : decode cX8_image 5 = .ok (.getfield 19, 3) := by decide +kernel
theorem dX8_image_8 : decode cX8_image 8 = .ok (.invokevirtual 194, 3) := by decide +kernel
theorem dX8_image_11 : decode cX8_image 11 = .ok (.aload_n 0, 1) := by decide +kernel
theorem dX8_image_12 : decode cX8_image 12 = .ok (.aload_n 0, 1) := by decide +kernel
theorem dX8_image_13 : decode cX8_image 13 = .ok (.getfield 119, 3) := by decide +kernel
theorem dX8_image_16 : decode cX8_image 16 = .ok (.putfield 79, 3) := by decide +kernel
theorem dX8_image_19 : decode cX8_image 19 = .ok (.aload_n 0, 1) := by decide +kernel
theorem dX8_image_20 : decode cX8_image 20 = .ok (.getfield 119, 3) := by decide +kernel
theorem dX8_image_23 : decode cX8_image 23 = .ok (.ireturn, 1) := by decide +kernel
theorem dX8_back_0 : decode cX8_back 0 = .ok (.aload_n 0, 1) := by decide +kernel
theorem dX8_back_1 : decode cX8_back 1 = .ok (.getfield 79, 3) := by decide +kernel
theorem dX8_back_4 : decode cX8_back 4 = .ok (.ifCond .ge 6, 3) := by decide +kernel
theorem dX8_back_7 : decode cX8_back 7 = .ok (.bipush (-5), 2) := by decide +kernel
theorem dX8_back_9 : decode cX8_back 9 = .ok (.ireturn, 1) := by decide +kernel
theorem dX8_back_10 : decode cX8_back 10 = .ok (.aload_n 0, 1) := by decide +kernel
theorem dX8_back_11 : decode cX8_back 11 = .ok (.getfield 19, 3) := by decide +kernel
theorem dX8_back_14 : decode cX8_back 14 = .ok (.aload_n 0, 1) := by decide +kernel
theorem dX8_back_15 : decode cX8_back 15 = .ok (.getfield 26, 3) := by decide +kernel
theorem dX8_back_18 : decode cX8_back 18 = .ok (.invokevirtual 194, 3) := by decide +kernel
theorem dX8_back_21 : decode cX8_back 21 = .ok (.aload_n 0, 1) := by decide +kernel
theorem dX8_back_22 : decode cX8_back 22 = .ok (.aload_n 0, 1) := by decide +kernel
theorem dX8_back_23 : decode cX8_back 23 = .ok (.getfield 79, 3) := by decide +kernel
theorem dX8_back_26 : decode cX8_back 26 = .ok (.putfield 119, 3) := by decide +kernel
theorem dX8_back_29 : decode cX8_back 29 = .ok (.aload_n 0, 1) := by decide +kernel
theorem dX8_back_30 : decode cX8_back 30 = .ok (.getfield 119, 3) := by decide +kernel
theorem dX8_back_33 : decode cX8_back 33 = .ok (.ireturn, 1) := by decide +kernel
theorem dX8_undo_0 : decode cX8_undo 0 = .ok (.aload_n 0, 1) := by decide +kernel
theorem dX8_undo_1 : decode cX8_undo 1 = .ok (.getfield 61, 3) := by decide +kernel
theorem dX8_undo_4 : decode cX8_undo 4 = .ok (.aload_n 0, 1) := by decide +kernel
theorem dX8_undo_5 : decode cX8_undo 5 = .ok (.getfield 10, 3) := by decide +kernel
theorem dX8_undo_8 : decode cX8_undo 8 = .ok (.invokevirtual 272, 3) := by decide +kernel
theorem dX8_undo_11 : decode cX8_undo 11 = .ok (.ifCond .eq 13, 3) := by decide +kernel
theorem dX8_undo_14 : decode cX8_undo 14 = .ok (.aload_n 0, 1) := by decide +kernel
theorem dX8_undo_15 : decode cX8_undo 15 = .ok (.getfield 61, 3) := by decide +kernel
theorem dX8_undo_18 : decode cX8_undo 18 = .ok (.getfield 276, 3) := by decide +kernel
theorem dX8_undo_21 : decode cX8_undo 21 = .ok (.goto 5, 3) := by decide +kernel
theorem dX8_undo_24 : decode cX8_undo 24 = .ok (.bipush (-5), 2) := by decide +kernel
theorem dX8_undo_26 : decode cX8_undo 26 = .ok (.ireturn, 1) := by decide +kernel
theorem dX8_redo_0 : decode cX8_redo 0 = .ok (.aload_n 0, 1) := by decide +kernel
theorem dX8_redo_1 : decode cX8_redo 1 = .ok (.getfield 61, 3) := by decide +kernel
theorem dX8_redo_4 : decode cX8_redo 4 = .ok (.aload_n 0, 1) := by decide +kernel
theorem dX8_redo_5 : decode cX8_redo 5 = .ok (.getfield 10, 3) := by decide +kernel
theorem dX8_redo_8 : decode cX8_redo 8 = .ok (.invokevirtual 279, 3) := by decide +kernel
theorem dX8_redo_11 : decode cX8_redo 11 = .ok (.ifCond .eq 21, 3) := by decide +kernel
theorem dX8_redo_14 : decode cX8_redo 14 = .ok (.aload_n 0, 1) := by decide +kernel
theorem dX8_redo_15 : decode cX8_redo 15 = .ok (.getfield 61, 3) := by decide +kernel
theorem dX8_redo_18 : decode cX8_redo 18 = .ok (.getfield 282, 3) := by decide +kernel
theorem dX8_redo_21 : decode cX8_redo 21 = .ok (.aload_n 0, 1) := by decide +kernel
theorem dX8_redo_22 : decode cX8_redo 22 = .ok (.getfield 61, 3) := by decide +kernel
theorem dX8_redo_25 : decode cX8_redo 25 = .ok (.getfield 276, 3) := by decide +kernel
theorem dX8_redo_28 : decode cX8_redo 28 = .ok (.isub, 1) := by decide +kernel
theorem dX8_redo_29 : decode cX8_redo 29 = .ok (.goto 5, 3) := by decide +kernel
theorem dX8_redo_32 : decode cX8_redo 32 = .ok (.bipush (-5), 2) := by decide +kernel
theorem dX8_redo_34 : decode cX8_redo 34 = .ok (.ireturn, 1) := by decide +kernel
theorem dX8_body_0 : decode cX8_body 0 = .ok (.iload_n 1, 1) := by decide +kernel
theorem dX8_body_1 : decode cX8_body 1 = .ok (.invokestatic 285, 3) := by decide +kernel
theorem dX8_body_4 : decode cX8_body 4 = .ok (.ifCond .ne 5, 3) := by decide +kernel
theorem dX8_body_7 : decode cX8_body 7 = .ok (.iconst (-1), 1) := by decide +kernel
theorem dX8_body_8 : decode cX8_body 8 = .ok (.ireturn, 1) := by decide +kernel
theorem dX8_body_9 : decode cX8_body 9 = .ok (.aload_n 0, 1) := by decide +kernel
theorem dX8_body_10 : decode cX8_body 10 = .ok (.getfield 75, 3) := by decide +kernel
theorem dX8_body_13 : decode cX8_body 13 = .ok (.iload_n 1, 1) := by decide +kernel
theorem dX8_body_14 : decode cX8_body 14 = .ok (.invokevirtual 288, 3) := by decide +kernel
theorem dX8_body_17 : decode cX8_body 17 = .ok (.istore_n 2, 1) := by decide +kernel
theorem dX8_body_18 : decode cX8_body 18 = .ok (.iload_n 2, 1) := by decide +kernel
theorem dX8_body_19 : decode cX8_body 19 = .ok (.ifCond .ge 8, 3) := by decide +kernel
theorem dX8_body_22 : decode cX8_body 22 = .ok (.bipush (-3), 2) := by decide +kernel
theorem dX8_body_24 : decode cX8_body 24 = .ok (.goto 4, 3) := by decide +kernel
theorem dX8_body_27 : decode cX8_body 27 = .ok (.iload_n 2, 1) := by decide +kernel
theorem dX8_body_28 : decode cX8_body 28 = .ok (.ireturn, 1) := by decide +kernel
theorem dX8_act_0 : decode cX8_act 0 = .ok (.aload_n 0, 1) := by decide +kernel
theorem dX8_act_1 : decode cX8_act 1 = .ok (.getfield 75, 3) := by decide +kernel
theorem dX8_act_4 : decode cX8_act 4 = .ok (.iload_n 1, 1) := by decide +kernel
theorem dX8_act_5 : decode cX8_act 5 = .ok (.iload_n 2, 1) := by decide +kernel
theorem dX8_act_6 : decode cX8_act 6 = .ok (.iload_n 3, 1) := by decide +kernel
theorem dX8_act_7 : decode cX8_act 7 = .ok (.invokevirtual 291, 3) := by decide +kernel
theorem dX8_act_10 : decode cX8_act 10 = .ok (.ireturn, 1) := by decide +kernel
theorem dX8_trace_0 : decode cX8_trace 0 = .ok (.aload_n 0, 1) := by decide +kernel
theorem dX8_trace_1 : decode cX8_trace 1 = .ok (.getfield 75, 3) := by decide +kernel
theorem dX8_trace_4 : decode cX8_trace 4 = .ok (.iload_n 1, 1) := by decide +kernel
theorem dX8_trace_5 : decode cX8_trace 5 = .ok (.invokevirtual 295, 3) := by decide +kernel
theorem dX8_trace_8 : decode cX8_trace 8 = .ok (.istore_n 2, 1) := by decide +kernel
theorem dX8_trace_9 : decode cX8_trace 9 = .ok (.iload_n 2, 1) := by decide +kernel
theorem dX8_trace_10 : decode cX8_trace 10 = .ok (.ifCond .ge 7, 3) := by decide +kernel
theorem dX8_trace_13 : decode cX8_trace 13 = .ok (.iconst (-1), 1) := by decide +kernel
theorem dX8_trace_14 : decode cX8_trace 14 = .ok (.goto 4, 3) := by decide +kernel
theorem dX8_trace_17 : decode cX8_trace 17 = .ok (.iload_n 2, 1) := by decide +kernel
theorem dX8_trace_18 : decode cX8_trace 18 = .ok (.ireturn, 1) := by decide +kernel
theorem dX8_keep_0 : decode cX8_keep 0 = .ok (.iload_n 1, 1) := by decide +kernel
theorem dX8_keep_1 : decode cX8_keep 1 = .ok (.invokestatic 141, 3) := by decide +kernel
theorem dX8_keep_4 : decode cX8_keep 4 = .ok (.ifCond .eq 19, 3) := by decide +kernel
theorem dX8_keep_7 : decode cX8_keep 7 = .ok (.iload_n 2, 1) := by decide +kernel
theorem dX8_keep_8 : decode cX8_keep 8 = .ok (.iconst (-1), 1) := by decide +kernel
theorem dX8_keep_9 : decode cX8_keep 9 = .ok (.if_icmp .eq 16, 3) := by decide +kernel
theorem dX8_keep_12 : decode cX8_keep 12 = .ok (.aload_n 0, 1) := by decide +kernel
theorem dX8_keep_13 : decode cX8_keep 13 = .ok (.getfield 75, 3) := by decide +kernel
theorem dX8_keep_16 : decode cX8_keep 16 = .ok (.iload_n 2, 1) := by decide +kernel
theorem dX8_keep_17 : decode cX8_keep 17 = .ok (.invokevirtual 298, 3) := by decide +kernel
theorem dX8_keep_20 : decode cX8_keep 20 = .ok (.ifCond .ne 5, 3) := by decide +kernel
theorem dX8_keep_23 : decode cX8_keep 23 = .ok (.iconst (-1), 1) := by decide +kernel
theorem dX8_keep_24 : decode cX8_keep 24 = .ok (.ireturn, 1) := by decide +kernel
theorem dX8_keep_25 : decode cX8_keep 25 = .ok (.iload_n 2, 1) := by decide +kernel
theorem dX8_keep_26 : decode cX8_keep 26 = .ok (.iconst (-1), 1) := by decide +kernel
theorem dX8_keep_27 : decode cX8_keep 27 = .ok (.if_icmp .ne 15, 3) := by decide +kernel
theorem dX8_keep_30 : decode cX8_keep 30 = .ok (.aload_n 0, 1) := by decide +kernel
theorem dX8_keep_31 : decode cX8_keep 31 = .ok (.getfield 67, 3) := by decide +kernel
theorem dX8_keep_34 : decode cX8_keep 34 = .ok (.iload_n 1, 1) := by decide +kernel
theorem dX8_keep_35 : decode cX8_keep 35 = .ok (.aaload, 1) := by decide +kernel
theorem dX8_keep_36 : decode cX8_keep 36 = .ok (.invokevirtual 301, 3) := by decide +kernel
theorem dX8_keep_39 : decode cX8_keep 39 = .ok (.goto 13, 3) := by decide +kernel
theorem dX8_keep_42 : decode cX8_keep 42 = .ok (.aload_n 0, 1) := by decide +kernel
theorem dX8_keep_43 : decode cX8_keep 43 = .ok (.getfield 67, 3) := by decide +kernel
theorem dX8_keep_46 : decode cX8_keep 46 = .ok (.iload_n 1, 1) := by decide +kernel
theorem dX8_keep_47 : decode cX8_keep 47 = .ok (.aaload, 1) := by decide +kernel
theorem dX8_keep_48 : decode cX8_keep 48 = .ok (.iload_n 2, 1) := by decide +kernel
theorem dX8_keep_49 : decode cX8_keep 49 = .ok (.invokevirtual 304, 3) := by decide +kernel
theorem dX8_keep_52 : decode cX8_keep 52 = .ok (.iconst 1, 1) := by decide +kernel
theorem dX8_keep_53 : decode cX8_keep 53 = .ok (.ireturn, 1) := by decide +kernel
theorem dX8_row_0 : decode cX8_row 0 = .ok (.iload_n 1, 1) := by decide +kernel
theorem dX8_row_1 : decode cX8_row 1 = .ok (.invokestatic 141, 3) := by decide +kernel
theorem dX8_row_4 : decode cX8_row 4 = .ok (.ifCond .eq 17, 3) := by decide +kernel
theorem dX8_row_7 : decode cX8_row 7 = .ok (.iload_n 2, 1) := by decide +kernel
theorem dX8_row_8 : decode cX8_row 8 = .ok (.iconst 5, 1) := by decide +kernel
theorem dX8_row_9 : decode cX8_row 9 = .ok (.invokestatic 188, 3) := by decide +kernel
theorem dX8_row_12 : decode cX8_row 12 = .ok (.ifCond .eq 9, 3) := by decide +kernel
theorem dX8_row_15 : decode cX8_row 15 = .ok (.iload_n 3, 1) := by decide +kernel
theorem dX8_row_16 : decode cX8_row 16 = .ok (.bipush 60, 2) := by decide +kernel
theorem dX8_row_18 : decode cX8_row 18 = .ok (.if_icmp .le 5, 3) := by decide +kernel
theorem dX8_row_21 : decode cX8_row 21 = .ok (.iconst (-1), 1) := by decide +kernel
theorem dX8_row_22 : decode cX8_row 22 = .ok (.ireturn, 1) := by decide +kernel
theorem dX8_row_23 : decode cX8_row 23 = .ok (.iload_n 3, 1) := by decide +kernel
theorem dX8_row_24 : decode cX8_row 24 = .ok (.ifCond .ge 6, 3) := by decide +kernel
theorem dX8_row_27 : decode cX8_row 27 = .ok (.bipush (-14), 2) := by decide +kernel
theorem dX8_row_29 : decode cX8_row 29 = .ok (.ireturn, 1) := by decide +kernel
theorem dX8_row_30 : decode cX8_row 30 = .ok (.aload_n 0, 1) := by decide +kernel
theorem dX8_row_31 : decode cX8_row 31 = .ok (.getfield 67, 3) := by decide +kernel
theorem dX8_row_34 : decode cX8_row 34 = .ok (.iload_n 1, 1) := by decide +kernel
theorem dX8_row_35 : decode cX8_row 35 = .ok (.aaload, 1) := by decide +kernel
theorem dX8_row_36 : decode cX8_row 36 = .ok (.iload_n 2, 1) := by decide +kernel
theorem dX8_row_37 : decode cX8_row 37 = .ok (.iload_n 3, 1) := by decide +kernel
theorem dX8_row_38 : decode cX8_row 38 = .ok (.invokevirtual 308, 3) := by decide +kernel
theorem dX8_row_41 : decode cX8_row 41 = .ok (.iconst 1, 1) := by decide +kernel
theorem dX8_row_42 : decode cX8_row 42 = .ok (.ireturn, 1) := by decide +kernel
theorem dX8_put_0 : decode cX8_put 0 = .ok (.iload_n 1, 1) := by decide +kernel
theorem dX8_put_1 : decode cX8_put 1 = .ok (.invokestatic 141, 3) := by decide +kernel
theorem dX8_put_4 : decode cX8_put 4 = .ok (.ifCond .ne 5, 3) := by decide +kernel
theorem dX8_put_7 : decode cX8_put 7 = .ok (.iconst (-1), 1) := by decide +kernel
theorem dX8_put_8 : decode cX8_put 8 = .ok (.ireturn, 1) := by decide +kernel
theorem dX8_put_9 : decode cX8_put 9 = .ok (.aload_n 0, 1) := by decide +kernel
theorem dX8_put_10 : decode cX8_put 10 = .ok (.getfield 67, 3) := by decide +kernel
theorem dX8_put_13 : decode cX8_put 13 = .ok (.iload_n 1, 1) := by decide +kernel
theorem dX8_put_14 : decode cX8_put 14 = .ok (.aaload, 1) := by decide +kernel
theorem dX8_put_15 : decode cX8_put 15 = .ok (.iload_n 2, 1) := by decide +kernel
theorem dX8_put_16 : decode cX8_put 16 = .ok (.invokestatic 311, 3) := by decide +kernel
theorem dX8_put_19 : decode cX8_put 19 = .ok (.istore 5, 2) := by decide +kernel
theorem dX8_put_21 : decode cX8_put 21 = .ok (.iload 5, 2) := by decide +kernel
theorem dX8_put_23 : decode cX8_put 23 = .ok (.ifCond .eq 6, 3) := by decide +kernel
theorem dX8_put_26 : decode cX8_put 26 = .ok (.iload 5, 2) := by decide +kernel
theorem dX8_put_28 : decode cX8_put 28 = .ok (.ireturn, 1) := by decide +kernel
theorem dX8_put_29 : decode cX8_put 29 = .ok (.aload_n 0, 1) := by decide +kernel
theorem dX8_put_30 : decode cX8_put 30 = .ok (.getfield 67, 3) := by decide +kernel
theorem dX8_put_33 : decode cX8_put 33 = .ok (.iload_n 1, 1) := by decide +kernel
theorem dX8_put_34 : decode cX8_put 34 = .ok (.aaload, 1) := by decide +kernel
theorem dX8_put_35 : decode cX8_put 35 = .ok (.iload_n 2, 1) := by decide +kernel
theorem dX8_put_36 : decode cX8_put 36 = .ok (.lload_n 3, 1) := by decide +kernel
theorem dX8_put_37 : decode cX8_put 37 = .ok (.invokevirtual 314, 3) := by decide +kernel
theorem dX8_put_40 : decode cX8_put 40 = .ok (.iconst 1, 1) := by decide +kernel
theorem dX8_put_41 : decode cX8_put 41 = .ok (.ireturn, 1) := by decide +kernel
theorem dX8_element_0 : decode cX8_element 0 = .ok (.iload_n 1, 1) := by decide +kernel
theorem dX8_element_1 : decode cX8_element 1 = .ok (.invokestatic 141, 3) := by decide +kernel
theorem dX8_element_4 : decode cX8_element 4 = .ok (.ifCond .eq 16, 3) := by decide +kernel
theorem dX8_element_7 : decode cX8_element 7 = .ok (.aload_n 0, 1) := by decide +kernel
theorem dX8_element_8 : decode cX8_element 8 = .ok (.getfield 67, 3) := by decide +kernel
theorem dX8_element_11 : decode cX8_element 11 = .ok (.iload_n 1, 1) := by decide +kernel
theorem dX8_element_12 : decode cX8_element 12 = .ok (.aaload, 1) := by decide +kernel
theorem dX8_element_13 : decode cX8_element 13 = .ok (.iload_n 2, 1) := by decide +kernel
theorem dX8_element_14 : decode cX8_element 14 = .ok (.invokestatic 311, 3) := by decide +kernel
theorem dX8_element_17 : decode cX8_element 17 = .ok (.ifCond .eq 7, 3) := by decide +kernel
theorem dX8_element_20 : decode cX8_element 20 = .ok (.ldc2_w 253, 3) := by decide +kernel
theorem dX8_element_23 : decode cX8_element 23 = .ok (.lreturn, 1) := by decide +kernel
theorem dX8_element_24 : decode cX8_element 24 = .ok (.aload_n 0, 1) := by decide +kernel
theorem dX8_element_25 : decode cX8_element 25 = .ok (.getfield 67, 3) := by decide +kernel
theorem dX8_element_28 : decode cX8_element 28 = .ok (.iload_n 1, 1) := by decide +kernel
theorem dX8_element_29 : decode cX8_element 29 = .ok (.aaload, 1) := by decide +kernel
theorem dX8_element_30 : decode cX8_element 30 = .ok (.iload_n 2, 1) := by decide +kernel
theorem dX8_element_31 : decode cX8_element 31 = .ok (.invokevirtual 158, 3) := by decide +kernel
theorem dX8_element_34 : decode cX8_element 34 = .ok (.lreturn, 1) := by decide +kernel
theorem dX8_refusedPlace_0 : decode cX8_refusedPlace 0 = .ok (.aload_n 0, 1) := by decide +kernel
theorem dX8_refusedPlace_1 : decode cX8_refusedPlace 1 = .ok (.invokevirtual 144, 3) := by decide +kernel
theorem dX8_refusedPlace_4 : decode cX8_refusedPlace 4 = .ok (.ifCond .eq 6, 3) := by decide +kernel
theorem dX8_refusedPlace_7 : decode cX8_refusedPlace 7 = .ok (.bipush (-11), 2) := by decide +kernel
theorem dX8_refusedPlace_9 : decode cX8_refusedPlace 9 = .ok (.ireturn, 1) := by decide +kernel
theorem dX8_refusedPlace_10 : decode cX8_refusedPlace 10 = .ok (.aload_n 0, 1) := by decide +kernel
theorem dX8_refusedPlace_11 : decode cX8_refusedPlace 11 = .ok (.invokevirtual 318, 3) := by decide +kernel
theorem dX8_refusedPlace_14 : decode cX8_refusedPlace 14 = .ok (.ifCond .ne 6, 3) := by decide +kernel
theorem dX8_refusedPlace_17 : decode cX8_refusedPlace 17 = .ok (.bipush (-12), 2) := by decide +kernel
theorem dX8_refusedPlace_19 : decode cX8_refusedPlace 19 = .ok (.ireturn, 1) := by decide +kernel
theorem dX8_refusedPlace_20 : decode cX8_refusedPlace 20 = .ok (.aload_n 0, 1) := by decide +kernel
theorem dX8_refusedPlace_21 : decode cX8_refusedPlace 21 = .ok (.iload_n 1, 1) := by decide +kernel
theorem dX8_refusedPlace_22 : decode cX8_refusedPlace 22 = .ok (.iconst 1, 1) := by decide +kernel
theorem dX8_refusedPlace_23 : decode cX8_refusedPlace 23 = .ok (.invokevirtual 321, 3) := by decide +kernel
theorem dX8_refusedPlace_26 : decode cX8_refusedPlace 26 = .ok (.ifCond .eq 7, 3) := by decide +kernel
theorem dX8_refusedPlace_29 : decode cX8_refusedPlace 29 = .ok (.iconst 0, 1) := by decide +kernel
theorem dX8_refusedPlace_30 : decode cX8_refusedPlace 30 = .ok (.goto 5, 3) := by decide +kernel
theorem dX8_refusedPlace_33 : decode cX8_refusedPlace 33 = .ok (.bipush (-13), 2) := by decide +kernel
theorem dX8_refusedPlace_35 : decode cX8_refusedPlace 35 = .ok (.ireturn, 1) := by decide +kernel
theorem dX8_shift_0 : decode cX8_shift 0 = .ok (.iload_n 1, 1) := by decide +kernel
theorem dX8_shift_1 : decode cX8_shift 1 = .ok (.invokestatic 141, 3) := by decide +kernel
theorem dX8_shift_4 : decode cX8_shift 4 = .ok (.ifCond .eq 10, 3) := by decide +kernel
theorem dX8_shift_7 : decode cX8_shift 7 = .ok (.iload_n 3, 1) := by decide +kernel
theorem dX8_shift_8 : decode cX8_shift 8 = .ok (.invokestatic 141, 3) := by decide +kernel
theorem dX8_shift_11 : decode cX8_shift 11 = .ok (.ifCond .ne 5, 3) := by decide +kernel
theorem dX8_shift_14 : decode cX8_shift 14 = .ok (.iconst (-1), 1) := by decide +kernel
theorem dX8_shift_15 : decode cX8_shift 15 = .ok (.ireturn, 1) := by decide +kernel
theorem dX8_shift_16 : decode cX8_shift 16 = .ok (.aload_n 0, 1) := by decide +kernel
theorem dX8_shift_17 : decode cX8_shift 17 = .ok (.getfield 67, 3) := by decide +kernel
theorem dX8_shift_20 : decode cX8_shift 20 = .ok (.iload_n 1, 1) := by decide +kernel
theorem dX8_shift_21 : decode cX8_shift 21 = .ok (.aaload, 1) := by decide +kernel
theorem dX8_shift_22 : decode cX8_shift 22 = .ok (.astore 6, 2) := by decide +kernel
theorem dX8_shift_24 : decode cX8_shift 24 = .ok (.aload_n 0, 1) := by decide +kernel
theorem dX8_shift_25 : decode cX8_shift 25 = .ok (.getfield 67, 3) := by decide +kernel
theorem dX8_shift_28 : decode cX8_shift 28 = .ok (.iload_n 3, 1) := by decide +kernel
theorem dX8_shift_29 : decode cX8_shift 29 = .ok (.aaload, 1) := by decide +kernel
theorem dX8_shift_30 : decode cX8_shift 30 = .ok (.astore 7, 2) := by decide +kernel
theorem dX8_shift_32 : decode cX8_shift 32 = .ok (.aload 6, 2) := by decide +kernel
theorem dX8_shift_34 : decode cX8_shift 34 = .ok (.invokevirtual 144, 3) := by decide +kernel
theorem dX8_shift_37 : decode cX8_shift 37 = .ok (.ifCond .ne 11, 3) := by decide +kernel
theorem dX8_shift_40 : decode cX8_shift 40 = .ok (.aload 7, 2) := by decide +kernel
theorem dX8_shift_42 : decode cX8_shift 42 = .ok (.invokevirtual 144, 3) := by decide +kernel
theorem dX8_shift_45 : decode cX8_shift 45 = .ok (.ifCond .eq 6, 3) := by decide +kernel
theorem dX8_shift_48 : decode cX8_shift 48 = .ok (.bipush (-11), 2) := by decide +kernel
theorem dX8_shift_50 : decode cX8_shift 50 = .ok (.ireturn, 1) := by decide +kernel
theorem dX8_shift_51 : decode cX8_shift 51 = .ok (.aload 6, 2) := by decide +kernel
theorem dX8_shift_53 : decode cX8_shift 53 = .ok (.invokevirtual 318, 3) := by decide +kernel
theorem dX8_shift_56 : decode cX8_shift 56 = .ok (.ifCond .eq 24, 3) := by decide +kernel
theorem dX8_shift_59 : decode cX8_shift 59 = .ok (.aload 7, 2) := by decide +kernel
theorem dX8_shift_61 : decode cX8_shift 61 = .ok (.invokevirtual 318, 3) := by decide +kernel
theorem dX8_shift_64 : decode cX8_shift 64 = .ok (.ifCond .eq 16, 3) := by decide +kernel
theorem dX8_shift_67 : decode cX8_shift 67 = .ok (.aload 6, 2) := by decide +kernel
theorem dX8_shift_69 : decode cX8_shift 69 = .ok (.getfield 324, 3) := by decide +kernel
theorem dX8_shift_72 : decode cX8_shift 72 = .ok (.aload 7, 2) := by decide +kernel
theorem dX8_shift_74 : decode cX8_shift 74 = .ok (.getfield 324, 3) := by decide +kernel
theorem dX8_shift_77 : decode cX8_shift 77 = .ok (.if_icmp .eq 6, 3) := by decide +kernel
theorem dX8_shift_80 : decode cX8_shift 80 = .ok (.bipush (-12), 2) := by decide +kernel
theorem dX8_shift_82 : decode cX8_shift 82 = .ok (.ireturn, 1) := by decide +kernel
theorem dX8_shift_83 : decode cX8_shift 83 = .ok (.aload 6, 2) := by decide +kernel
theorem dX8_shift_85 : decode cX8_shift 85 = .ok (.iload_n 2, 1) := by decide +kernel
theorem dX8_shift_86 : decode cX8_shift 86 = .ok (.iload 5, 2) := by decide +kernel
theorem dX8_shift_88 : decode cX8_shift 88 = .ok (.invokevirtual 321, 3) := by decide +kernel
theorem dX8_shift_91 : decode cX8_shift 91 = .ok (.ifCond .eq 15, 3) := by decide +kernel
theorem dX8_shift_94 : decode cX8_shift 94 = .ok (.aload 7, 2) := by decide +kernel
theorem dX8_shift_96 : decode cX8_shift 96 = .ok (.iload 4, 2) := by decide +kernel
theorem dX8_shift_98 : decode cX8_shift 98 = .ok (.iload 5, 2) := by decide +kernel
theorem dX8_shift_100 : decode cX8_shift 100 = .ok (.invokevirtual 321, 3) := by decide +kernel
theorem dX8_shift_103 : decode cX8_shift 103 = .ok (.ifCond .ne 6, 3) := by decide +kernel
theorem dX8_shift_106 : decode cX8_shift 106 = .ok (.bipush (-13), 2) := by decide +kernel
theorem dX8_shift_108 : decode cX8_shift 108 = .ok (.ireturn, 1) := by decide +kernel
theorem dX8_shift_109 : decode cX8_shift 109 = .ok (.aload 6, 2) := by decide +kernel
theorem dX8_shift_111 : decode cX8_shift 111 = .ok (.getfield 327, 3) := by decide +kernel
theorem dX8_shift_114 : decode cX8_shift 114 = .ok (.iload_n 2, 1) := by decide +kernel
theorem dX8_shift_115 : decode cX8_shift 115 = .ok (.aload 7, 2) := by decide +kernel
theorem dX8_shift_117 : decode cX8_shift 117 = .ok (.getfield 327, 3) := by decide +kernel
theorem dX8_shift_120 : decode cX8_shift 120 = .ok (.iload 4, 2) := by decide +kernel
theorem dX8_shift_122 : decode cX8_shift 122 = .ok (.iload 5, 2) := by decide +kernel
theorem dX8_shift_124 : decode cX8_shift 124 = .ok (.invokestatic 331, 3) := by decide +kernel
theorem dX8_shift_127 : decode cX8_shift 127 = .ok (.iload 5, 2) := by decide +kernel
theorem dX8_shift_129 : decode cX8_shift 129 = .ok (.ireturn, 1) := by decide +kernel
theorem dX8_taken_0 : decode cX8_taken 0 = .ok (.iload_n 1, 1) := by decide +kernel
theorem dX8_taken_1 : decode cX8_taken 1 = .ok (.invokestatic 141, 3) := by decide +kernel
theorem dX8_taken_4 : decode cX8_taken 4 = .ok (.ifCond .eq 10, 3) := by decide +kernel
theorem dX8_taken_7 : decode cX8_taken 7 = .ok (.iload_n 2, 1) := by decide +kernel
theorem dX8_taken_8 : decode cX8_taken 8 = .ok (.invokestatic 285, 3) := by decide +kernel
theorem dX8_taken_11 : decode cX8_taken 11 = .ok (.ifCond .ne 5, 3) := by decide +kernel
theorem dX8_taken_14 : decode cX8_taken 14 = .ok (.iconst (-1), 1) := by decide +kernel
theorem dX8_taken_15 : decode cX8_taken 15 = .ok (.ireturn, 1) := by decide +kernel
theorem dX8_taken_16 : decode cX8_taken 16 = .ok (.aload_n 0, 1) := by decide +kernel
theorem dX8_taken_17 : decode cX8_taken 17 = .ok (.getfield 67, 3) := by decide +kernel
theorem dX8_taken_20 : decode cX8_taken 20 = .ok (.iload_n 1, 1) := by decide +kernel
theorem dX8_taken_21 : decode cX8_taken 21 = .ok (.aaload, 1) := by decide +kernel
theorem dX8_taken_22 : decode cX8_taken 22 = .ok (.invokevirtual 144, 3) := by decide +kernel
theorem dX8_taken_25 : decode cX8_taken 25 = .ok (.ifCond .eq 6, 3) := by decide +kernel
theorem dX8_taken_28 : decode cX8_taken 28 = .ok (.bipush (-11), 2) := by decide +kernel
theorem dX8_taken_30 : decode cX8_taken 30 = .ok (.ireturn, 1) := by decide +kernel
theorem dX8_taken_31 : decode cX8_taken 31 = .ok (.aload_n 0, 1) := by decide +kernel
theorem dX8_taken_32 : decode cX8_taken 32 = .ok (.getfield 67, 3) := by decide +kernel
theorem dX8_taken_35 : decode cX8_taken 35 = .ok (.iload_n 1, 1) := by decide +kernel
theorem dX8_taken_36 : decode cX8_taken 36 = .ok (.aaload, 1) := by decide +kernel
theorem dX8_taken_37 : decode cX8_taken 37 = .ok (.invokevirtual 318, 3) := by decide +kernel
theorem dX8_taken_40 : decode cX8_taken 40 = .ok (.ifCond .eq 6, 3) := by decide +kernel
theorem dX8_taken_43 : decode cX8_taken 43 = .ok (.bipush (-12), 2) := by decide +kernel
theorem dX8_taken_45 : decode cX8_taken 45 = .ok (.ireturn, 1) := by decide +kernel
theorem dX8_taken_46 : decode cX8_taken 46 = .ok (.aload_n 0, 1) := by decide +kernel
theorem dX8_taken_47 : decode cX8_taken 47 = .ok (.getfield 75, 3) := by decide +kernel
theorem dX8_taken_50 : decode cX8_taken 50 = .ok (.aload_n 0, 1) := by decide +kernel
theorem dX8_taken_51 : decode cX8_taken 51 = .ok (.getfield 67, 3) := by decide +kernel
theorem dX8_taken_54 : decode cX8_taken 54 = .ok (.iload_n 1, 1) := by decide +kernel
theorem dX8_taken_55 : decode cX8_taken 55 = .ok (.aaload, 1) := by decide +kernel
theorem dX8_taken_56 : decode cX8_taken 56 = .ok (.getfield 337, 3) := by decide +kernel
theorem dX8_taken_59 : decode cX8_taken 59 = .ok (.invokevirtual 340, 3) := by decide +kernel
theorem dX8_taken_62 : decode cX8_taken 62 = .ok (.istore_n 3, 1) := by decide +kernel
theorem dX8_taken_63 : decode cX8_taken 63 = .ok (.iload_n 3, 1) := by decide +kernel
theorem dX8_taken_64 : decode cX8_taken 64 = .ok (.iload_n 2, 1) := by decide +kernel
theorem dX8_taken_65 : decode cX8_taken 65 = .ok (.invokestatic 343, 3) := by decide +kernel
theorem dX8_taken_68 : decode cX8_taken 68 = .ok (.ifCond .eq 7, 3) := by decide +kernel
theorem dX8_taken_71 : decode cX8_taken 71 = .ok (.iload_n 3, 1) := by decide +kernel
theorem dX8_taken_72 : decode cX8_taken 72 = .ok (.goto 5, 3) := by decide +kernel
theorem dX8_taken_75 : decode cX8_taken 75 = .ok (.bipush (-12), 2) := by decide +kernel
theorem dX8_taken_77 : decode cX8_taken 77 = .ok (.ireturn, 1) := by decide +kernel
theorem dX8_count_0 : decode cX8_count 0 = .ok (.iload_n 1, 1) := by decide +kernel
theorem dX8_count_1 : decode cX8_count 1 = .ok (.tableswitch 87 0 5 #[39, 47, 55, 63, 71, 79], 39) := by decide +kernel
theorem dX8_count_40 : decode cX8_count 40 = .ok (.aload_n 0, 1) := by decide +kernel
theorem dX8_count_41 : decode cX8_count 41 = .ok (.getfield 10, 3) := by decide +kernel
theorem dX8_count_44 : decode cX8_count 44 = .ok (.invokevirtual 346, 3) := by decide +kernel
theorem dX8_count_47 : decode cX8_count 47 = .ok (.ireturn, 1) := by decide +kernel
theorem dX8_count_48 : decode cX8_count 48 = .ok (.aload_n 0, 1) := by decide +kernel
theorem dX8_count_49 : decode cX8_count 49 = .ok (.getfield 10, 3) := by decide +kernel
theorem dX8_count_52 : decode cX8_count 52 = .ok (.invokevirtual 349, 3) := by decide +kernel
theorem dX8_count_55 : decode cX8_count 55 = .ok (.ireturn, 1) := by decide +kernel
theorem dX8_count_56 : decode cX8_count 56 = .ok (.aload_n 0, 1) := by decide +kernel
theorem dX8_count_57 : decode cX8_count 57 = .ok (.getfield 40, 3) := by decide +kernel
theorem dX8_count_60 : decode cX8_count 60 = .ok (.getfield 165, 3) := by decide +kernel
theorem dX8_count_63 : decode cX8_count 63 = .ok (.ireturn, 1) := by decide +kernel
theorem dX8_count_64 : decode cX8_count 64 = .ok (.aload_n 0, 1) := by decide +kernel
theorem dX8_count_65 : decode cX8_count 65 = .ok (.getfield 61, 3) := by decide +kernel
theorem dX8_count_68 : decode cX8_count 68 = .ok (.getfield 276, 3) := by decide +kernel
theorem dX8_count_71 : decode cX8_count 71 = .ok (.ireturn, 1) := by decide +kernel
theorem dX8_count_72 : decode cX8_count 72 = .ok (.aload_n 0, 1) := by decide +kernel
theorem dX8_count_73 : decode cX8_count 73 = .ok (.getfield 75, 3) := by decide +kernel
theorem dX8_count_76 : decode cX8_count 76 = .ok (.getfield 352, 3) := by decide +kernel
theorem dX8_count_79 : decode cX8_count 79 = .ok (.ireturn, 1) := by decide +kernel
theorem dX8_count_80 : decode cX8_count 80 = .ok (.aload_n 0, 1) := by decide +kernel
theorem dX8_count_81 : decode cX8_count 81 = .ok (.getfield 75, 3) := by decide +kernel
theorem dX8_count_84 : decode cX8_count 84 = .ok (.getfield 354, 3) := by decide +kernel
theorem dX8_count_87 : decode cX8_count 87 = .ok (.ireturn, 1) := by decide +kernel
theorem dX8_count_88 : decode cX8_count 88 = .ok (.iconst (-1), 1) := by decide +kernel
theorem dX8_count_89 : decode cX8_count 89 = .ok (.ireturn, 1) := by decide +kernel
theorem dX8_isShelf_0 : decode cX8_isShelf 0 = .ok (.iload_n 0, 1) := by decide +kernel
theorem dX8_isShelf_1 : decode cX8_isShelf 1 = .ok (.ifCond .lt 13, 3) := by decide +kernel
theorem dX8_isShelf_4 : decode cX8_isShelf 4 = .ok (.iload_n 0, 1) := by decide +kernel
theorem dX8_isShelf_5 : decode cX8_isShelf 5 = .ok (.bipush 6, 2) := by decide +kernel
theorem dX8_isShelf_7 : decode cX8_isShelf 7 = .ok (.if_icmp .ge 7, 3) := by decide +kernel
theorem dX8_isShelf_10 : decode cX8_isShelf 10 = .ok (.iconst 1, 1) := by decide +kernel
theorem dX8_isShelf_11 : decode cX8_isShelf 11 = .ok (.goto 4, 3) := by decide +kernel
theorem dX8_isShelf_14 : decode cX8_isShelf 14 = .ok (.iconst 0, 1) := by decide +kernel
theorem dX8_isShelf_15 : decode cX8_isShelf 15 = .ok (.ireturn, 1) := by decide +kernel
theorem dX8_isOneOf_0 : decode cX8_isOneOf 0 = .ok (.iload_n 0, 1) := by decide +kernel
theorem dX8_isOneOf_1 : decode cX8_isOneOf 1 = .ok (.ifCond .lt 12, 3) := by decide +kernel
theorem dX8_isOneOf_4 : decode cX8_isOneOf 4 = .ok (.iload_n 0, 1) := by decide +kernel
theorem dX8_isOneOf_5 : decode cX8_isOneOf 5 = .ok (.iload_n 1, 1) := by decide +kernel
theorem dX8_isOneOf_6 : decode cX8_isOneOf 6 = .ok (.if_icmp .ge 7, 3) := by decide +kernel
theorem dX8_isOneOf_9 : decode cX8_isOneOf 9 = .ok (.iconst 1, 1) := by decide +kernel
theorem dX8_isOneOf_10 : decode cX8_isOneOf 10 = .ok (.goto 4, 3) := by decide +kernel
theorem dX8_isOneOf_13 : decode cX8_isOneOf 13 = .ok (.iconst 0, 1) := by decide +kernel
theorem dX8_isOneOf_14 : decode cX8_isOneOf 14 = .ok (.ireturn, 1) := by decide +kernel
theorem dX8_refusedBytes_0 : decode cX8_refusedBytes 0 = .ok (.aload_n 0, 1) := by decide +kernel
theorem dX8_refusedBytes_1 : decode cX8_refusedBytes 1 = .ok (.getfield 67, 3) := by decide +kernel
theorem dX8_refusedBytes_4 : decode cX8_refusedBytes 4 = .ok (.iload_n 1, 1) := by decide +kernel
theorem dX8_refusedBytes_5 : decode cX8_refusedBytes 5 = .ok (.aaload, 1) := by decide +kernel
theorem dX8_refusedBytes_6 : decode cX8_refusedBytes 6 = .ok (.invokevirtual 144, 3) := by decide +kernel
theorem dX8_refusedBytes_9 : decode cX8_refusedBytes 9 = .ok (.ifCond .eq 6, 3) := by decide +kernel
theorem dX8_refusedBytes_12 : decode cX8_refusedBytes 12 = .ok (.bipush (-11), 2) := by decide +kernel
theorem dX8_refusedBytes_14 : decode cX8_refusedBytes 14 = .ok (.ireturn, 1) := by decide +kernel
theorem dX8_refusedBytes_15 : decode cX8_refusedBytes 15 = .ok (.aload_n 0, 1) := by decide +kernel
theorem dX8_refusedBytes_16 : decode cX8_refusedBytes 16 = .ok (.getfield 67, 3) := by decide +kernel
theorem dX8_refusedBytes_19 : decode cX8_refusedBytes 19 = .ok (.iload_n 1, 1) := by decide +kernel
theorem dX8_refusedBytes_20 : decode cX8_refusedBytes 20 = .ok (.aaload, 1) := by decide +kernel
theorem dX8_refusedBytes_21 : decode cX8_refusedBytes 21 = .ok (.invokevirtual 148, 3) := by decide +kernel
theorem dX8_refusedBytes_24 : decode cX8_refusedBytes 24 = .ok (.ifCond .eq 7, 3) := by decide +kernel
theorem dX8_refusedBytes_27 : decode cX8_refusedBytes 27 = .ok (.iconst 0, 1) := by decide +kernel
theorem dX8_refusedBytes_28 : decode cX8_refusedBytes 28 = .ok (.goto 5, 3) := by decide +kernel
theorem dX8_refusedBytes_31 : decode cX8_refusedBytes 31 = .ok (.bipush (-12), 2) := by decide +kernel
theorem dX8_refusedBytes_33 : decode cX8_refusedBytes 33 = .ok (.ireturn, 1) := by decide +kernel
theorem dX9_init_0 : decode cX9_init 0 = .ok (.aload_n 0, 1) := by decide +kernel
theorem dX9_init_1 : decode cX9_init 1 = .ok (.invokespecial 1, 3) := by decide +kernel
theorem dX9_init_4 : decode cX9_init 4 = .ok (.aload_n 0, 1) := by decide +kernel
theorem dX9_init_5 : decode cX9_init 5 = .ok (.bipush 36, 2) := by decide +kernel
theorem dX9_init_7 : decode cX9_init 7 = .ok (.newarray .int, 2) := by decide +kernel
theorem dX9_init_9 : decode cX9_init 9 = .ok (.putfield 7, 3) := by decide +kernel
theorem dX9_init_12 : decode cX9_init 12 = .ok (.aload_n 0, 1) := by decide +kernel
theorem dX9_init_13 : decode cX9_init 13 = .ok (.bipush 36, 2) := by decide +kernel
theorem dX9_init_15 : decode cX9_init 15 = .ok (.newarray .int, 2) := by decide +kernel
theorem dX9_init_17 : decode cX9_init 17 = .ok (.putfield 13, 3) := by decide +kernel
theorem dX9_init_20 : decode cX9_init 20 = .ok (.aload_n 0, 1) := by decide +kernel
theorem dX9_init_21 : decode cX9_init 21 = .ok (.bipush 60, 2) := by decide +kernel
theorem dX9_init_23 : decode cX9_init 23 = .ok (.newarray .int, 2) := by decide +kernel
theorem dX9_init_25 : decode cX9_init 25 = .ok (.dup, 1) := by decide +kernel
theorem dX9_init_26 : decode cX9_init 26 = .ok (.iconst 0, 1) := by decide +kernel
theorem dX9_init_27 : decode cX9_init 27 = .ok (.bipush 8, 2) := by decide +kernel
theorem dX9_init_29 : decode cX9_init 29 = .ok (.iastore, 1) := by decide +kernel
theorem dX9_init_30 : decode cX9_init 30 = .ok (.dup, 1) := by decide +kernel
theorem dX9_init_31 : decode cX9_init 31 = .ok (.iconst 1, 1) := by decide +kernel
theorem dX9_init_32 : decode cX9_init 32 = .ok (.bipush 8, 2) := by decide +kernel
theorem dX9_init_34 : decode cX9_init 34 = .ok (.iastore, 1) := by decide +kernel
theorem dX9_init_35 : decode cX9_init 35 = .ok (.dup, 1) := by decide +kernel
theorem dX9_init_36 : decode cX9_init 36 = .ok (.iconst 2, 1) := by decide +kernel
theorem dX9_init_37 : decode cX9_init 37 = .ok (.bipush 8, 2) := by decide +kernel
theorem dX9_init_39 : decode cX9_init 39 = .ok (.iastore, 1) := by decide +kernel
theorem dX9_init_40 : decode cX9_init 40 = .ok (.dup, 1) := by decide +kernel
theorem dX9_init_41 : decode cX9_init 41 = .ok (.iconst 3, 1) := by decide +kernel
theorem dX9_init_42 : decode cX9_init 42 = .ok (.bipush 8, 2) := by decide +kernel
theorem dX9_init_44 : decode cX9_init 44 = .ok (.iastore, 1) := by decide +kernel
theorem dX9_init_45 : decode cX9_init 45 = .ok (.dup, 1) := by decide +kernel
theorem dX9_init_46 : decode cX9_init 46 = .ok (.iconst 4, 1) := by decide +kernel
theorem dX9_init_47 : decode cX9_init 47 = .ok (.bipush 8, 2) := by decide +kernel
theorem dX9_init_49 : decode cX9_init 49 = .ok (.iastore, 1) := by decide +kernel
theorem dX9_init_50 : decode cX9_init 50 = .ok (.dup, 1) := by decide +kernel
theorem dX9_init_51 : decode cX9_init 51 = .ok (.iconst 5, 1) := by decide +kernel
theorem dX9_init_52 : decode cX9_init 52 = .ok (.bipush 8, 2) := by decide +kernel
theorem dX9_init_54 : decode cX9_init 54 = .ok (.iastore, 1) := by decide +kernel
theorem dX9_init_55 : decode cX9_init 55 = .ok (.dup, 1) := by decide +kernel
theorem dX9_init_56 : decode cX9_init 56 = .ok (.bipush 6, 2) := by decide +kernel
theorem dX9_init_58 : decode cX9_init 58 = .ok (.bipush 8, 2) := by decide +kernel
theorem dX9_init_60 : decode cX9_init 60 = .ok (.iastore, 1) := by decide +kernel
theorem dX9_init_61 : decode cX9_init 61 = .ok (.dup, 1) := by decide +kernel
theorem dX9_init_62 : decode cX9_init 62 = .ok (.bipush 7, 2) := by decide +kernel
theorem dX9_init_64 : decode cX9_init 64 = .ok (.bipush 8, 2) := by decide +kernel
theorem dX9_init_66 : decode cX9_init 66 = .ok (.iastore, 1) := by decide +kernel
theorem dX9_init_67 : decode cX9_init 67 = .ok (.dup, 1) := by decide +kernel
theorem dX9_init_68 : decode cX9_init 68 = .ok (.bipush 8, 2) := by decide +kernel
theorem dX9_init_70 : decode cX9_init 70 = .ok (.bipush 8, 2) := by decide +kernel
theorem dX9_init_72 : decode cX9_init 72 = .ok (.iastore, 1) := by decide +kernel
theorem dX9_init_73 : decode cX9_init 73 = .ok (.dup, 1) := by decide +kernel
theorem dX9_init_74 : decode cX9_init 74 = .ok (.bipush 9, 2) := by decide +kernel
theorem dX9_init_76 : decode cX9_init 76 = .ok (.bipush 8, 2) := by decide +kernel
theorem dX9_init_78 : decode cX9_init 78 = .ok (.iastore, 1) := by decide +kernel
theorem dX9_init_79 : decode cX9_init 79 = .ok (.dup, 1) := by decide +kernel
theorem dX9_init_80 : decode cX9_init 80 = .ok (.bipush 10, 2) := by decide +kernel
theorem dX9_init_82 : decode cX9_init 82 = .ok (.bipush 8, 2) := by decide +kernel
theorem dX9_init_84 : decode cX9_init 84 = .ok (.iastore, 1) := by decide +kernel
theorem dX9_init_85 : decode cX9_init 85 = .ok (.dup, 1) := by decide +kernel
theorem dX9_init_86 : decode cX9_init 86 = .ok (.bipush 11, 2) := by decide +kernel
theorem dX9_init_88 : decode cX9_init 88 = .ok (.bipush 8, 2) := by decide +kernel
theorem dX9_init_90 : decode cX9_init 90 = .ok (.iastore, 1) := by decide +kernel
theorem dX9_init_91 : decode cX9_init 91 = .ok (.dup, 1) := by decide +kernel
theorem dX9_init_92 : decode cX9_init 92 = .ok (.bipush 12, 2) := by decide +kernel
theorem dX9_init_94 : decode cX9_init 94 = .ok (.bipush 8, 2) := by decide +kernel
theorem dX9_init_96 : decode cX9_init 96 = .ok (.iastore, 1) := by decide +kernel
theorem dX9_init_97 : decode cX9_init 97 = .ok (.dup, 1) := by decide +kernel
theorem dX9_init_98 : decode cX9_init 98 = .ok (.bipush 13, 2) := by decide +kernel
theorem dX9_init_100 : decode cX9_init 100 = .ok (.bipush 8, 2) := by decide +kernel
theorem dX9_init_102 : decode cX9_init 102 = .ok (.iastore, 1) := by decide +kernel
theorem dX9_init_103 : decode cX9_init 103 = .ok (.dup, 1) := by decide +kernel
theorem dX9_init_104 : decode cX9_init 104 = .ok (.bipush 14, 2) := by decide +kernel
theorem dX9_init_106 : decode cX9_init 106 = .ok (.bipush 8, 2) := by decide +kernel
theorem dX9_init_108 : decode cX9_init 108 = .ok (.iastore, 1) := by decide +kernel
theorem dX9_init_109 : decode cX9_init 109 = .ok (.dup, 1) := by decide +kernel
theorem dX9_init_110 : decode cX9_init 110 = .ok (.bipush 15, 2) := by decide +kernel
theorem dX9_init_112 : decode cX9_init 112 = .ok (.bipush 8, 2) := by decide +kernel
theorem dX9_init_114 : decode cX9_init 114 = .ok (.iastore, 1) := by decide +kernel
theorem dX9_init_115 : decode cX9_init 115 = .ok (.dup, 1) := by decide +kernel
theorem dX9_init_116 : decode cX9_init 116 = .ok (.bipush 16, 2) := by decide +kernel
theorem dX9_init_118 : decode cX9_init 118 = .ok (.bipush 8, 2) := by decide +kernel
theorem dX9_init_120 : decode cX9_init 120 = .ok (.iastore, 1) := by decide +kernel
theorem dX9_init_121 : decode cX9_init 121 = .ok (.dup, 1) := by decide +kernel
theorem dX9_init_122 : decode cX9_init 122 = .ok (.bipush 17, 2) := by decide +kernel
theorem dX9_init_124 : decode cX9_init 124 = .ok (.bipush 8, 2) := by decide +kernel
theorem dX9_init_126 : decode cX9_init 126 = .ok (.iastore, 1) := by decide +kernel
theorem dX9_init_127 : decode cX9_init 127 = .ok (.dup, 1) := by decide +kernel
theorem dX9_init_128 : decode cX9_init 128 = .ok (.bipush 18, 2) := by decide +kernel
theorem dX9_init_130 : decode cX9_init 130 = .ok (.bipush 8, 2) := by decide +kernel
theorem dX9_init_132 : decode cX9_init 132 = .ok (.iastore, 1) := by decide +kernel
theorem dX9_init_133 : decode cX9_init 133 = .ok (.dup, 1) := by decide +kernel
theorem dX9_init_134 : decode cX9_init 134 = .ok (.bipush 19, 2) := by decide +kernel
theorem dX9_init_136 : decode cX9_init 136 = .ok (.bipush 8, 2) := by decide +kernel
theorem dX9_init_138 : decode cX9_init 138 = .ok (.iastore, 1) := by decide +kernel
theorem dX9_init_139 : decode cX9_init 139 = .ok (.dup, 1) := by decide +kernel
theorem dX9_init_140 : decode cX9_init 140 = .ok (.bipush 20, 2) := by decide +kernel
theorem dX9_init_142 : decode cX9_init 142 = .ok (.bipush 8, 2) := by decide +kernel
theorem dX9_init_144 : decode cX9_init 144 = .ok (.iastore, 1) := by decide +kernel
theorem dX9_init_145 : decode cX9_init 145 = .ok (.dup, 1) := by decide +kernel
theorem dX9_init_146 : decode cX9_init 146 = .ok (.bipush 21, 2) := by decide +kernel
theorem dX9_init_148 : decode cX9_init 148 = .ok (.bipush 8, 2) := by decide +kernel
theorem dX9_init_150 : decode cX9_init 150 = .ok (.iastore, 1) := by decide +kernel
theorem dX9_init_151 : decode cX9_init 151 = .ok (.dup, 1) := by decide +kernel
theorem dX9_init_152 : decode cX9_init 152 = .ok (.bipush 22, 2) := by decide +kernel
theorem dX9_init_154 : decode cX9_init 154 = .ok (.bipush 8, 2) := by decide +kernel
theorem dX9_init_156 : decode cX9_init 156 = .ok (.iastore, 1) := by decide +kernel
theorem dX9_init_157 : decode cX9_init 157 = .ok (.dup, 1) := by decide +kernel
theorem dX9_init_158 : decode cX9_init 158 = .ok (.bipush 23, 2) := by decide +kernel
theorem dX9_init_160 : decode cX9_init 160 = .ok (.bipush 8, 2) := by decide +kernel
theorem dX9_init_162 : decode cX9_init 162 = .ok (.iastore, 1) := by decide +kernel
theorem dX9_init_163 : decode cX9_init 163 = .ok (.dup, 1) := by decide +kernel
theorem dX9_init_164 : decode cX9_init 164 = .ok (.bipush 24, 2) := by decide +kernel
theorem dX9_init_166 : decode cX9_init 166 = .ok (.bipush 8, 2) := by decide +kernel
theorem dX9_init_168 : decode cX9_init 168 = .ok (.iastore, 1) := by decide +kernel
theorem dX9_init_169 : decode cX9_init 169 = .ok (.dup, 1) := by decide +kernel
theorem dX9_init_170 : decode cX9_init 170 = .ok (.bipush 25, 2) := by decide +kernel
theorem dX9_init_172 : decode cX9_init 172 = .ok (.bipush 8, 2) := by decide +kernel
theorem dX9_init_174 : decode cX9_init 174 = .ok (.iastore, 1) := by decide +kernel
theorem dX9_init_175 : decode cX9_init 175 = .ok (.dup, 1) := by decide +kernel
theorem dX9_init_176 : decode cX9_init 176 = .ok (.bipush 26, 2) := by decide +kernel
theorem dX9_init_178 : decode cX9_init 178 = .ok (.bipush 8, 2) := by decide +kernel
theorem dX9_init_180 : decode cX9_init 180 = .ok (.iastore, 1) := by decide +kernel
theorem dX9_init_181 : decode cX9_init 181 = .ok (.dup, 1) := by decide +kernel
theorem dX9_init_182 : decode cX9_init 182 = .ok (.bipush 27, 2) := by decide +kernel
theorem dX9_init_184 : decode cX9_init 184 = .ok (.bipush 8, 2) := by decide +kernel
theorem dX9_init_186 : decode cX9_init 186 = .ok (.iastore, 1) := by decide +kernel
theorem dX9_init_187 : decode cX9_init 187 = .ok (.dup, 1) := by decide +kernel
theorem dX9_init_188 : decode cX9_init 188 = .ok (.bipush 28, 2) := by decide +kernel
theorem dX9_init_190 : decode cX9_init 190 = .ok (.bipush 8, 2) := by decide +kernel
theorem dX9_init_192 : decode cX9_init 192 = .ok (.iastore, 1) := by decide +kernel
theorem dX9_init_193 : decode cX9_init 193 = .ok (.dup, 1) := by decide +kernel
theorem dX9_init_194 : decode cX9_init 194 = .ok (.bipush 29, 2) := by decide +kernel
theorem dX9_init_196 : decode cX9_init 196 = .ok (.bipush 8, 2) := by decide +kernel
theorem dX9_init_198 : decode cX9_init 198 = .ok (.iastore, 1) := by decide +kernel
theorem dX9_init_199 : decode cX9_init 199 = .ok (.dup, 1) := by decide +kernel
theorem dX9_init_200 : decode cX9_init 200 = .ok (.bipush 30, 2) := by decide +kernel
theorem dX9_init_202 : decode cX9_init 202 = .ok (.bipush 8, 2) := by decide +kernel
theorem dX9_init_204 : decode cX9_init 204 = .ok (.iastore, 1) := by decide +kernel
theorem dX9_init_205 : decode cX9_init 205 = .ok (.dup, 1) := by decide +kernel
theorem dX9_init_206 : decode cX9_init 206 = .ok (.bipush 31, 2) := by decide +kernel
theorem dX9_init_208 : decode cX9_init 208 = .ok (.bipush 8, 2) := by decide +kernel
theorem dX9_init_210 : decode cX9_init 210 = .ok (.iastore, 1) := by decide +kernel
theorem dX9_init_211 : decode cX9_init 211 = .ok (.dup, 1) := by decide +kernel
theorem dX9_init_212 : decode cX9_init 212 = .ok (.bipush 32, 2) := by decide +kernel
theorem dX9_init_214 : decode cX9_init 214 = .ok (.bipush 8, 2) := by decide +kernel
theorem dX9_init_216 : decode cX9_init 216 = .ok (.iastore, 1) := by decide +kernel
theorem dX9_init_217 : decode cX9_init 217 = .ok (.dup, 1) := by decide +kernel
theorem dX9_init_218 : decode cX9_init 218 = .ok (.bipush 33, 2) := by decide +kernel
theorem dX9_init_220 : decode cX9_init 220 = .ok (.bipush 8, 2) := by decide +kernel
theorem dX9_init_222 : decode cX9_init 222 = .ok (.iastore, 1) := by decide +kernel
theorem dX9_init_223 : decode cX9_init 223 = .ok (.dup, 1) := by decide +kernel
theorem dX9_init_224 : decode cX9_init 224 = .ok (.bipush 34, 2) := by decide +kernel
theorem dX9_init_226 : decode cX9_init 226 = .ok (.bipush 8, 2) := by decide +kernel
theorem dX9_init_228 : decode cX9_init 228 = .ok (.iastore, 1) := by decide +kernel
theorem dX9_init_229 : decode cX9_init 229 = .ok (.dup, 1) := by decide +kernel
theorem dX9_init_230 : decode cX9_init 230 = .ok (.bipush 35, 2) := by decide +kernel
theorem dX9_init_232 : decode cX9_init 232 = .ok (.bipush 8, 2) := by decide +kernel
theorem dX9_init_234 : decode cX9_init 234 = .ok (.iastore, 1) := by decide +kernel
theorem dX9_init_235 : decode cX9_init 235 = .ok (.dup, 1) := by decide +kernel
theorem dX9_init_236 : decode cX9_init 236 = .ok (.bipush 36, 2) := by decide +kernel
theorem dX9_init_238 : decode cX9_init 238 = .ok (.bipush 8, 2) := by decide +kernel
theorem dX9_init_240 : decode cX9_init 240 = .ok (.iastore, 1) := by decide +kernel
theorem dX9_init_241 : decode cX9_init 241 = .ok (.dup, 1) := by decide +kernel
theorem dX9_init_242 : decode cX9_init 242 = .ok (.bipush 37, 2) := by decide +kernel
theorem dX9_init_244 : decode cX9_init 244 = .ok (.bipush 8, 2) := by decide +kernel
theorem dX9_init_246 : decode cX9_init 246 = .ok (.iastore, 1) := by decide +kernel
theorem dX9_init_247 : decode cX9_init 247 = .ok (.dup, 1) := by decide +kernel
theorem dX9_init_248 : decode cX9_init 248 = .ok (.bipush 38, 2) := by decide +kernel
theorem dX9_init_250 : decode cX9_init 250 = .ok (.bipush 8, 2) := by decide +kernel
theorem dX9_init_252 : decode cX9_init 252 = .ok (.iastore, 1) := by decide +kernel
theorem dX9_init_253 : decode cX9_init 253 = .ok (.dup, 1) := by decide +kernel
theorem dX9_init_254 : decode cX9_init 254 = .ok (.bipush 39, 2) := by decide +kernel
theorem dX9_init_256 : decode cX9_init 256 = .ok (.bipush 8, 2) := by decide +kernel
theorem dX9_init_258 : decode cX9_init 258 = .ok (.iastore, 1) := by decide +kernel
theorem dX9_init_259 : decode cX9_init 259 = .ok (.dup, 1) := by decide +kernel
theorem dX9_init_260 : decode cX9_init 260 = .ok (.bipush 40, 2) := by decide +kernel
theorem dX9_init_262 : decode cX9_init 262 = .ok (.bipush 8, 2) := by decide +kernel
theorem dX9_init_264 : decode cX9_init 264 = .ok (.iastore, 1) := by decide +kernel
theorem dX9_init_265 : decode cX9_init 265 = .ok (.dup, 1) := by decide +kernel
theorem dX9_init_266 : decode cX9_init 266 = .ok (.bipush 41, 2) := by decide +kernel
theorem dX9_init_268 : decode cX9_init 268 = .ok (.bipush 8, 2) := by decide +kernel
theorem dX9_init_270 : decode cX9_init 270 = .ok (.iastore, 1) := by decide +kernel
theorem dX9_init_271 : decode cX9_init 271 = .ok (.dup, 1) := by decide +kernel
theorem dX9_init_272 : decode cX9_init 272 = .ok (.bipush 42, 2) := by decide +kernel
theorem dX9_init_274 : decode cX9_init 274 = .ok (.bipush 8, 2) := by decide +kernel
theorem dX9_init_276 : decode cX9_init 276 = .ok (.iastore, 1) := by decide +kernel
theorem dX9_init_277 : decode cX9_init 277 = .ok (.dup, 1) := by decide +kernel
theorem dX9_init_278 : decode cX9_init 278 = .ok (.bipush 43, 2) := by decide +kernel
theorem dX9_init_280 : decode cX9_init 280 = .ok (.bipush 8, 2) := by decide +kernel
theorem dX9_init_282 : decode cX9_init 282 = .ok (.iastore, 1) := by decide +kernel
theorem dX9_init_283 : decode cX9_init 283 = .ok (.dup, 1) := by decide +kernel
theorem dX9_init_284 : decode cX9_init 284 = .ok (.bipush 44, 2) := by decide +kernel
theorem dX9_init_286 : decode cX9_init 286 = .ok (.bipush 8, 2) := by decide +kernel
theorem dX9_init_288 : decode cX9_init 288 = .ok (.iastore, 1) := by decide +kernel
theorem dX9_init_289 : decode cX9_init 289 = .ok (.dup, 1) := by decide +kernel
theorem dX9_init_290 : decode cX9_init 290 = .ok (.bipush 45, 2) := by decide +kernel
theorem dX9_init_292 : decode cX9_init 292 = .ok (.bipush 8, 2) := by decide +kernel
theorem dX9_init_294 : decode cX9_init 294 = .ok (.iastore, 1) := by decide +kernel
theorem dX9_init_295 : decode cX9_init 295 = .ok (.dup, 1) := by decide +kernel
theorem dX9_init_296 : decode cX9_init 296 = .ok (.bipush 46, 2) := by decide +kernel
theorem dX9_init_298 : decode cX9_init 298 = .ok (.bipush 8, 2) := by decide +kernel
theorem dX9_init_300 : decode cX9_init 300 = .ok (.iastore, 1) := by decide +kernel
theorem dX9_init_301 : decode cX9_init 301 = .ok (.dup, 1) := by decide +kernel
theorem dX9_init_302 : decode cX9_init 302 = .ok (.bipush 47, 2) := by decide +kernel
theorem dX9_init_304 : decode cX9_init 304 = .ok (.bipush 8, 2) := by decide +kernel
theorem dX9_init_306 : decode cX9_init 306 = .ok (.iastore, 1) := by decide +kernel
theorem dX9_init_307 : decode cX9_init 307 = .ok (.dup, 1) := by decide +kernel
theorem dX9_init_308 : decode cX9_init 308 = .ok (.bipush 48, 2) := by decide +kernel
theorem dX9_init_310 : decode cX9_init 310 = .ok (.bipush 8, 2) := by decide +kernel
theorem dX9_init_312 : decode cX9_init 312 = .ok (.iastore, 1) := by decide +kernel
theorem dX9_init_313 : decode cX9_init 313 = .ok (.dup, 1) := by decide +kernel
theorem dX9_init_314 : decode cX9_init 314 = .ok (.bipush 49, 2) := by decide +kernel
theorem dX9_init_316 : decode cX9_init 316 = .ok (.bipush 8, 2) := by decide +kernel
theorem dX9_init_318 : decode cX9_init 318 = .ok (.iastore, 1) := by decide +kernel
theorem dX9_init_319 : decode cX9_init 319 = .ok (.dup, 1) := by decide +kernel
theorem dX9_init_320 : decode cX9_init 320 = .ok (.bipush 50, 2) := by decide +kernel
theorem dX9_init_322 : decode cX9_init 322 = .ok (.bipush 8, 2) := by decide +kernel
theorem dX9_init_324 : decode cX9_init 324 = .ok (.iastore, 1) := by decide +kernel
theorem dX9_init_325 : decode cX9_init 325 = .ok (.dup, 1) := by decide +kernel
theorem dX9_init_326 : decode cX9_init 326 = .ok (.bipush 51, 2) := by decide +kernel
theorem dX9_init_328 : decode cX9_init 328 = .ok (.bipush 8, 2) := by decide +kernel
theorem dX9_init_330 : decode cX9_init 330 = .ok (.iastore, 1) := by decide +kernel
theorem dX9_init_331 : decode cX9_init 331 = .ok (.dup, 1) := by decide +kernel
theorem dX9_init_332 : decode cX9_init 332 = .ok (.bipush 52, 2) := by decide +kernel
theorem dX9_init_334 : decode cX9_init 334 = .ok (.bipush 8, 2) := by decide +kernel
theorem dX9_init_336 : decode cX9_init 336 = .ok (.iastore, 1) := by decide +kernel
theorem dX9_init_337 : decode cX9_init 337 = .ok (.dup, 1) := by decide +kernel
theorem dX9_init_338 : decode cX9_init 338 = .ok (.bipush 53, 2) := by decide +kernel
theorem dX9_init_340 : decode cX9_init 340 = .ok (.bipush 8, 2) := by decide +kernel
theorem dX9_init_342 : decode cX9_init 342 = .ok (.iastore, 1) := by decide +kernel
theorem dX9_init_343 : decode cX9_init 343 = .ok (.dup, 1) := by decide +kernel
theorem dX9_init_344 : decode cX9_init 344 = .ok (.bipush 54, 2) := by decide +kernel
theorem dX9_init_346 : decode cX9_init 346 = .ok (.bipush 8, 2) := by decide +kernel
theorem dX9_init_348 : decode cX9_init 348 = .ok (.iastore, 1) := by decide +kernel
theorem dX9_init_349 : decode cX9_init 349 = .ok (.dup, 1) := by decide +kernel
theorem dX9_init_350 : decode cX9_init 350 = .ok (.bipush 55, 2) := by decide +kernel
theorem dX9_init_352 : decode cX9_init 352 = .ok (.bipush 8, 2) := by decide +kernel
theorem dX9_init_354 : decode cX9_init 354 = .ok (.iastore, 1) := by decide +kernel
theorem dX9_init_355 : decode cX9_init 355 = .ok (.dup, 1) := by decide +kernel
theorem dX9_init_356 : decode cX9_init 356 = .ok (.bipush 56, 2) := by decide +kernel
theorem dX9_init_358 : decode cX9_init 358 = .ok (.bipush 8, 2) := by decide +kernel
theorem dX9_init_360 : decode cX9_init 360 = .ok (.iastore, 1) := by decide +kernel
theorem dX9_init_361 : decode cX9_init 361 = .ok (.dup, 1) := by decide +kernel
theorem dX9_init_362 : decode cX9_init 362 = .ok (.bipush 57, 2) := by decide +kernel
theorem dX9_init_364 : decode cX9_init 364 = .ok (.bipush 8, 2) := by decide +kernel
theorem dX9_init_366 : decode cX9_init 366 = .ok (.iastore, 1) := by decide +kernel
theorem dX9_init_367 : decode cX9_init 367 = .ok (.dup, 1) := by decide +kernel
theorem dX9_init_368 : decode cX9_init 368 = .ok (.bipush 58, 2) := by decide +kernel
theorem dX9_init_370 : decode cX9_init 370 = .ok (.bipush 8, 2) := by decide +kernel
theorem dX9_init_372 : decode cX9_init 372 = .ok (.iastore, 1) := by decide +kernel
theorem dX9_init_373 : decode cX9_init 373 = .ok (.dup, 1) := by decide +kernel
theorem dX9_init_374 : decode cX9_init 374 = .ok (.bipush 59, 2) := by decide +kernel
theorem dX9_init_376 : decode cX9_init 376 = .ok (.bipush 8, 2) := by decide +kernel
theorem dX9_init_378 : decode cX9_init 378 = .ok (.iastore, 1) := by decide +kernel
theorem dX9_init_379 : decode cX9_init 379 = .ok (.putfield 16, 3) := by decide +kernel
theorem dX9_init_382 : decode cX9_init 382 = .ok (.aload_n 0, 1) := by decide +kernel
theorem dX9_init_383 : decode cX9_init 383 = .ok (.bipush 60, 2) := by decide +kernel
theorem dX9_init_385 : decode cX9_init 385 = .ok (.newarray .int, 2) := by decide +kernel
theorem dX9_init_387 : decode cX9_init 387 = .ok (.dup, 1) := by decide +kernel
theorem dX9_init_388 : decode cX9_init 388 = .ok (.iconst 0, 1) := by decide +kernel
theorem dX9_init_389 : decode cX9_init 389 = .ok (.iconst 3, 1) := by decide +kernel
theorem dX9_init_390 : decode cX9_init 390 = .ok (.iastore, 1) := by decide +kernel
theorem dX9_init_391 : decode cX9_init 391 = .ok (.dup, 1) := by decide +kernel
theorem dX9_init_392 : decode cX9_init 392 = .ok (.iconst 1, 1) := by decide +kernel
theorem dX9_init_393 : decode cX9_init 393 = .ok (.iconst 3, 1) := by decide +kernel
theorem dX9_init_394 : decode cX9_init 394 = .ok (.iastore, 1) := by decide +kernel
theorem dX9_init_395 : decode cX9_init 395 = .ok (.dup, 1) := by decide +kernel
theorem dX9_init_396 : decode cX9_init 396 = .ok (.iconst 2, 1) := by decide +kernel
theorem dX9_init_397 : decode cX9_init 397 = .ok (.iconst 3, 1) := by decide +kernel
theorem dX9_init_398 : decode cX9_init 398 = .ok (.iastore, 1) := by decide +kernel
theorem dX9_init_399 : decode cX9_init 399 = .ok (.dup, 1) := by decide +kernel
theorem dX9_init_400 : decode cX9_init 400 = .ok (.iconst 3, 1) := by decide +kernel
theorem dX9_init_401 : decode cX9_init 401 = .ok (.iconst 3, 1) := by decide +kernel
theorem dX9_init_402 : decode cX9_init 402 = .ok (.iastore, 1) := by decide +kernel
theorem dX9_init_403 : decode cX9_init 403 = .ok (.dup, 1) := by decide +kernel
theorem dX9_init_404 : decode cX9_init 404 = .ok (.iconst 4, 1) := by decide +kernel
theorem dX9_init_405 : decode cX9_init 405 = .ok (.iconst 3, 1) := by decide +kernel
theorem dX9_init_406 : decode cX9_init 406 = .ok (.iastore, 1) := by decide +kernel
theorem dX9_init_407 : decode cX9_init 407 = .ok (.dup, 1) := by decide +kernel
theorem dX9_init_408 : decode cX9_init 408 = .ok (.iconst 5, 1) := by decide +kernel
theorem dX9_init_409 : decode cX9_init 409 = .ok (.iconst 3, 1) := by decide +kernel
theorem dX9_init_410 : decode cX9_init 410 = .ok (.iastore, 1) := by decide +kernel
theorem dX9_init_411 : decode cX9_init 411 = .ok (.dup, 1) := by decide +kernel
theorem dX9_init_412 : decode cX9_init 412 = .ok (.bipush 6, 2) := by decide +kernel
theorem dX9_init_414 : decode cX9_init 414 = .ok (.iconst 3, 1) := by decide +kernel
theorem dX9_init_415 : decode cX9_init 415 = .ok (.iastore, 1) := by decide +kernel
theorem dX9_init_416 : decode cX9_init 416 = .ok (.dup, 1) := by decide +kernel
theorem dX9_init_417 : decode cX9_init 417 = .ok (.bipush 7, 2) := by decide +kernel
theorem dX9_init_419 : decode cX9_init 419 = .ok (.iconst 3, 1) := by decide +kernel
theorem dX9_init_420 : decode cX9_init 420 = .ok (.iastore, 1) := by decide +kernel
theorem dX9_init_421 : decode cX9_init 421 = .ok (.dup, 1) := by decide +kernel
theorem dX9_init_422 : decode cX9_init 422 = .ok (.bipush 8, 2) := by decide +kernel
theorem dX9_init_424 : decode cX9_init 424 = .ok (.iconst 3, 1) := by decide +kernel
theorem dX9_init_425 : decode cX9_init 425 = .ok (.iastore, 1) := by decide +kernel
theorem dX9_init_426 : decode cX9_init 426 = .ok (.dup, 1) := by decide +kernel
theorem dX9_init_427 : decode cX9_init 427 = .ok (.bipush 9, 2) := by decide +kernel
theorem dX9_init_429 : decode cX9_init 429 = .ok (.iconst 3, 1) := by decide +kernel
theorem dX9_init_430 : decode cX9_init 430 = .ok (.iastore, 1) := by decide +kernel
theorem dX9_init_431 : decode cX9_init 431 = .ok (.dup, 1) := by decide +kernel
theorem dX9_init_432 : decode cX9_init 432 = .ok (.bipush 10, 2) := by decide +kernel
theorem dX9_init_434 : decode cX9_init 434 = .ok (.iconst 3, 1) := by decide +kernel
theorem dX9_init_435 : decode cX9_init 435 = .ok (.iastore, 1) := by decide +kernel
theorem dX9_init_436 : decode cX9_init 436 = .ok (.dup, 1) := by decide +kernel
theorem dX9_init_437 : decode cX9_init 437 = .ok (.bipush 11, 2) := by decide +kernel
theorem dX9_init_439 : decode cX9_init 439 = .ok (.iconst 3, 1) := by decide +kernel
theorem dX9_init_440 : decode cX9_init 440 = .ok (.iastore, 1) := by decide +kernel
theorem dX9_init_441 : decode cX9_init 441 = .ok (.dup, 1) := by decide +kernel
theorem dX9_init_442 : decode cX9_init 442 = .ok (.bipush 12, 2) := by decide +kernel
theorem dX9_init_444 : decode cX9_init 444 = .ok (.iconst 3, 1) := by decide +kernel
theorem dX9_init_445 : decode cX9_init 445 = .ok (.iastore, 1) := by decide +kernel
theorem dX9_init_446 : decode cX9_init 446 = .ok (.dup, 1) := by decide +kernel
theorem dX9_init_447 : decode cX9_init 447 = .ok (.bipush 13, 2) := by decide +kernel
theorem dX9_init_449 : decode cX9_init 449 = .ok (.iconst 3, 1) := by decide +kernel
theorem dX9_init_450 : decode cX9_init 450 = .ok (.iastore, 1) := by decide +kernel
theorem dX9_init_451 : decode cX9_init 451 = .ok (.dup, 1) := by decide +kernel
theorem dX9_init_452 : decode cX9_init 452 = .ok (.bipush 14, 2) := by decide +kernel
theorem dX9_init_454 : decode cX9_init 454 = .ok (.iconst 3, 1) := by decide +kernel
theorem dX9_init_455 : decode cX9_init 455 = .ok (.iastore, 1) := by decide +kernel
theorem dX9_init_456 : decode cX9_init 456 = .ok (.dup, 1) := by decide +kernel
theorem dX9_init_457 : decode cX9_init 457 = .ok (.bipush 15, 2) := by decide +kernel
theorem dX9_init_459 : decode cX9_init 459 = .ok (.iconst 3, 1) := by decide +kernel
theorem dX9_init_460 : decode cX9_init 460 = .ok (.iastore, 1) := by decide +kernel
theorem dX9_init_461 : decode cX9_init 461 = .ok (.dup, 1) := by decide +kernel
theorem dX9_init_462 : decode cX9_init 462 = .ok (.bipush 16, 2) := by decide +kernel
theorem dX9_init_464 : decode cX9_init 464 = .ok (.iconst 3, 1) := by decide +kernel
theorem dX9_init_465 : decode cX9_init 465 = .ok (.iastore, 1) := by decide +kernel
theorem dX9_init_466 : decode cX9_init 466 = .ok (.dup, 1) := by decide +kernel
theorem dX9_init_467 : decode cX9_init 467 = .ok (.bipush 17, 2) := by decide +kernel
theorem dX9_init_469 : decode cX9_init 469 = .ok (.iconst 3, 1) := by decide +kernel
theorem dX9_init_470 : decode cX9_init 470 = .ok (.iastore, 1) := by decide +kernel
theorem dX9_init_471 : decode cX9_init 471 = .ok (.dup, 1) := by decide +kernel
theorem dX9_init_472 : decode cX9_init 472 = .ok (.bipush 18, 2) := by decide +kernel
theorem dX9_init_474 : decode cX9_init 474 = .ok (.iconst 3, 1) := by decide +kernel
theorem dX9_init_475 : decode cX9_init 475 = .ok (.iastore, 1) := by decide +kernel
theorem dX9_init_476 : decode cX9_init 476 = .ok (.dup, 1) := by decide +kernel
theorem dX9_init_477 : decode cX9_init 477 = .ok (.bipush 19, 2) := by decide +kernel
theorem dX9_init_479 : decode cX9_init 479 = .ok (.iconst 3, 1) := by decide +kernel
theorem dX9_init_480 : decode cX9_init 480 = .ok (.iastore, 1) := by decide +kernel
theorem dX9_init_481 : decode cX9_init 481 = .ok (.dup, 1) := by decide +kernel
theorem dX9_init_482 : decode cX9_init 482 = .ok (.bipush 20, 2) := by decide +kernel
theorem dX9_init_484 : decode cX9_init 484 = .ok (.iconst 3, 1) := by decide +kernel
theorem dX9_init_485 : decode cX9_init 485 = .ok (.iastore, 1) := by decide +kernel
theorem dX9_init_486 : decode cX9_init 486 = .ok (.dup, 1) := by decide +kernel
theorem dX9_init_487 : decode cX9_init 487 = .ok (.bipush 21, 2) := by decide +kernel
theorem dX9_init_489 : decode cX9_init 489 = .ok (.iconst 3, 1) := by decide +kernel
theorem dX9_init_490 : decode cX9_init 490 = .ok (.iastore, 1) := by decide +kernel
theorem dX9_init_491 : decode cX9_init 491 = .ok (.dup, 1) := by decide +kernel
theorem dX9_init_492 : decode cX9_init 492 = .ok (.bipush 22, 2) := by decide +kernel
theorem dX9_init_494 : decode cX9_init 494 = .ok (.iconst 3, 1) := by decide +kernel
theorem dX9_init_495 : decode cX9_init 495 = .ok (.iastore, 1) := by decide +kernel
theorem dX9_init_496 : decode cX9_init 496 = .ok (.dup, 1) := by decide +kernel
theorem dX9_init_497 : decode cX9_init 497 = .ok (.bipush 23, 2) := by decide +kernel
theorem dX9_init_499 : decode cX9_init 499 = .ok (.iconst 3, 1) := by decide +kernel
theorem dX9_init_500 : decode cX9_init 500 = .ok (.iastore, 1) := by decide +kernel
theorem dX9_init_501 : decode cX9_init 501 = .ok (.dup, 1) := by decide +kernel
theorem dX9_init_502 : decode cX9_init 502 = .ok (.bipush 24, 2) := by decide +kernel
theorem dX9_init_504 : decode cX9_init 504 = .ok (.iconst 3, 1) := by decide +kernel
theorem dX9_init_505 : decode cX9_init 505 = .ok (.iastore, 1) := by decide +kernel
theorem dX9_init_506 : decode cX9_init 506 = .ok (.dup, 1) := by decide +kernel
theorem dX9_init_507 : decode cX9_init 507 = .ok (.bipush 25, 2) := by decide +kernel
theorem dX9_init_509 : decode cX9_init 509 = .ok (.iconst 3, 1) := by decide +kernel
theorem dX9_init_510 : decode cX9_init 510 = .ok (.iastore, 1) := by decide +kernel
theorem dX9_init_511 : decode cX9_init 511 = .ok (.dup, 1) := by decide +kernel
theorem dX9_init_512 : decode cX9_init 512 = .ok (.bipush 26, 2) := by decide +kernel
theorem dX9_init_514 : decode cX9_init 514 = .ok (.iconst 3, 1) := by decide +kernel
theorem dX9_init_515 : decode cX9_init 515 = .ok (.iastore, 1) := by decide +kernel
theorem dX9_init_516 : decode cX9_init 516 = .ok (.dup, 1) := by decide +kernel
theorem dX9_init_517 : decode cX9_init 517 = .ok (.bipush 27, 2) := by decide +kernel
theorem dX9_init_519 : decode cX9_init 519 = .ok (.iconst 3, 1) := by decide +kernel
theorem dX9_init_520 : decode cX9_init 520 = .ok (.iastore, 1) := by decide +kernel
theorem dX9_init_521 : decode cX9_init 521 = .ok (.dup, 1) := by decide +kernel
theorem dX9_init_522 : decode cX9_init 522 = .ok (.bipush 28, 2) := by decide +kernel
theorem dX9_init_524 : decode cX9_init 524 = .ok (.iconst 3, 1) := by decide +kernel
theorem dX9_init_525 : decode cX9_init 525 = .ok (.iastore, 1) := by decide +kernel
theorem dX9_init_526 : decode cX9_init 526 = .ok (.dup, 1) := by decide +kernel
theorem dX9_init_527 : decode cX9_init 527 = .ok (.bipush 29, 2) := by decide +kernel
theorem dX9_init_529 : decode cX9_init 529 = .ok (.iconst 3, 1) := by decide +kernel
theorem dX9_init_530 : decode cX9_init 530 = .ok (.iastore, 1) := by decide +kernel
theorem dX9_init_531 : decode cX9_init 531 = .ok (.dup, 1) := by decide +kernel
theorem dX9_init_532 : decode cX9_init 532 = .ok (.bipush 30, 2) := by decide +kernel
theorem dX9_init_534 : decode cX9_init 534 = .ok (.iconst 3, 1) := by decide +kernel
theorem dX9_init_535 : decode cX9_init 535 = .ok (.iastore, 1) := by decide +kernel
theorem dX9_init_536 : decode cX9_init 536 = .ok (.dup, 1) := by decide +kernel
theorem dX9_init_537 : decode cX9_init 537 = .ok (.bipush 31, 2) := by decide +kernel
theorem dX9_init_539 : decode cX9_init 539 = .ok (.iconst 3, 1) := by decide +kernel
theorem dX9_init_540 : decode cX9_init 540 = .ok (.iastore, 1) := by decide +kernel
theorem dX9_init_541 : decode cX9_init 541 = .ok (.dup, 1) := by decide +kernel
theorem dX9_init_542 : decode cX9_init 542 = .ok (.bipush 32, 2) := by decide +kernel
theorem dX9_init_544 : decode cX9_init 544 = .ok (.iconst 3, 1) := by decide +kernel
theorem dX9_init_545 : decode cX9_init 545 = .ok (.iastore, 1) := by decide +kernel
theorem dX9_init_546 : decode cX9_init 546 = .ok (.dup, 1) := by decide +kernel
theorem dX9_init_547 : decode cX9_init 547 = .ok (.bipush 33, 2) := by decide +kernel
theorem dX9_init_549 : decode cX9_init 549 = .ok (.iconst 3, 1) := by decide +kernel
theorem dX9_init_550 : decode cX9_init 550 = .ok (.iastore, 1) := by decide +kernel
theorem dX9_init_551 : decode cX9_init 551 = .ok (.dup, 1) := by decide +kernel
theorem dX9_init_552 : decode cX9_init 552 = .ok (.bipush 34, 2) := by decide +kernel
theorem dX9_init_554 : decode cX9_init 554 = .ok (.iconst 3, 1) := by decide +kernel
theorem dX9_init_555 : decode cX9_init 555 = .ok (.iastore, 1) := by decide +kernel
theorem dX9_init_556 : decode cX9_init 556 = .ok (.dup, 1) := by decide +kernel
theorem dX9_init_557 : decode cX9_init 557 = .ok (.bipush 35, 2) := by decide +kernel
theorem dX9_init_559 : decode cX9_init 559 = .ok (.iconst 3, 1) := by decide +kernel
theorem dX9_init_560 : decode cX9_init 560 = .ok (.iastore, 1) := by decide +kernel
theorem dX9_init_561 : decode cX9_init 561 = .ok (.dup, 1) := by decide +kernel
theorem dX9_init_562 : decode cX9_init 562 = .ok (.bipush 36, 2) := by decide +kernel
theorem dX9_init_564 : decode cX9_init 564 = .ok (.iconst 3, 1) := by decide +kernel
theorem dX9_init_565 : decode cX9_init 565 = .ok (.iastore, 1) := by decide +kernel
theorem dX9_init_566 : decode cX9_init 566 = .ok (.dup, 1) := by decide +kernel
theorem dX9_init_567 : decode cX9_init 567 = .ok (.bipush 37, 2) := by decide +kernel
theorem dX9_init_569 : decode cX9_init 569 = .ok (.iconst 3, 1) := by decide +kernel
theorem dX9_init_570 : decode cX9_init 570 = .ok (.iastore, 1) := by decide +kernel
theorem dX9_init_571 : decode cX9_init 571 = .ok (.dup, 1) := by decide +kernel
theorem dX9_init_572 : decode cX9_init 572 = .ok (.bipush 38, 2) := by decide +kernel
theorem dX9_init_574 : decode cX9_init 574 = .ok (.iconst 3, 1) := by decide +kernel
theorem dX9_init_575 : decode cX9_init 575 = .ok (.iastore, 1) := by decide +kernel
theorem dX9_init_576 : decode cX9_init 576 = .ok (.dup, 1) := by decide +kernel
theorem dX9_init_577 : decode cX9_init 577 = .ok (.bipush 39, 2) := by decide +kernel
theorem dX9_init_579 : decode cX9_init 579 = .ok (.iconst 3, 1) := by decide +kernel
theorem dX9_init_580 : decode cX9_init 580 = .ok (.iastore, 1) := by decide +kernel
theorem dX9_init_581 : decode cX9_init 581 = .ok (.dup, 1) := by decide +kernel
theorem dX9_init_582 : decode cX9_init 582 = .ok (.bipush 40, 2) := by decide +kernel
theorem dX9_init_584 : decode cX9_init 584 = .ok (.iconst 3, 1) := by decide +kernel
theorem dX9_init_585 : decode cX9_init 585 = .ok (.iastore, 1) := by decide +kernel
theorem dX9_init_586 : decode cX9_init 586 = .ok (.dup, 1) := by decide +kernel
theorem dX9_init_587 : decode cX9_init 587 = .ok (.bipush 41, 2) := by decide +kernel
theorem dX9_init_589 : decode cX9_init 589 = .ok (.iconst 3, 1) := by decide +kernel
theorem dX9_init_590 : decode cX9_init 590 = .ok (.iastore, 1) := by decide +kernel
theorem dX9_init_591 : decode cX9_init 591 = .ok (.dup, 1) := by decide +kernel
theorem dX9_init_592 : decode cX9_init 592 = .ok (.bipush 42, 2) := by decide +kernel
theorem dX9_init_594 : decode cX9_init 594 = .ok (.iconst 3, 1) := by decide +kernel
theorem dX9_init_595 : decode cX9_init 595 = .ok (.iastore, 1) := by decide +kernel
theorem dX9_init_596 : decode cX9_init 596 = .ok (.dup, 1) := by decide +kernel
theorem dX9_init_597 : decode cX9_init 597 = .ok (.bipush 43, 2) := by decide +kernel
theorem dX9_init_599 : decode cX9_init 599 = .ok (.iconst 3, 1) := by decide +kernel
theorem dX9_init_600 : decode cX9_init 600 = .ok (.iastore, 1) := by decide +kernel
theorem dX9_init_601 : decode cX9_init 601 = .ok (.dup, 1) := by decide +kernel
theorem dX9_init_602 : decode cX9_init 602 = .ok (.bipush 44, 2) := by decide +kernel
theorem dX9_init_604 : decode cX9_init 604 = .ok (.iconst 3, 1) := by decide +kernel
theorem dX9_init_605 : decode cX9_init 605 = .ok (.iastore, 1) := by decide +kernel
theorem dX9_init_606 : decode cX9_init 606 = .ok (.dup, 1) := by decide +kernel
theorem dX9_init_607 : decode cX9_init 607 = .ok (.bipush 45, 2) := by decide +kernel
theorem dX9_init_609 : decode cX9_init 609 = .ok (.iconst 3, 1) := by decide +kernel
theorem dX9_init_610 : decode cX9_init 610 = .ok (.iastore, 1) := by decide +kernel
theorem dX9_init_611 : decode cX9_init 611 = .ok (.dup, 1) := by decide +kernel
theorem dX9_init_612 : decode cX9_init 612 = .ok (.bipush 46, 2) := by decide +kernel
theorem dX9_init_614 : decode cX9_init 614 = .ok (.iconst 3, 1) := by decide +kernel
theorem dX9_init_615 : decode cX9_init 615 = .ok (.iastore, 1) := by decide +kernel
theorem dX9_init_616 : decode cX9_init 616 = .ok (.dup, 1) := by decide +kernel
theorem dX9_init_617 : decode cX9_init 617 = .ok (.bipush 47, 2) := by decide +kernel
theorem dX9_init_619 : decode cX9_init 619 = .ok (.iconst 3, 1) := by decide +kernel
theorem dX9_init_620 : decode cX9_init 620 = .ok (.iastore, 1) := by decide +kernel
theorem dX9_init_621 : decode cX9_init 621 = .ok (.dup, 1) := by decide +kernel
theorem dX9_init_622 : decode cX9_init 622 = .ok (.bipush 48, 2) := by decide +kernel
theorem dX9_init_624 : decode cX9_init 624 = .ok (.iconst 3, 1) := by decide +kernel
theorem dX9_init_625 : decode cX9_init 625 = .ok (.iastore, 1) := by decide +kernel
theorem dX9_init_626 : decode cX9_init 626 = .ok (.dup, 1) := by decide +kernel
theorem dX9_init_627 : decode cX9_init 627 = .ok (.bipush 49, 2) := by decide +kernel
theorem dX9_init_629 : decode cX9_init 629 = .ok (.iconst 3, 1) := by decide +kernel
theorem dX9_init_630 : decode cX9_init 630 = .ok (.iastore, 1) := by decide +kernel
theorem dX9_init_631 : decode cX9_init 631 = .ok (.dup, 1) := by decide +kernel
theorem dX9_init_632 : decode cX9_init 632 = .ok (.bipush 50, 2) := by decide +kernel
theorem dX9_init_634 : decode cX9_init 634 = .ok (.iconst 3, 1) := by decide +kernel
theorem dX9_init_635 : decode cX9_init 635 = .ok (.iastore, 1) := by decide +kernel
theorem dX9_init_636 : decode cX9_init 636 = .ok (.dup, 1) := by decide +kernel
theorem dX9_init_637 : decode cX9_init 637 = .ok (.bipush 51, 2) := by decide +kernel
theorem dX9_init_639 : decode cX9_init 639 = .ok (.iconst 3, 1) := by decide +kernel
theorem dX9_init_640 : decode cX9_init 640 = .ok (.iastore, 1) := by decide +kernel
theorem dX9_init_641 : decode cX9_init 641 = .ok (.dup, 1) := by decide +kernel
theorem dX9_init_642 : decode cX9_init 642 = .ok (.bipush 52, 2) := by decide +kernel
theorem dX9_init_644 : decode cX9_init 644 = .ok (.iconst 3, 1) := by decide +kernel
theorem dX9_init_645 : decode cX9_init 645 = .ok (.iastore, 1) := by decide +kernel
theorem dX9_init_646 : decode cX9_init 646 = .ok (.dup, 1) := by decide +kernel
theorem dX9_init_647 : decode cX9_init 647 = .ok (.bipush 53, 2) := by decide +kernel
theorem dX9_init_649 : decode cX9_init 649 = .ok (.iconst 3, 1) := by decide +kernel
theorem dX9_init_650 : decode cX9_init 650 = .ok (.iastore, 1) := by decide +kernel
theorem dX9_init_651 : decode cX9_init 651 = .ok (.dup, 1) := by decide +kernel
theorem dX9_init_652 : decode cX9_init 652 = .ok (.bipush 54, 2) := by decide +kernel
theorem dX9_init_654 : decode cX9_init 654 = .ok (.iconst 3, 1) := by decide +kernel
theorem dX9_init_655 : decode cX9_init 655 = .ok (.iastore, 1) := by decide +kernel
theorem dX9_init_656 : decode cX9_init 656 = .ok (.dup, 1) := by decide +kernel
theorem dX9_init_657 : decode cX9_init 657 = .ok (.bipush 55, 2) := by decide +kernel
theorem dX9_init_659 : decode cX9_init 659 = .ok (.iconst 3, 1) := by decide +kernel
theorem dX9_init_660 : decode cX9_init 660 = .ok (.iastore, 1) := by decide +kernel
theorem dX9_init_661 : decode cX9_init 661 = .ok (.dup, 1) := by decide +kernel
theorem dX9_init_662 : decode cX9_init 662 = .ok (.bipush 56, 2) := by decide +kernel
theorem dX9_init_664 : decode cX9_init 664 = .ok (.iconst 3, 1) := by decide +kernel
theorem dX9_init_665 : decode cX9_init 665 = .ok (.iastore, 1) := by decide +kernel
theorem dX9_init_666 : decode cX9_init 666 = .ok (.dup, 1) := by decide +kernel
theorem dX9_init_667 : decode cX9_init 667 = .ok (.bipush 57, 2) := by decide +kernel
theorem dX9_init_669 : decode cX9_init 669 = .ok (.iconst 3, 1) := by decide +kernel
theorem dX9_init_670 : decode cX9_init 670 = .ok (.iastore, 1) := by decide +kernel
theorem dX9_init_671 : decode cX9_init 671 = .ok (.dup, 1) := by decide +kernel
theorem dX9_init_672 : decode cX9_init 672 = .ok (.bipush 58, 2) := by decide +kernel
theorem dX9_init_674 : decode cX9_init 674 = .ok (.iconst 3, 1) := by decide +kernel
theorem dX9_init_675 : decode cX9_init 675 = .ok (.iastore, 1) := by decide +kernel
theorem dX9_init_676 : decode cX9_init 676 = .ok (.dup, 1) := by decide +kernel
theorem dX9_init_677 : decode cX9_init 677 = .ok (.bipush 59, 2) := by decide +kernel
theorem dX9_init_679 : decode cX9_init 679 = .ok (.iconst 3, 1) := by decide +kernel
theorem dX9_init_680 : decode cX9_init 680 = .ok (.iastore, 1) := by decide +kernel
theorem dX9_init_681 : decode cX9_init 681 = .ok (.putfield 19, 3) := by decide +kernel
theorem dX9_init_684 : decode cX9_init 684 = .ok (.aload_n 0, 1) := by decide +kernel
theorem dX9_init_685 : decode cX9_init 685 = .ok (.bipush 6, 2) := by decide +kernel
theorem dX9_init_687 : decode cX9_init 687 = .ok (.putfield 22, 3) := by decide +kernel
theorem dX9_init_690 : decode cX9_init 690 = .ok (.aload_n 0, 1) := by decide +kernel
theorem dX9_init_691 : decode cX9_init 691 = .ok (.iconst 2, 1) := by decide +kernel
theorem dX9_init_692 : decode cX9_init 692 = .ok (.putfield 26, 3) := by decide +kernel
theorem dX9_init_695 : decode cX9_init 695 = .ok (.aload_n 0, 1) := by decide +kernel
theorem dX9_init_696 : decode cX9_init 696 = .ok (.bipush 50, 2) := by decide +kernel
theorem dX9_init_698 : decode cX9_init 698 = .ok (.putfield 29, 3) := by decide +kernel
theorem dX9_init_701 : decode cX9_init 701 = .ok (.aload_n 0, 1) := by decide +kernel
theorem dX9_init_702 : decode cX9_init 702 = .ok (.bipush 60, 2) := by decide +kernel
theorem dX9_init_704 : decode cX9_init 704 = .ok (.newarray .int, 2) := by decide +kernel
theorem dX9_init_706 : decode cX9_init 706 = .ok (.putfield 32, 3) := by decide +kernel
theorem dX9_init_709 : decode cX9_init 709 = .ok (.aload_n 0, 1) := by decide +kernel
theorem dX9_init_710 : decode cX9_init 710 = .ok (.bipush 60, 2) := by decide +kernel
theorem dX9_init_712 : decode cX9_init 712 = .ok (.newarray .int, 2) := by decide +kernel
theorem dX9_init_714 : decode cX9_init 714 = .ok (.putfield 35, 3) := by decide +kernel
theorem dX9_init_717 : decode cX9_init 717 = .ok (.aload_n 0, 1) := by decide +kernel
theorem dX9_init_718 : decode cX9_init 718 = .ok (.bipush 40, 2) := by decide +kernel
theorem dX9_init_720 : decode cX9_init 720 = .ok (.newarray .int, 2) := by decide +kernel
theorem dX9_init_722 : decode cX9_init 722 = .ok (.putfield 38, 3) := by decide +kernel
theorem dX9_init_725 : decode cX9_init 725 = .ok (.aload_n 0, 1) := by decide +kernel
theorem dX9_init_726 : decode cX9_init 726 = .ok (.bipush 40, 2) := by decide +kernel
theorem dX9_init_728 : decode cX9_init 728 = .ok (.newarray .int, 2) := by decide +kernel
theorem dX9_init_730 : decode cX9_init 730 = .ok (.putfield 41, 3) := by decide +kernel
theorem dX9_init_733 : decode cX9_init 733 = .ok (.aload_n 0, 1) := by decide +kernel
theorem dX9_init_734 : decode cX9_init 734 = .ok (.bipush 40, 2) := by decide +kernel
theorem dX9_init_736 : decode cX9_init 736 = .ok (.newarray .int, 2) := by decide +kernel
theorem dX9_init_738 : decode cX9_init 738 = .ok (.putfield 44, 3) := by decide +kernel
theorem dX9_init_741 : decode cX9_init 741 = .ok (.aload_n 0, 1) := by decide +kernel
theorem dX9_init_742 : decode cX9_init 742 = .ok (.bipush 40, 2) := by decide +kernel
theorem dX9_init_744 : decode cX9_init 744 = .ok (.newarray .int, 2) := by decide +kernel
theorem dX9_init_746 : decode cX9_init 746 = .ok (.putfield 47, 3) := by decide +kernel
theorem dX9_init_749 : decode cX9_init 749 = .ok (.aload_n 0, 1) := by decide +kernel
theorem dX9_init_750 : decode cX9_init 750 = .ok (.bipush 120, 2) := by decide +kernel
theorem dX9_init_752 : decode cX9_init 752 = .ok (.newarray .byte, 2) := by decide +kernel
theorem dX9_init_754 : decode cX9_init 754 = .ok (.putfield 50, 3) := by decide +kernel
theorem dX9_init_757 : decode cX9_init 757 = .ok (.aload_n 0, 1) := by decide +kernel
theorem dX9_init_758 : decode cX9_init 758 = .ok (.sipush 260, 3) := by decide +kernel
theorem dX9_init_761 : decode cX9_init 761 = .ok (.newarray .byte, 2) := by decide +kernel
theorem dX9_init_763 : decode cX9_init 763 = .ok (.putfield 54, 3) := by decide +kernel
theorem dX9_init_766 : decode cX9_init 766 = .ok (.aload_n 0, 1) := by decide +kernel
theorem dX9_init_767 : decode cX9_init 767 = .ok (.sipush 260, 3) := by decide +kernel
theorem dX9_init_770 : decode cX9_init 770 = .ok (.newarray .int, 2) := by decide +kernel
theorem dX9_init_772 : decode cX9_init 772 = .ok (.putfield 57, 3) := by decide +kernel
theorem dX9_init_775 : decode cX9_init 775 = .ok (.aload_n 0, 1) := by decide +kernel
theorem dX9_init_776 : decode cX9_init 776 = .ok (.iconst 2, 1) := by decide +kernel
theorem dX9_init_777 : decode cX9_init 777 = .ok (.newarray .int, 2) := by decide +kernel
theorem dX9_init_779 : decode cX9_init 779 = .ok (.putfield 60, 3) := by decide +kernel
theorem dX9_init_782 : decode cX9_init 782 = .ok (.aload_n 0, 1) := by decide +kernel
theorem dX9_init_783 : decode cX9_init 783 = .ok (.bipush 122, 2) := by decide +kernel
theorem dX9_init_785 : decode cX9_init 785 = .ok (.newarray .short, 2) := by decide +kernel
theorem dX9_init_787 : decode cX9_init 787 = .ok (.putfield 63, 3) := by decide +kernel
theorem dX9_init_790 : decode cX9_init 790 = .ok (.aload_n 0, 1) := by decide +kernel
theorem dX9_init_791 : decode cX9_init 791 = .ok (.bipush 122, 2) := by decide +kernel
theorem dX9_init_793 : decode cX9_init 793 = .ok (.newarray .short, 2) := by decide +kernel
theorem dX9_init_795 : decode cX9_init 795 = .ok (.putfield 67, 3) := by decide +kernel
theorem dX9_init_798 : decode cX9_init 798 = .ok (.aload_n 0, 1) := by decide +kernel
theorem dX9_init_799 : decode cX9_init 799 = .ok (.bipush 7, 2) := by decide +kernel
theorem dX9_init_801 : decode cX9_init 801 = .ok (.newarray .int, 2) := by decide +kernel
theorem dX9_init_803 : decode cX9_init 803 = .ok (.putfield 70, 3) := by decide +kernel
theorem dX9_init_806 : decode cX9_init 806 = .ok (.aload_n 0, 1) := by decide +kernel
theorem dX9_init_807 : decode cX9_init 807 = .ok (.sipush 130, 3) := by decide +kernel
theorem dX9_init_810 : decode cX9_init 810 = .ok (.newarray .int, 2) := by decide +kernel
theorem dX9_init_812 : decode cX9_init 812 = .ok (.putfield 73, 3) := by decide +kernel
theorem dX9_init_815 : decode cX9_init 815 = .ok (.aload_n 0, 1) := by decide +kernel
theorem dX9_init_816 : decode cX9_init 816 = .ok (.bipush 36, 2) := by decide +kernel
theorem dX9_init_818 : decode cX9_init 818 = .ok (.newarray .int, 2) := by decide +kernel
theorem dX9_init_820 : decode cX9_init 820 = .ok (.putfield 76, 3) := by decide +kernel
theorem dX9_init_823 : decode cX9_init 823 = .ok (.aload_n 0, 1) := by decide +kernel
theorem dX9_init_824 : decode cX9_init 824 = .ok (.sipush 360, 3) := by decide +kernel
theorem dX9_init_827 : decode cX9_init 827 = .ok (.newarray .int, 2) := by decide +kernel
theorem dX9_init_829 : decode cX9_init 829 = .ok (.putfield 79, 3) := by decide +kernel
theorem dX9_init_832 : decode cX9_init 832 = .ok (.aload_n 0, 1) := by decide +kernel
theorem dX9_init_833 : decode cX9_init 833 = .ok (.sipush 360, 3) := by decide +kernel
theorem dX9_init_836 : decode cX9_init 836 = .ok (.newarray .int, 2) := by decide +kernel
theorem dX9_init_838 : decode cX9_init 838 = .ok (.putfield 82, 3) := by decide +kernel
theorem dX9_init_841 : decode cX9_init 841 = .ok (.aload_n 0, 1) := by decide +kernel
theorem dX9_init_842 : decode cX9_init 842 = .ok (.iconst 5, 1) := by decide +kernel
theorem dX9_init_843 : decode cX9_init 843 = .ok (.newarray .int, 2) := by decide +kernel
theorem dX9_init_845 : decode cX9_init 845 = .ok (.putfield 85, 3) := by decide +kernel
theorem dX9_init_848 : decode cX9_init 848 = .ok (.aload_n 0, 1) := by decide +kernel
theorem dX9_init_849 : decode cX9_init 849 = .ok (.bipush 30, 2) := by decide +kernel
theorem dX9_init_851 : decode cX9_init 851 = .ok (.newarray .int, 2) := by decide +kernel
theorem dX9_init_853 : decode cX9_init 853 = .ok (.putfield 88, 3) := by decide +kernel
theorem dX9_init_856 : decode cX9_init 856 = .ok (.aload_n 0, 1) := by decide +kernel
theorem dX9_init_857 : decode cX9_init 857 = .ok (.iconst 5, 1) := by decide +kernel
theorem dX9_init_858 : decode cX9_init 858 = .ok (.newarray .int, 2) := by decide +kernel
theorem dX9_init_860 : decode cX9_init 860 = .ok (.putfield 91, 3) := by decide +kernel
theorem dX9_init_863 : decode cX9_init 863 = .ok (.aload_n 0, 1) := by decide +kernel
theorem dX9_init_864 : decode cX9_init 864 = .ok (.bipush 50, 2) := by decide +kernel
theorem dX9_init_866 : decode cX9_init 866 = .ok (.newarray .int, 2) := by decide +kernel
theorem dX9_init_868 : decode cX9_init 868 = .ok (.putfield 94, 3) := by decide +kernel
theorem dX9_init_871 : decode cX9_init 871 = .ok (.aload_n 0, 1) := by decide +kernel
theorem dX9_init_872 : decode cX9_init 872 = .ok (.bipush 24, 2) := by decide +kernel
theorem dX9_init_874 : decode cX9_init 874 = .ok (.newarray .int, 2) := by decide +kernel
theorem dX9_init_876 : decode cX9_init 876 = .ok (.putfield 97, 3) := by decide +kernel
theorem dX9_init_879 : decode cX9_init 879 = .ok (.aload_n 0, 1) := by decide +kernel
theorem dX9_init_880 : decode cX9_init 880 = .ok (.bipush 6, 2) := by decide +kernel
theorem dX9_init_882 : decode cX9_init 882 = .ok (.newarray .int, 2) := by decide +kernel
theorem dX9_init_884 : decode cX9_init 884 = .ok (.dup, 1) := by decide +kernel
theorem dX9_init_885 : decode cX9_init 885 = .ok (.iconst 0, 1) := by decide +kernel
theorem dX9_init_886 : decode cX9_init 886 = .ok (.iconst (-1), 1) := by decide +kernel
theorem dX9_init_887 : decode cX9_init 887 = .ok (.iastore, 1) := by decide +kernel
theorem dX9_init_888 : decode cX9_init 888 = .ok (.dup, 1) := by decide +kernel
theorem dX9_init_889 : decode cX9_init 889 = .ok (.iconst 1, 1) := by decide +kernel
theorem dX9_init_890 : decode cX9_init 890 = .ok (.iconst (-1), 1) := by decide +kernel
theorem dX9_init_891 : decode cX9_init 891 = .ok (.iastore, 1) := by decide +kernel
theorem dX9_init_892 : decode cX9_init 892 = .ok (.dup, 1) := by decide +kernel
theorem dX9_init_893 : decode cX9_init 893 = .ok (.iconst 2, 1) := by decide +kernel
theorem dX9_init_894 : decode cX9_init 894 = .ok (.iconst (-1), 1) := by decide +kernel
theorem dX9_init_895 : decode cX9_init 895 = .ok (.iastore, 1) := by decide +kernel
theorem dX9_init_896 : decode cX9_init 896 = .ok (.dup, 1) := by decide +kernel
theorem dX9_init_897 : decode cX9_init 897 = .ok (.iconst 3, 1) := by decide +kernel
theorem dX9_init_898 : decode cX9_init 898 = .ok (.iconst (-1), 1) := by decide +kernel
theorem dX9_init_899 : decode cX9_init 899 = .ok (.iastore, 1) := by decide +kernel
theorem dX9_init_900 : decode cX9_init 900 = .ok (.dup, 1) := by decide +kernel
theorem dX9_init_901 : decode cX9_init 901 = .ok (.iconst 4, 1) := by decide +kernel
theorem dX9_init_902 : decode cX9_init 902 = .ok (.iconst (-1), 1) := by decide +kernel
theorem dX9_init_903 : decode cX9_init 903 = .ok (.iastore, 1) := by decide +kernel
theorem dX9_init_904 : decode cX9_init 904 = .ok (.dup, 1) := by decide +kernel
theorem dX9_init_905 : decode cX9_init 905 = .ok (.iconst 5, 1) := by decide +kernel
theorem dX9_init_906 : decode cX9_init 906 = .ok (.iconst (-1), 1) := by decide +kernel
theorem dX9_init_907 : decode cX9_init 907 = .ok (.iastore, 1) := by decide +kernel
theorem dX9_init_908 : decode cX9_init 908 = .ok (.putfield 100, 3) := by decide +kernel
theorem dX9_init_911 : decode cX9_init 911 = .ok (.aload_n 0, 1) := by decide +kernel
theorem dX9_init_912 : decode cX9_init 912 = .ok (.bipush 6, 2) := by decide +kernel
theorem dX9_init_914 : decode cX9_init 914 = .ok (.newarray .int, 2) := by decide +kernel
theorem dX9_init_916 : decode cX9_init 916 = .ok (.putfield 103, 3) := by decide +kernel
theorem dX9_init_919 : decode cX9_init 919 = .ok (.aload_n 0, 1) := by decide +kernel
theorem dX9_init_920 : decode cX9_init 920 = .ok (.sipush 360, 3) := by decide +kernel
theorem dX9_init_923 : decode cX9_init 923 = .ok (.newarray .long, 2) := by decide +kernel
theorem dX9_init_925 : decode cX9_init 925 = .ok (.putfield 106, 3) := by decide +kernel
theorem dX9_init_928 : decode cX9_init 928 = .ok (.aload_n 0, 1) := by decide +kernel
theorem dX9_init_929 : decode cX9_init 929 = .ok (.bipush 60, 2) := by decide +kernel
theorem dX9_init_931 : decode cX9_init 931 = .ok (.newarray .long, 2) := by decide +kernel
theorem dX9_init_933 : decode cX9_init 933 = .ok (.putfield 110, 3) := by decide +kernel
theorem dX9_init_936 : decode cX9_init 936 = .ok (.return_, 1) := by decide +kernel
theorem dX9_in_0 : decode cX9_in 0 = .ok (.iload_n 0, 1) := by decide +kernel
theorem dX9_in_1 : decode cX9_in 1 = .ok (.iload_n 1, 1) := by decide +kernel
theorem dX9_in_2 : decode cX9_in 2 = .ok (.if_icmp .lt 12, 3) := by decide +kernel
theorem dX9_in_5 : decode cX9_in 5 = .ok (.iload_n 0, 1) := by decide +kernel
theorem dX9_in_6 : decode cX9_in 6 = .ok (.iload_n 2, 1) := by decide +kernel
theorem dX9_in_7 : decode cX9_in 7 = .ok (.if_icmp .gt 7, 3) := by decide +kernel
theorem dX9_in_10 : decode cX9_in 10 = .ok (.iconst 1, 1) := by decide +kernel
theorem dX9_in_11 : decode cX9_in 11 = .ok (.goto 4, 3) := by decide +kernel
theorem dX9_in_14 : decode cX9_in 14 = .ok (.iconst 0, 1) := by decide +kernel
theorem dX9_in_15 : decode cX9_in 15 = .ok (.ireturn, 1) := by decide +kernel
theorem dX9_isCell_0 : decode cX9_isCell 0 = .ok (.iload_n 0, 1) := by decide +kernel
theorem dX9_isCell_1 : decode cX9_isCell 1 = .ok (.iconst 0, 1) := by decide +kernel
theorem dX9_isCell_2 : decode cX9_isCell 2 = .ok (.bipush 35, 2) := by decide +kernel
theorem dX9_isCell_4 : decode cX9_isCell 4 = .ok (.invokestatic 116, 3) := by decide +kernel
theorem dX9_isCell_7 : decode cX9_isCell 7 = .ok (.ireturn, 1) := by decide +kernel
theorem dX9_isDay_0 : decode cX9_isDay 0 = .ok (.iload_n 0, 1) := by decide +kernel
theorem dX9_isDay_1 : decode cX9_isDay 1 = .ok (.iconst 0, 1) := by decide +kernel
theorem dX9_isDay_2 : decode cX9_isDay 2 = .ok (.bipush 59, 2) := by decide +kernel
theorem dX9_isDay_4 : decode cX9_isDay 4 = .ok (.invokestatic 116, 3) := by decide +kernel
theorem dX9_isDay_7 : decode cX9_isDay 7 = .ok (.ireturn, 1) := by decide +kernel
theorem dX9_beside_0 : decode cX9_beside 0 = .ok (.iload_n 1, 1) := by decide +kernel
theorem dX9_beside_1 : decode cX9_beside 1 = .ok (.iconst 1, 1) := by decide +kernel
theorem dX9_beside_2 : decode cX9_beside 2 = .ok (.if_icmp .ne 18, 3) := by decide +kernel
theorem dX9_beside_5 : decode cX9_beside 5 = .ok (.iload_n 0, 1) := by decide +kernel
theorem dX9_beside_6 : decode cX9_beside 6 = .ok (.bipush 6, 2) := by decide +kernel
theorem dX9_beside_8 : decode cX9_beside 8 = .ok (.if_icmp .ge 7, 3) := by decide +kernel
theorem dX9_beside_11 : decode cX9_beside 11 = .ok (.iconst (-1), 1) := by decide +kernel
theorem dX9_beside_12 : decode cX9_beside 12 = .ok (.goto 7, 3) := by decide +kernel
theorem dX9_beside_15 : decode cX9_beside 15 = .ok (.iload_n 0, 1) := by decide +kernel
theorem dX9_beside_16 : decode cX9_beside 16 = .ok (.bipush 6, 2) := by decide +kernel
theorem dX9_beside_18 : decode cX9_beside 18 = .ok (.isub, 1) := by decide +kernel
theorem dX9_beside_19 : decode cX9_beside 19 = .ok (.ireturn, 1) := by decide +kernel
theorem dX9_beside_20 : decode cX9_beside 20 = .ok (.iload_n 1, 1) := by decide +kernel
theorem dX9_beside_21 : decode cX9_beside 21 = .ok (.iconst 2, 1) := by decide +kernel
theorem dX9_beside_22 : decode cX9_beside 22 = .ok (.if_icmp .ne 19, 3) := by decide +kernel
theorem dX9_beside_25 : decode cX9_beside 25 = .ok (.iload_n 0, 1) := by decide +kernel
theorem dX9_beside_26 : decode cX9_beside 26 = .ok (.bipush 6, 2) := by decide +kernel
theorem dX9_beside_28 : decode cX9_beside 28 = .ok (.irem, 1) := by decide +kernel
theorem dX9_beside_29 : decode cX9_beside 29 = .ok (.iconst 5, 1) := by decide +kernel
theorem dX9_beside_30 : decode cX9_beside 30 = .ok (.if_icmp .ne 7, 3) := by decide +kernel
theorem dX9_beside_33 : decode cX9_beside 33 = .ok (.iconst (-1), 1) := by decide +kernel
theorem dX9_beside_34 : decode cX9_beside 34 = .ok (.goto 6, 3) := by decide +kernel
theorem dX9_beside_37 : decode cX9_beside 37 = .ok (.iload_n 0, 1) := by decide +kernel
theorem dX9_beside_38 : decode cX9_beside 38 = .ok (.iconst 1, 1) := by decide +kernel
theorem dX9_beside_39 : decode cX9_beside 39 = .ok (.iadd, 1) := by decide +kernel
theorem dX9_beside_40 : decode cX9_beside 40 = .ok (.ireturn, 1) := by decide +kernel
theorem dX9_beside_41 : decode cX9_beside 41 = .ok (.iload_n 1, 1) := by decide +kernel
theorem dX9_beside_42 : decode cX9_beside 42 = .ok (.iconst 3, 1) := by decide +kernel
theorem dX9_beside_43 : decode cX9_beside 43 = .ok (.if_icmp .ne 21, 3) := by decide +kernel
theorem dX9_beside_46 : decode cX9_beside 46 = .ok (.iload_n 0, 1) := by decide +kernel
theorem dX9_beside_47 : decode cX9_beside 47 = .ok (.bipush 6, 2) := by decide +kernel
theorem dX9_beside_49 : decode cX9_beside 49 = .ok (.iadd, 1) := by decide +kernel
theorem dX9_beside_50 : decode cX9_beside 50 = .ok (.bipush 36, 2) := by decide +kernel
theorem dX9_beside_52 : decode cX9_beside 52 = .ok (.if_icmp .ge 10, 3) := by decide +kernel
theorem dX9_beside_55 : decode cX9_beside 55 = .ok (.iload_n 0, 1) := by decide +kernel
theorem dX9_beside_56 : decode cX9_beside 56 = .ok (.bipush 6, 2) := by decide +kernel
theorem dX9_beside_58 : decode cX9_beside 58 = .ok (.iadd, 1) := by decide +kernel
theorem dX9_beside_59 : decode cX9_beside 59 = .ok (.goto 4, 3) := by decide +kernel
theorem dX9_beside_62 : decode cX9_beside 62 = .ok (.iconst (-1), 1) := by decide +kernel
theorem dX9_beside_63 : decode cX9_beside 63 = .ok (.ireturn, 1) := by decide +kernel
theorem dX9_beside_64 : decode cX9_beside 64 = .ok (.iload_n 0, 1) := by decide +kernel
theorem dX9_beside_65 : decode cX9_beside 65 = .ok (.bipush 6, 2) := by decide +kernel
theorem dX9_beside_67 : decode cX9_beside 67 = .ok (.irem, 1) := by decide +kernel
theorem dX9_beside_68 : decode cX9_beside 68 = .ok (.ifCond .ne 7, 3) := by decide +kernel
theorem dX9_beside_71 : decode cX9_beside 71 = .ok (.iconst (-1), 1) := by decide +kernel
theorem dX9_beside_72 : decode cX9_beside 72 = .ok (.goto 6, 3) := by decide +kernel
theorem dX9_beside_75 : decode cX9_beside 75 = .ok (.iload_n 0, 1) := by decide +kernel
theorem dX9_beside_76 : decode cX9_beside 76 = .ok (.iconst 1, 1) := by decide +kernel
theorem dX9_beside_77 : decode cX9_beside 77 = .ok (.isub, 1) := by decide +kernel
theorem dX9_beside_78 : decode cX9_beside 78 = .ok (.ireturn, 1) := by decide +kernel
theorem dX9_isHollow_0 : decode cX9_isHollow 0 = .ok (.iconst 1, 1) := by decide +kernel
theorem dX9_isHollow_1 : decode cX9_isHollow 1 = .ok (.istore_n 2, 1) := by decide +kernel
theorem dX9_isHollow_2 : decode cX9_isHollow 2 = .ok (.iload_n 2, 1) := by decide +kernel
theorem dX9_isHollow_3 : decode cX9_isHollow 3 = .ok (.iconst 4, 1) := by decide +kernel
theorem dX9_isHollow_4 : decode cX9_isHollow 4 = .ok (.if_icmp .gt 38, 3) := by decide +kernel
theorem dX9_isHollow_7 : decode cX9_isHollow 7 = .ok (.iload_n 1, 1) := by decide +kernel
theorem dX9_isHollow_8 : decode cX9_isHollow 8 = .ok (.iload_n 2, 1) := by decide +kernel
theorem dX9_isHollow_9 : decode cX9_isHollow 9 = .ok (.invokestatic 120, 3) := by decide +kernel
theorem dX9_isHollow_12 : decode cX9_isHollow 12 = .ok (.ifCond .lt 24, 3) := by decide +kernel
theorem dX9_isHollow_15 : decode cX9_isHollow 15 = .ok (.aload_n 0, 1) := by decide +kernel
theorem dX9_isHollow_16 : decode cX9_isHollow 16 = .ok (.getfield 7, 3) := by decide +kernel
theorem dX9_isHollow_19 : decode cX9_isHollow 19 = .ok (.iload_n 1, 1) := by decide +kernel
theorem dX9_isHollow_20 : decode cX9_isHollow 20 = .ok (.iaload, 1) := by decide +kernel
theorem dX9_isHollow_21 : decode cX9_isHollow 21 = .ok (.aload_n 0, 1) := by decide +kernel
theorem dX9_isHollow_22 : decode cX9_isHollow 22 = .ok (.getfield 7, 3) := by decide +kernel
theorem dX9_isHollow_25 : decode cX9_isHollow 25 = .ok (.iload_n 1, 1) := by decide +kernel
theorem dX9_isHollow_26 : decode cX9_isHollow 26 = .ok (.iload_n 2, 1) := by decide +kernel
theorem dX9_isHollow_27 : decode cX9_isHollow 27 = .ok (.invokestatic 120, 3) := by decide +kernel
theorem dX9_isHollow_30 : decode cX9_isHollow 30 = .ok (.iaload, 1) := by decide +kernel
theorem dX9_isHollow_31 : decode cX9_isHollow 31 = .ok (.if_icmp .lt 5, 3) := by decide +kernel
theorem dX9_isHollow_34 : decode cX9_isHollow 34 = .ok (.iconst 0, 1) := by decide +kernel
theorem dX9_isHollow_35 : decode cX9_isHollow 35 = .ok (.ireturn, 1) := by decide +kernel
theorem dX9_isHollow_36 : decode cX9_isHollow 36 = .ok (.iinc 2 1, 3) := by decide +kernel
theorem dX9_isHollow_39 : decode cX9_isHollow 39 = .ok (.goto (-37), 3) := by decide +kernel
theorem dX9_isHollow_42 : decode cX9_isHollow 42 = .ok (.iconst 1, 1) := by decide +kernel
theorem dX9_isHollow_43 : decode cX9_isHollow 43 = .ok (.ireturn, 1) := by decide +kernel
theorem dX9_costOf_0 : decode cX9_costOf 0 = .ok (.aload_n 0, 1) := by decide +kernel
theorem dX9_costOf_1 : decode cX9_costOf 1 = .ok (.getfield 7, 3) := by decide +kernel
theorem dX9_costOf_4 : decode cX9_costOf 4 = .ok (.iload_n 1, 1) := by decide +kernel
theorem dX9_costOf_5 : decode cX9_costOf 5 = .ok (.iload_n 2, 1) := by decide +kernel
theorem dX9_costOf_6 : decode cX9_costOf 6 = .ok (.invokestatic 120, 3) := by decide +kernel
theorem dX9_costOf_9 : decode cX9_costOf 9 = .ok (.iaload, 1) := by decide +kernel
theorem dX9_costOf_10 : decode cX9_costOf 10 = .ok (.aload_n 0, 1) := by decide +kernel
theorem dX9_costOf_11 : decode cX9_costOf 11 = .ok (.getfield 7, 3) := by decide +kernel
theorem dX9_costOf_14 : decode cX9_costOf 14 = .ok (.iload_n 1, 1) := by decide +kernel
theorem dX9_costOf_15 : decode cX9_costOf 15 = .ok (.iaload, 1) := by decide +kernel
theorem dX9_costOf_16 : decode cX9_costOf 16 = .ok (.isub, 1) := by decide +kernel
theorem dX9_costOf_17 : decode cX9_costOf 17 = .ok (.istore_n 3, 1) := by decide +kernel
theorem dX9_costOf_18 : decode cX9_costOf 18 = .ok (.iconst 3, 1) := by decide +kernel
theorem dX9_costOf_19 : decode cX9_costOf 19 = .ok (.iload_n 3, 1) := by decide +kernel
theorem dX9_costOf_20 : decode cX9_costOf 20 = .ok (.ifCond .le 9, 3) := by decide +kernel
theorem dX9_costOf_23 : decode cX9_costOf 23 = .ok (.iconst 2, 1) := by decide +kernel
theorem dX9_costOf_24 : decode cX9_costOf 24 = .ok (.iload_n 3, 1) := by decide +kernel
theorem dX9_costOf_25 : decode cX9_costOf 25 = .ok (.imul, 1) := by decide +kernel
theorem dX9_costOf_26 : decode cX9_costOf 26 = .ok (.goto 4, 3) := by decide +kernel
theorem dX9_costOf_29 : decode cX9_costOf 29 = .ok (.iconst 0, 1) := by decide +kernel
theorem dX9_costOf_30 : decode cX9_costOf 30 = .ok (.iadd, 1) := by decide +kernel
theorem dX9_costOf_31 : decode cX9_costOf 31 = .ok (.bipush 6, 2) := by decide +kernel
theorem dX9_costOf_33 : decode cX9_costOf 33 = .ok (.iadd, 1) := by decide +kernel
theorem dX9_costOf_34 : decode cX9_costOf 34 = .ok (.aload_n 0, 1) := by decide +kernel
theorem dX9_costOf_35 : decode cX9_costOf 35 = .ok (.getfield 22, 3) := by decide +kernel
theorem dX9_costOf_38 : decode cX9_costOf 38 = .ok (.isub, 1) := by decide +kernel
theorem dX9_costOf_39 : decode cX9_costOf 39 = .ok (.ireturn, 1) := by decide +kernel
theorem dX9_isLooked_0 : decode cX9_isLooked 0 = .ok (.aload_n 0, 1) := by decide +kernel
theorem dX9_isLooked_1 : decode cX9_isLooked 1 = .ok (.getfield 124, 3) := by decide +kernel
theorem dX9_isLooked_4 : decode cX9_isLooked 4 = .ok (.iload_n 1, 1) := by decide +kernel
theorem dX9_isLooked_5 : decode cX9_isLooked 5 = .ok (.lshr, 1) := by decide +kernel
theorem dX9_isLooked_6 : decode cX9_isLooked 6 = .ok (.lconst 1, 1) := by decide +kernel
theorem dX9_isLooked_7 : decode cX9_isLooked 7 = .ok (.land, 1) := by decide +kernel
theorem dX9_isLooked_8 : decode cX9_isLooked 8 = .ok (.lconst 1, 1) := by decide +kernel
theorem dX9_isLooked_9 : decode cX9_isLooked 9 = .ok (.lcmp, 1) := by decide +kernel
theorem dX9_isLooked_10 : decode cX9_isLooked 10 = .ok (.ifCond .ne 7, 3) := by decide +kernel
theorem dX9_isLooked_13 : decode cX9_isLooked 13 = .ok (.iconst 1, 1) := by decide +kernel
theorem dX9_isLooked_14 : decode cX9_isLooked 14 = .ok (.goto 4, 3) := by decide +kernel
theorem dX9_isLooked_17 : decode cX9_isLooked 17 = .ok (.iconst 0, 1) := by decide +kernel
theorem dX9_isLooked_18 : decode cX9_isLooked 18 = .ok (.ireturn, 1) := by decide +kernel
theorem dX9_bitsIn_0 : decode cX9_bitsIn 0 = .ok (.iconst 0, 1) := by decide +kernel
theorem dX9_bitsIn_1 : decode cX9_bitsIn 1 = .ok (.istore_n 2, 1) := by decide +kernel
theorem dX9_bitsIn_2 : decode cX9_bitsIn 2 = .ok (.lload_n 0, 1) := by decide +kernel
theorem dX9_bitsIn_3 : decode cX9_bitsIn 3 = .ok (.lstore_n 3, 1) := by decide +kernel
theorem dX9_bitsIn_4 : decode cX9_bitsIn 4 = .ok (.lload_n 3, 1) := by decide +kernel
theorem dX9_bitsIn_5 : decode cX9_bitsIn 5 = .ok (.lconst 0, 1) := by decide +kernel
theorem dX9_bitsIn_6 : decode cX9_bitsIn 6 = .ok (.lcmp, 1) := by decide +kernel
theorem dX9_bitsIn_7 : decode cX9_bitsIn 7 = .ok (.ifCond .eq 15, 3) := by decide +kernel
theorem dX9_bitsIn_10 : decode cX9_bitsIn 10 = .ok (.iinc 2 1, 3) := by decide +kernel
theorem dX9_bitsIn_13 : decode cX9_bitsIn 13 = .ok (.lload_n 3, 1) := by decide +kernel
theorem dX9_bitsIn_14 : decode cX9_bitsIn 14 = .ok (.lload_n 3, 1) := by decide +kernel
theorem dX9_bitsIn_15 : decode cX9_bitsIn 15 = .ok (.lconst 1, 1) := by decide +kernel
theorem dX9_bitsIn_16 : decode cX9_bitsIn 16 = .ok (.lsub, 1) := by decide +kernel
theorem dX9_bitsIn_17 : decode cX9_bitsIn 17 = .ok (.land, 1) := by decide +kernel
theorem dX9_bitsIn_18 : decode cX9_bitsIn 18 = .ok (.lstore_n 3, 1) := by decide +kernel
theorem dX9_bitsIn_19 : decode cX9_bitsIn 19 = .ok (.goto (-15), 3) := by decide +kernel
theorem dX9_bitsIn_22 : decode cX9_bitsIn 22 = .ok (.iload_n 2, 1) := by decide +kernel
theorem dX9_bitsIn_23 : decode cX9_bitsIn 23 = .ok (.ireturn, 1) := by decide +kernel
theorem dX9_valueAt_0 : decode cX9_valueAt 0 = .ok (.iload_n 1, 1) := by decide +kernel
theorem dX9_valueAt_1 : decode cX9_valueAt 1 = .ok (.tableswitch 68 0 4 #[35, 42, 49, 56, 63], 35) := by decide +kernel
theorem dX9_valueAt_36 : decode cX9_valueAt 36 = .ok (.aload_n 0, 1) := by decide +kernel
theorem dX9_valueAt_37 : decode cX9_valueAt 37 = .ok (.getfield 7, 3) := by decide +kernel
theorem dX9_valueAt_40 : decode cX9_valueAt 40 = .ok (.iload_n 2, 1) := by decide +kernel
theorem dX9_valueAt_41 : decode cX9_valueAt 41 = .ok (.iaload, 1) := by decide +kernel
theorem dX9_valueAt_42 : decode cX9_valueAt 42 = .ok (.ireturn, 1) := by decide +kernel
theorem dX9_valueAt_43 : decode cX9_valueAt 43 = .ok (.aload_n 0, 1) := by decide +kernel
theorem dX9_valueAt_44 : decode cX9_valueAt 44 = .ok (.getfield 13, 3) := by decide +kernel
theorem dX9_valueAt_47 : decode cX9_valueAt 47 = .ok (.iload_n 2, 1) := by decide +kernel
theorem dX9_valueAt_48 : decode cX9_valueAt 48 = .ok (.iaload, 1) := by decide +kernel
