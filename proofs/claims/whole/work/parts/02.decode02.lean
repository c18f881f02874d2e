theorem dX9_valueAt_49 : decode cX9_valueAt 49 = .ok (.ireturn, 1) := by decide +kernel
theorem dX9_valueAt_50 : decode cX9_valueAt 50 = .ok (.aload_n 0, 1) := by decide +kernel
theorem dX9_valueAt_51 : decode cX9_valueAt 51 = .ok (.getfield 16, 3) := by decide +kernel
theorem dX9_valueAt_54 : decode cX9_valueAt 54 = .ok (.iload_n 2, 1) := by decide +kernel
theorem dX9_valueAt_55 : decode cX9_valueAt 55 = .ok (.iaload, 1) := by decide +kernel
theorem dX9_valueAt_56 : decode cX9_valueAt 56 = .ok (.ireturn, 1) := by decide +kernel
theorem dX9_valueAt_57 : decode cX9_valueAt 57 = .ok (.aload_n 0, 1) := by decide +kernel
theorem dX9_valueAt_58 : decode cX9_valueAt 58 = .ok (.getfield 19, 3) := by decide +kernel
theorem dX9_valueAt_61 : decode cX9_valueAt 61 = .ok (.iload_n 2, 1) := by decide +kernel
theorem dX9_valueAt_62 : decode cX9_valueAt 62 = .ok (.iaload, 1) := by decide +kernel
theorem dX9_valueAt_63 : decode cX9_valueAt 63 = .ok (.ireturn, 1) := by decide +kernel
theorem dX9_valueAt_64 : decode cX9_valueAt 64 = .ok (.aload_n 0, 1) := by decide +kernel
theorem dX9_valueAt_65 : decode cX9_valueAt 65 = .ok (.getfield 22, 3) := by decide +kernel
theorem dX9_valueAt_68 : decode cX9_valueAt 68 = .ok (.ireturn, 1) := by decide +kernel
theorem dX9_valueAt_69 : decode cX9_valueAt 69 = .ok (.aload_n 0, 1) := by decide +kernel
theorem dX9_valueAt_70 : decode cX9_valueAt 70 = .ok (.getfield 26, 3) := by decide +kernel
theorem dX9_valueAt_73 : decode cX9_valueAt 73 = .ok (.ireturn, 1) := by decide +kernel
theorem dX9_lays_0 : decode cX9_lays 0 = .ok (.iload_n 1, 1) := by decide +kernel
theorem dX9_lays_1 : decode cX9_lays 1 = .ok (.tableswitch 83 0 4 #[35, 45, 55, 65, 75], 35) := by decide +kernel
theorem dX9_lays_36 : decode cX9_lays 36 = .ok (.aload_n 0, 1) := by decide +kernel
theorem dX9_lays_37 : decode cX9_lays 37 = .ok (.getfield 7, 3) := by decide +kernel
theorem dX9_lays_40 : decode cX9_lays 40 = .ok (.iload_n 2, 1) := by decide +kernel
theorem dX9_lays_41 : decode cX9_lays 41 = .ok (.iload_n 3, 1) := by decide +kernel
theorem dX9_lays_42 : decode cX9_lays 42 = .ok (.iastore, 1) := by decide +kernel
theorem dX9_lays_43 : decode cX9_lays 43 = .ok (.goto 46, 3) := by decide +kernel
theorem dX9_lays_46 : decode cX9_lays 46 = .ok (.aload_n 0, 1) := by decide +kernel
theorem dX9_lays_47 : decode cX9_lays 47 = .ok (.getfield 13, 3) := by decide +kernel
theorem dX9_lays_50 : decode cX9_lays 50 = .ok (.iload_n 2, 1) := by decide +kernel
theorem dX9_lays_51 : decode cX9_lays 51 = .ok (.iload_n 3, 1) := by decide +kernel
theorem dX9_lays_52 : decode cX9_lays 52 = .ok (.iastore, 1) := by decide +kernel
theorem dX9_lays_53 : decode cX9_lays 53 = .ok (.goto 36, 3) := by decide +kernel
theorem dX9_lays_56 : decode cX9_lays 56 = .ok (.aload_n 0, 1) := by decide +kernel
theorem dX9_lays_57 : decode cX9_lays 57 = .ok (.getfield 16, 3) := by decide +kernel
theorem dX9_lays_60 : decode cX9_lays 60 = .ok (.iload_n 2, 1) := by decide +kernel
theorem dX9_lays_61 : decode cX9_lays 61 = .ok (.iload_n 3, 1) := by decide +kernel
theorem dX9_lays_62 : decode cX9_lays 62 = .ok (.iastore, 1) := by decide +kernel
theorem dX9_lays_63 : decode cX9_lays 63 = .ok (.goto 26, 3) := by decide +kernel
theorem dX9_lays_66 : decode cX9_lays 66 = .ok (.aload_n 0, 1) := by decide +kernel
theorem dX9_lays_67 : decode cX9_lays 67 = .ok (.getfield 19, 3) := by decide +kernel
theorem dX9_lays_70 : decode cX9_lays 70 = .ok (.iload_n 2, 1) := by decide +kernel
theorem dX9_lays_71 : decode cX9_lays 71 = .ok (.iload_n 3, 1) := by decide +kernel
theorem dX9_lays_72 : decode cX9_lays 72 = .ok (.iastore, 1) := by decide +kernel
theorem dX9_lays_73 : decode cX9_lays 73 = .ok (.goto 16, 3) := by decide +kernel
theorem dX9_lays_76 : decode cX9_lays 76 = .ok (.aload_n 0, 1) := by decide +kernel
theorem dX9_lays_77 : decode cX9_lays 77 = .ok (.iload_n 3, 1) := by decide +kernel
theorem dX9_lays_78 : decode cX9_lays 78 = .ok (.putfield 22, 3) := by decide +kernel
theorem dX9_lays_81 : decode cX9_lays 81 = .ok (.goto 8, 3) := by decide +kernel
theorem dX9_lays_84 : decode cX9_lays 84 = .ok (.aload_n 0, 1) := by decide +kernel
theorem dX9_lays_85 : decode cX9_lays 85 = .ok (.iload_n 3, 1) := by decide +kernel
theorem dX9_lays_86 : decode cX9_lays 86 = .ok (.putfield 26, 3) := by decide +kernel
theorem dX9_lays_89 : decode cX9_lays 89 = .ok (.return_, 1) := by decide +kernel
theorem dX9_changes_0 : decode cX9_changes 0 = .ok (.aload_n 0, 1) := by decide +kernel
theorem dX9_changes_1 : decode cX9_changes 1 = .ok (.iload_n 1, 1) := by decide +kernel
theorem dX9_changes_2 : decode cX9_changes 2 = .ok (.iload_n 2, 1) := by decide +kernel
theorem dX9_changes_3 : decode cX9_changes 3 = .ok (.invokevirtual 128, 3) := by decide +kernel
theorem dX9_changes_6 : decode cX9_changes 6 = .ok (.istore 4, 2) := by decide +kernel
theorem dX9_changes_8 : decode cX9_changes 8 = .ok (.iload 4, 2) := by decide +kernel
theorem dX9_changes_10 : decode cX9_changes 10 = .ok (.iload_n 3, 1) := by decide +kernel
theorem dX9_changes_11 : decode cX9_changes 11 = .ok (.if_icmp .ne 6, 3) := by decide +kernel
theorem dX9_changes_14 : decode cX9_changes 14 = .ok (.iload 4, 2) := by decide +kernel
theorem dX9_changes_16 : decode cX9_changes 16 = .ok (.ireturn, 1) := by decide +kernel
theorem dX9_changes_17 : decode cX9_changes 17 = .ok (.aload_n 0, 1) := by decide +kernel
theorem dX9_changes_18 : decode cX9_changes 18 = .ok (.iconst 0, 1) := by decide +kernel
theorem dX9_changes_19 : decode cX9_changes 19 = .ok (.putfield 131, 3) := by decide +kernel
theorem dX9_changes_22 : decode cX9_changes 22 = .ok (.aload_n 0, 1) := by decide +kernel
theorem dX9_changes_23 : decode cX9_changes 23 = .ok (.getfield 134, 3) := by decide +kernel
theorem dX9_changes_26 : decode cX9_changes 26 = .ok (.bipush 40, 2) := by decide +kernel
theorem dX9_changes_28 : decode cX9_changes 28 = .ok (.if_icmp .ne 93, 3) := by decide +kernel
theorem dX9_changes_31 : decode cX9_changes 31 = .ok (.iconst 1, 1) := by decide +kernel
theorem dX9_changes_32 : decode cX9_changes 32 = .ok (.istore 5, 2) := by decide +kernel
theorem dX9_changes_34 : decode cX9_changes 34 = .ok (.iload 5, 2) := by decide +kernel
theorem dX9_changes_36 : decode cX9_changes 36 = .ok (.bipush 40, 2) := by decide +kernel
theorem dX9_changes_38 : decode cX9_changes 38 = .ok (.if_icmp .ge 73, 3) := by decide +kernel
theorem dX9_changes_41 : decode cX9_changes 41 = .ok (.aload_n 0, 1) := by decide +kernel
theorem dX9_changes_42 : decode cX9_changes 42 = .ok (.getfield 38, 3) := by decide +kernel
theorem dX9_changes_45 : decode cX9_changes 45 = .ok (.iload 5, 2) := by decide +kernel
theorem dX9_changes_47 : decode cX9_changes 47 = .ok (.iconst 1, 1) := by decide +kernel
theorem dX9_changes_48 : decode cX9_changes 48 = .ok (.isub, 1) := by decide +kernel
theorem dX9_changes_49 : decode cX9_changes 49 = .ok (.aload_n 0, 1) := by decide +kernel
theorem dX9_changes_50 : decode cX9_changes 50 = .ok (.getfield 38, 3) := by decide +kernel
theorem dX9_changes_53 : decode cX9_changes 53 = .ok (.iload 5, 2) := by decide +kernel
theorem dX9_changes_55 : decode cX9_changes 55 = .ok (.iaload, 1) := by decide +kernel
theorem dX9_changes_56 : decode cX9_changes 56 = .ok (.iastore, 1) := by decide +kernel
theorem dX9_changes_57 : decode cX9_changes 57 = .ok (.aload_n 0, 1) := by decide +kernel
theorem dX9_changes_58 : decode cX9_changes 58 = .ok (.getfield 41, 3) := by decide +kernel
theorem dX9_changes_61 : decode cX9_changes 61 = .ok (.iload 5, 2) := by decide +kernel
theorem dX9_changes_63 : decode cX9_changes 63 = .ok (.iconst 1, 1) := by decide +kernel
theorem dX9_changes_64 : decode cX9_changes 64 = .ok (.isub, 1) := by decide +kernel
theorem dX9_changes_65 : decode cX9_changes 65 = .ok (.aload_n 0, 1) := by decide +kernel
theorem dX9_changes_66 : decode cX9_changes 66 = .ok (.getfield 41, 3) := by decide +kernel
theorem dX9_changes_69 : decode cX9_changes 69 = .ok (.iload 5, 2) := by decide +kernel
theorem dX9_changes_71 : decode cX9_changes 71 = .ok (.iaload, 1) := by decide +kernel
theorem dX9_changes_72 : decode cX9_changes 72 = .ok (.iastore, 1) := by decide +kernel
theorem dX9_changes_73 : decode cX9_changes 73 = .ok (.aload_n 0, 1) := by decide +kernel
theorem dX9_changes_74 : decode cX9_changes 74 = .ok (.getfield 44, 3) := by decide +kernel
theorem dX9_changes_77 : decode cX9_changes 77 = .ok (.iload 5, 2) := by decide +kernel
theorem dX9_changes_79 : decode cX9_changes 79 = .ok (.iconst 1, 1) := by decide +kernel
theorem dX9_changes_80 : decode cX9_changes 80 = .ok (.isub, 1) := by decide +kernel
theorem dX9_changes_81 : decode cX9_changes 81 = .ok (.aload_n 0, 1) := by decide +kernel
theorem dX9_changes_82 : decode cX9_changes 82 = .ok (.getfield 44, 3) := by decide +kernel
theorem dX9_changes_85 : decode cX9_changes 85 = .ok (.iload 5, 2) := by decide +kernel
theorem dX9_changes_87 : decode cX9_changes 87 = .ok (.iaload, 1) := by decide +kernel
theorem dX9_changes_88 : decode cX9_changes 88 = .ok (.iastore, 1) := by decide +kernel
theorem dX9_changes_89 : decode cX9_changes 89 = .ok (.aload_n 0, 1) := by decide +kernel
theorem dX9_changes_90 : decode cX9_changes 90 = .ok (.getfield 47, 3) := by decide +kernel
theorem dX9_changes_93 : decode cX9_changes 93 = .ok (.iload 5, 2) := by decide +kernel
theorem dX9_changes_95 : decode cX9_changes 95 = .ok (.iconst 1, 1) := by decide +kernel
theorem dX9_changes_96 : decode cX9_changes 96 = .ok (.isub, 1) := by decide +kernel
theorem dX9_changes_97 : decode cX9_changes 97 = .ok (.aload_n 0, 1) := by decide +kernel
theorem dX9_changes_98 : decode cX9_changes 98 = .ok (.getfield 47, 3) := by decide +kernel
theorem dX9_changes_101 : decode cX9_changes 101 = .ok (.iload 5, 2) := by decide +kernel
theorem dX9_changes_103 : decode cX9_changes 103 = .ok (.iaload, 1) := by decide +kernel
theorem dX9_changes_104 : decode cX9_changes 104 = .ok (.iastore, 1) := by decide +kernel
theorem dX9_changes_105 : decode cX9_changes 105 = .ok (.iinc 5 1, 3) := by decide +kernel
theorem dX9_changes_108 : decode cX9_changes 108 = .ok (.goto (-74), 3) := by decide +kernel
theorem dX9_changes_111 : decode cX9_changes 111 = .ok (.aload_n 0, 1) := by decide +kernel
theorem dX9_changes_112 : decode cX9_changes 112 = .ok (.dup, 1) := by decide +kernel
theorem dX9_changes_113 : decode cX9_changes 113 = .ok (.getfield 134, 3) := by decide +kernel
theorem dX9_changes_116 : decode cX9_changes 116 = .ok (.iconst 1, 1) := by decide +kernel
theorem dX9_changes_117 : decode cX9_changes 117 = .ok (.isub, 1) := by decide +kernel
theorem dX9_changes_118 : decode cX9_changes 118 = .ok (.putfield 134, 3) := by decide +kernel
theorem dX9_changes_121 : decode cX9_changes 121 = .ok (.aload_n 0, 1) := by decide +kernel
theorem dX9_changes_122 : decode cX9_changes 122 = .ok (.getfield 38, 3) := by decide +kernel
theorem dX9_changes_125 : decode cX9_changes 125 = .ok (.aload_n 0, 1) := by decide +kernel
theorem dX9_changes_126 : decode cX9_changes 126 = .ok (.getfield 134, 3) := by decide +kernel
theorem dX9_changes_129 : decode cX9_changes 129 = .ok (.iload_n 1, 1) := by decide +kernel
theorem dX9_changes_130 : decode cX9_changes 130 = .ok (.iastore, 1) := by decide +kernel
theorem dX9_changes_131 : decode cX9_changes 131 = .ok (.aload_n 0, 1) := by decide +kernel
theorem dX9_changes_132 : decode cX9_changes 132 = .ok (.getfield 41, 3) := by decide +kernel
theorem dX9_changes_135 : decode cX9_changes 135 = .ok (.aload_n 0, 1) := by decide +kernel
theorem dX9_changes_136 : decode cX9_changes 136 = .ok (.getfield 134, 3) := by decide +kernel
theorem dX9_changes_139 : decode cX9_changes 139 = .ok (.iload_n 2, 1) := by decide +kernel
theorem dX9_changes_140 : decode cX9_changes 140 = .ok (.iastore, 1) := by decide +kernel
theorem dX9_changes_141 : decode cX9_changes 141 = .ok (.aload_n 0, 1) := by decide +kernel
theorem dX9_changes_142 : decode cX9_changes 142 = .ok (.getfield 44, 3) := by decide +kernel
theorem dX9_changes_145 : decode cX9_changes 145 = .ok (.aload_n 0, 1) := by decide +kernel
theorem dX9_changes_146 : decode cX9_changes 146 = .ok (.getfield 134, 3) := by decide +kernel
theorem dX9_changes_149 : decode cX9_changes 149 = .ok (.iload 4, 2) := by decide +kernel
theorem dX9_changes_151 : decode cX9_changes 151 = .ok (.iastore, 1) := by decide +kernel
theorem dX9_changes_152 : decode cX9_changes 152 = .ok (.aload_n 0, 1) := by decide +kernel
theorem dX9_changes_153 : decode cX9_changes 153 = .ok (.getfield 47, 3) := by decide +kernel
theorem dX9_changes_156 : decode cX9_changes 156 = .ok (.aload_n 0, 1) := by decide +kernel
theorem dX9_changes_157 : decode cX9_changes 157 = .ok (.getfield 134, 3) := by decide +kernel
theorem dX9_changes_160 : decode cX9_changes 160 = .ok (.iload_n 3, 1) := by decide +kernel
theorem dX9_changes_161 : decode cX9_changes 161 = .ok (.iastore, 1) := by decide +kernel
theorem dX9_changes_162 : decode cX9_changes 162 = .ok (.aload_n 0, 1) := by decide +kernel
theorem dX9_changes_163 : decode cX9_changes 163 = .ok (.dup, 1) := by decide +kernel
theorem dX9_changes_164 : decode cX9_changes 164 = .ok (.getfield 134, 3) := by decide +kernel
theorem dX9_changes_167 : decode cX9_changes 167 = .ok (.iconst 1, 1) := by decide +kernel
theorem dX9_changes_168 : decode cX9_changes 168 = .ok (.iadd, 1) := by decide +kernel
theorem dX9_changes_169 : decode cX9_changes 169 = .ok (.putfield 134, 3) := by decide +kernel
theorem dX9_changes_172 : decode cX9_changes 172 = .ok (.aload_n 0, 1) := by decide +kernel
theorem dX9_changes_173 : decode cX9_changes 173 = .ok (.iload_n 1, 1) := by decide +kernel
theorem dX9_changes_174 : decode cX9_changes 174 = .ok (.iload_n 2, 1) := by decide +kernel
theorem dX9_changes_175 : decode cX9_changes 175 = .ok (.iload_n 3, 1) := by decide +kernel
theorem dX9_changes_176 : decode cX9_changes 176 = .ok (.invokevirtual 137, 3) := by decide +kernel
theorem dX9_changes_179 : decode cX9_changes 179 = .ok (.iload 4, 2) := by decide +kernel
theorem dX9_changes_181 : decode cX9_changes 181 = .ok (.ireturn, 1) := by decide +kernel
theorem dX9_undo_0 : decode cX9_undo 0 = .ok (.aload_n 0, 1) := by decide +kernel
theorem dX9_undo_1 : decode cX9_undo 1 = .ok (.getfield 134, 3) := by decide +kernel
theorem dX9_undo_4 : decode cX9_undo 4 = .ok (.ifCond .ne 6, 3) := by decide +kernel
theorem dX9_undo_7 : decode cX9_undo 7 = .ok (.bipush (-5), 2) := by decide +kernel
theorem dX9_undo_9 : decode cX9_undo 9 = .ok (.ireturn, 1) := by decide +kernel
theorem dX9_undo_10 : decode cX9_undo 10 = .ok (.aload_n 0, 1) := by decide +kernel
theorem dX9_undo_11 : decode cX9_undo 11 = .ok (.dup, 1) := by decide +kernel
theorem dX9_undo_12 : decode cX9_undo 12 = .ok (.getfield 134, 3) := by decide +kernel
theorem dX9_undo_15 : decode cX9_undo 15 = .ok (.iconst 1, 1) := by decide +kernel
theorem dX9_undo_16 : decode cX9_undo 16 = .ok (.isub, 1) := by decide +kernel
theorem dX9_undo_17 : decode cX9_undo 17 = .ok (.putfield 134, 3) := by decide +kernel
theorem dX9_undo_20 : decode cX9_undo 20 = .ok (.aload_n 0, 1) := by decide +kernel
theorem dX9_undo_21 : decode cX9_undo 21 = .ok (.dup, 1) := by decide +kernel
theorem dX9_undo_22 : decode cX9_undo 22 = .ok (.getfield 131, 3) := by decide +kernel
theorem dX9_undo_25 : decode cX9_undo 25 = .ok (.iconst 1, 1) := by decide +kernel
theorem dX9_undo_26 : decode cX9_undo 26 = .ok (.iadd, 1) := by decide +kernel
theorem dX9_undo_27 : decode cX9_undo 27 = .ok (.putfield 131, 3) := by decide +kernel
theorem dX9_undo_30 : decode cX9_undo 30 = .ok (.aload_n 0, 1) := by decide +kernel
theorem dX9_undo_31 : decode cX9_undo 31 = .ok (.aload_n 0, 1) := by decide +kernel
theorem dX9_undo_32 : decode cX9_undo 32 = .ok (.getfield 38, 3) := by decide +kernel
theorem dX9_undo_35 : decode cX9_undo 35 = .ok (.aload_n 0, 1) := by decide +kernel
theorem dX9_undo_36 : decode cX9_undo 36 = .ok (.getfield 134, 3) := by decide +kernel
theorem dX9_undo_39 : decode cX9_undo 39 = .ok (.iaload, 1) := by decide +kernel
theorem dX9_undo_40 : decode cX9_undo 40 = .ok (.aload_n 0, 1) := by decide +kernel
theorem dX9_undo_41 : decode cX9_undo 41 = .ok (.getfield 41, 3) := by decide +kernel
theorem dX9_undo_44 : decode cX9_undo 44 = .ok (.aload_n 0, 1) := by decide +kernel
theorem dX9_undo_45 : decode cX9_undo 45 = .ok (.getfield 134, 3) := by decide +kernel
theorem dX9_undo_48 : decode cX9_undo 48 = .ok (.iaload, 1) := by decide +kernel
theorem dX9_undo_49 : decode cX9_undo 49 = .ok (.aload_n 0, 1) := by decide +kernel
theorem dX9_undo_50 : decode cX9_undo 50 = .ok (.getfield 44, 3) := by decide +kernel
theorem dX9_undo_53 : decode cX9_undo 53 = .ok (.aload_n 0, 1) := by decide +kernel
theorem dX9_undo_54 : decode cX9_undo 54 = .ok (.getfield 134, 3) := by decide +kernel
theorem dX9_undo_57 : decode cX9_undo 57 = .ok (.iaload, 1) := by decide +kernel
theorem dX9_undo_58 : decode cX9_undo 58 = .ok (.invokevirtual 137, 3) := by decide +kernel
theorem dX9_undo_61 : decode cX9_undo 61 = .ok (.aload_n 0, 1) := by decide +kernel
theorem dX9_undo_62 : decode cX9_undo 62 = .ok (.getfield 134, 3) := by decide +kernel
theorem dX9_undo_65 : decode cX9_undo 65 = .ok (.ireturn, 1) := by decide +kernel
theorem dX9_redo_0 : decode cX9_redo 0 = .ok (.aload_n 0, 1) := by decide +kernel
theorem dX9_redo_1 : decode cX9_redo 1 = .ok (.getfield 131, 3) := by decide +kernel
theorem dX9_redo_4 : decode cX9_redo 4 = .ok (.ifCond .ne 6, 3) := by decide +kernel
theorem dX9_redo_7 : decode cX9_redo 7 = .ok (.bipush (-5), 2) := by decide +kernel
theorem dX9_redo_9 : decode cX9_redo 9 = .ok (.ireturn, 1) := by decide +kernel
theorem dX9_redo_10 : decode cX9_redo 10 = .ok (.aload_n 0, 1) := by decide +kernel
theorem dX9_redo_11 : decode cX9_redo 11 = .ok (.aload_n 0, 1) := by decide +kernel
theorem dX9_redo_12 : decode cX9_redo 12 = .ok (.getfield 38, 3) := by decide +kernel
theorem dX9_redo_15 : decode cX9_redo 15 = .ok (.aload_n 0, 1) := by decide +kernel
theorem dX9_redo_16 : decode cX9_redo 16 = .ok (.getfield 134, 3) := by decide +kernel
theorem dX9_redo_19 : decode cX9_redo 19 = .ok (.iaload, 1) := by decide +kernel
theorem dX9_redo_20 : decode cX9_redo 20 = .ok (.aload_n 0, 1) := by decide +kernel
theorem dX9_redo_21 : decode cX9_redo 21 = .ok (.getfield 41, 3) := by decide +kernel
theorem dX9_redo_24 : decode cX9_redo 24 = .ok (.aload_n 0, 1) := by decide +kernel
theorem dX9_redo_25 : decode cX9_redo 25 = .ok (.getfield 134, 3) := by decide +kernel
theorem dX9_redo_28 : decode cX9_redo 28 = .ok (.iaload, 1) := by decide +kernel
theorem dX9_redo_29 : decode cX9_redo 29 = .ok (.aload_n 0, 1) := by decide +kernel
theorem dX9_redo_30 : decode cX9_redo 30 = .ok (.getfield 47, 3) := by decide +kernel
theorem dX9_redo_33 : decode cX9_redo 33 = .ok (.aload_n 0, 1) := by decide +kernel
theorem dX9_redo_34 : decode cX9_redo 34 = .ok (.getfield 134, 3) := by decide +kernel
theorem dX9_redo_37 : decode cX9_redo 37 = .ok (.iaload, 1) := by decide +kernel
theorem dX9_redo_38 : decode cX9_redo 38 = .ok (.invokevirtual 137, 3) := by decide +kernel
theorem dX9_redo_41 : decode cX9_redo 41 = .ok (.aload_n 0, 1) := by decide +kernel
theorem dX9_redo_42 : decode cX9_redo 42 = .ok (.dup, 1) := by decide +kernel
theorem dX9_redo_43 : decode cX9_redo 43 = .ok (.getfield 134, 3) := by decide +kernel
theorem dX9_redo_46 : decode cX9_redo 46 = .ok (.iconst 1, 1) := by decide +kernel
theorem dX9_redo_47 : decode cX9_redo 47 = .ok (.iadd, 1) := by decide +kernel
theorem dX9_redo_48 : decode cX9_redo 48 = .ok (.putfield 134, 3) := by decide +kernel
theorem dX9_redo_51 : decode cX9_redo 51 = .ok (.aload_n 0, 1) := by decide +kernel
theorem dX9_redo_52 : decode cX9_redo 52 = .ok (.dup, 1) := by decide +kernel
theorem dX9_redo_53 : decode cX9_redo 53 = .ok (.getfield 131, 3) := by decide +kernel
theorem dX9_redo_56 : decode cX9_redo 56 = .ok (.iconst 1, 1) := by decide +kernel
theorem dX9_redo_57 : decode cX9_redo 57 = .ok (.isub, 1) := by decide +kernel
theorem dX9_redo_58 : decode cX9_redo 58 = .ok (.putfield 131, 3) := by decide +kernel
theorem dX9_redo_61 : decode cX9_redo 61 = .ok (.aload_n 0, 1) := by decide +kernel
theorem dX9_redo_62 : decode cX9_redo 62 = .ok (.getfield 131, 3) := by decide +kernel
theorem dX9_redo_65 : decode cX9_redo 65 = .ok (.ireturn, 1) := by decide +kernel
theorem dX9_isThing_0 : decode cX9_isThing 0 = .ok (.iload_n 2, 1) := by decide +kernel
theorem dX9_isThing_1 : decode cX9_isThing 1 = .ok (.iconst 0, 1) := by decide +kernel
theorem dX9_isThing_2 : decode cX9_isThing 2 = .ok (.iconst 1, 1) := by decide +kernel
theorem dX9_isThing_3 : decode cX9_isThing 3 = .ok (.invokestatic 116, 3) := by decide +kernel
theorem dX9_isThing_6 : decode cX9_isThing 6 = .ok (.ifCond .eq 8, 3) := by decide +kernel
theorem dX9_isThing_9 : decode cX9_isThing 9 = .ok (.iload_n 1, 1) := by decide +kernel
theorem dX9_isThing_10 : decode cX9_isThing 10 = .ok (.invokestatic 141, 3) := by decide +kernel
theorem dX9_isThing_13 : decode cX9_isThing 13 = .ok (.ireturn, 1) := by decide +kernel
theorem dX9_isThing_14 : decode cX9_isThing 14 = .ok (.iload_n 2, 1) := by decide +kernel
theorem dX9_isThing_15 : decode cX9_isThing 15 = .ok (.iconst 2, 1) := by decide +kernel
theorem dX9_isThing_16 : decode cX9_isThing 16 = .ok (.iconst 3, 1) := by decide +kernel
theorem dX9_isThing_17 : decode cX9_isThing 17 = .ok (.invokestatic 116, 3) := by decide +kernel
theorem dX9_isThing_20 : decode cX9_isThing 20 = .ok (.ifCond .eq 8, 3) := by decide +kernel
theorem dX9_isThing_23 : decode cX9_isThing 23 = .ok (.iload_n 1, 1) := by decide +kernel
theorem dX9_isThing_24 : decode cX9_isThing 24 = .ok (.invokestatic 145, 3) := by decide +kernel
theorem dX9_isThing_27 : decode cX9_isThing 27 = .ok (.ireturn, 1) := by decide +kernel
theorem dX9_isThing_28 : decode cX9_isThing 28 = .ok (.iload_n 2, 1) := by decide +kernel
theorem dX9_isThing_29 : decode cX9_isThing 29 = .ok (.iconst 4, 1) := by decide +kernel
theorem dX9_isThing_30 : decode cX9_isThing 30 = .ok (.iconst 5, 1) := by decide +kernel
theorem dX9_isThing_31 : decode cX9_isThing 31 = .ok (.invokestatic 116, 3) := by decide +kernel
theorem dX9_isThing_34 : decode cX9_isThing 34 = .ok (.ifCond .eq 11, 3) := by decide +kernel
theorem dX9_isThing_37 : decode cX9_isThing 37 = .ok (.iload_n 1, 1) := by decide +kernel
theorem dX9_isThing_38 : decode cX9_isThing 38 = .ok (.ifCond .ne 7, 3) := by decide +kernel
theorem dX9_isThing_41 : decode cX9_isThing 41 = .ok (.iconst 1, 1) := by decide +kernel
theorem dX9_isThing_42 : decode cX9_isThing 42 = .ok (.goto 4, 3) := by decide +kernel
theorem dX9_isThing_45 : decode cX9_isThing 45 = .ok (.iconst 0, 1) := by decide +kernel
theorem dX9_isThing_46 : decode cX9_isThing 46 = .ok (.ireturn, 1) := by decide +kernel
theorem dX9_mostOf_0 : decode cX9_mostOf 0 = .ok (.iload_n 0, 1) := by decide +kernel
theorem dX9_mostOf_1 : decode cX9_mostOf 1 = .ok (.tableswitch 46 1 5 #[35, 37, 46, 40, 43], 35) := by decide +kernel
theorem dX9_mostOf_36 : decode cX9_mostOf 36 = .ok (.iconst 1, 1) := by decide +kernel
theorem dX9_mostOf_37 : decode cX9_mostOf 37 = .ok (.ireturn, 1) := by decide +kernel
theorem dX9_mostOf_38 : decode cX9_mostOf 38 = .ok (.bipush 20, 2) := by decide +kernel
theorem dX9_mostOf_40 : decode cX9_mostOf 40 = .ok (.ireturn, 1) := by decide +kernel
theorem dX9_mostOf_41 : decode cX9_mostOf 41 = .ok (.bipush 6, 2) := by decide +kernel
theorem dX9_mostOf_43 : decode cX9_mostOf 43 = .ok (.ireturn, 1) := by decide +kernel
theorem dX9_mostOf_44 : decode cX9_mostOf 44 = .ok (.bipush 12, 2) := by decide +kernel
theorem dX9_mostOf_46 : decode cX9_mostOf 46 = .ok (.ireturn, 1) := by decide +kernel
theorem dX9_mostOf_47 : decode cX9_mostOf 47 = .ok (.bipush 9, 2) := by decide +kernel
theorem dX9_mostOf_49 : decode cX9_mostOf 49 = .ok (.ireturn, 1) := by decide +kernel
theorem dX9_mend_0 : decode cX9_mend 0 = .ok (.aload_n 0, 1) := by decide +kernel
theorem dX9_mend_1 : decode cX9_mend 1 = .ok (.iload_n 1, 1) := by decide +kernel
theorem dX9_mend_2 : decode cX9_mend 2 = .ok (.iload_n 2, 1) := by decide +kernel
theorem dX9_mend_3 : decode cX9_mend 3 = .ok (.invokevirtual 148, 3) := by decide +kernel
theorem dX9_mend_6 : decode cX9_mend 6 = .ok (.ifCond .eq 34, 3) := by decide +kernel
theorem dX9_mend_9 : decode cX9_mend 9 = .ok (.iload_n 3, 1) := by decide +kernel
theorem dX9_mend_10 : decode cX9_mend 10 = .ok (.iload_n 2, 1) := by decide +kernel
theorem dX9_mend_11 : decode cX9_mend 11 = .ok (.iconst 4, 1) := by decide +kernel
theorem dX9_mend_12 : decode cX9_mend 12 = .ok (.if_icmp .ne 7, 3) := by decide +kernel
theorem dX9_mend_15 : decode cX9_mend 15 = .ok (.iconst 1, 1) := by decide +kernel
theorem dX9_mend_16 : decode cX9_mend 16 = .ok (.goto 4, 3) := by decide +kernel
theorem dX9_mend_19 : decode cX9_mend 19 = .ok (.iconst 0, 1) := by decide +kernel
theorem dX9_mend_20 : decode cX9_mend 20 = .ok (.iload_n 2, 1) := by decide +kernel
theorem dX9_mend_21 : decode cX9_mend 21 = .ok (.invokestatic 152, 3) := by decide +kernel
theorem dX9_mend_24 : decode cX9_mend 24 = .ok (.invokestatic 116, 3) := by decide +kernel
theorem dX9_mend_27 : decode cX9_mend 27 = .ok (.ifCond .eq 13, 3) := by decide +kernel
theorem dX9_mend_30 : decode cX9_mend 30 = .ok (.aload_n 0, 1) := by decide +kernel
theorem dX9_mend_31 : decode cX9_mend 31 = .ok (.iload_n 2, 1) := by decide +kernel
theorem dX9_mend_32 : decode cX9_mend 32 = .ok (.iload_n 1, 1) := by decide +kernel
theorem dX9_mend_33 : decode cX9_mend 33 = .ok (.iload_n 3, 1) := by decide +kernel
theorem dX9_mend_34 : decode cX9_mend 34 = .ok (.invokevirtual 156, 3) := by decide +kernel
theorem dX9_mend_37 : decode cX9_mend 37 = .ok (.goto 4, 3) := by decide +kernel
theorem dX9_mend_40 : decode cX9_mend 40 = .ok (.iconst (-1), 1) := by decide +kernel
theorem dX9_mend_41 : decode cX9_mend 41 = .ok (.ireturn, 1) := by decide +kernel
theorem dX9_of_0 : decode cX9_of 0 = .ok (.iload_n 2, 1) := by decide +kernel
theorem dX9_of_1 : decode cX9_of 1 = .ok (.iconst 0, 1) := by decide +kernel
theorem dX9_of_2 : decode cX9_of 2 = .ok (.iconst 5, 1) := by decide +kernel
theorem dX9_of_3 : decode cX9_of 3 = .ok (.invokestatic 116, 3) := by decide +kernel
theorem dX9_of_6 : decode cX9_of 6 = .ok (.ifCond .eq 23, 3) := by decide +kernel
theorem dX9_of_9 : decode cX9_of 9 = .ok (.aload_n 0, 1) := by decide +kernel
theorem dX9_of_10 : decode cX9_of 10 = .ok (.iload_n 1, 1) := by decide +kernel
theorem dX9_of_11 : decode cX9_of 11 = .ok (.iload_n 2, 1) := by decide +kernel
theorem dX9_of_12 : decode cX9_of 12 = .ok (.invokevirtual 148, 3) := by decide +kernel
theorem dX9_of_15 : decode cX9_of 15 = .ok (.ifCond .eq 12, 3) := by decide +kernel
theorem dX9_of_18 : decode cX9_of 18 = .ok (.aload_n 0, 1) := by decide +kernel
theorem dX9_of_19 : decode cX9_of 19 = .ok (.iload_n 2, 1) := by decide +kernel
theorem dX9_of_20 : decode cX9_of 20 = .ok (.iload_n 1, 1) := by decide +kernel
theorem dX9_of_21 : decode cX9_of 21 = .ok (.invokevirtual 128, 3) := by decide +kernel
theorem dX9_of_24 : decode cX9_of 24 = .ok (.goto 4, 3) := by decide +kernel
theorem dX9_of_27 : decode cX9_of 27 = .ok (.iconst (-1), 1) := by decide +kernel
theorem dX9_of_28 : decode cX9_of 28 = .ok (.ireturn, 1) := by decide +kernel
theorem dX9_of_29 : decode cX9_of 29 = .ok (.iload_n 2, 1) := by decide +kernel
theorem dX9_of_30 : decode cX9_of 30 = .ok (.bipush 10, 2) := by decide +kernel
theorem dX9_of_32 : decode cX9_of 32 = .ok (.bipush 11, 2) := by decide +kernel
theorem dX9_of_34 : decode cX9_of 34 = .ok (.invokestatic 116, 3) := by decide +kernel
theorem dX9_of_37 : decode cX9_of 37 = .ok (.ifCond .eq 48, 3) := by decide +kernel
theorem dX9_of_40 : decode cX9_of 40 = .ok (.iload_n 1, 1) := by decide +kernel
theorem dX9_of_41 : decode cX9_of 41 = .ok (.invokestatic 141, 3) := by decide +kernel
theorem dX9_of_44 : decode cX9_of 44 = .ok (.ifCond .ne 5, 3) := by decide +kernel
theorem dX9_of_47 : decode cX9_of 47 = .ok (.iconst (-1), 1) := by decide +kernel
theorem dX9_of_48 : decode cX9_of 48 = .ok (.ireturn, 1) := by decide +kernel
theorem dX9_of_49 : decode cX9_of 49 = .ok (.iload_n 2, 1) := by decide +kernel
theorem dX9_of_50 : decode cX9_of 50 = .ok (.bipush 10, 2) := by decide +kernel
theorem dX9_of_52 : decode cX9_of 52 = .ok (.if_icmp .ne 19, 3) := by decide +kernel
theorem dX9_of_55 : decode cX9_of 55 = .ok (.aload_n 0, 1) := by decide +kernel
theorem dX9_of_56 : decode cX9_of 56 = .ok (.iload_n 1, 1) := by decide +kernel
theorem dX9_of_57 : decode cX9_of 57 = .ok (.invokevirtual 160, 3) := by decide +kernel
theorem dX9_of_60 : decode cX9_of 60 = .ok (.ifCond .eq 7, 3) := by decide +kernel
theorem dX9_of_63 : decode cX9_of 63 = .ok (.iconst 1, 1) := by decide +kernel
theorem dX9_of_64 : decode cX9_of 64 = .ok (.goto 20, 3) := by decide +kernel
theorem dX9_of_67 : decode cX9_of 67 = .ok (.iconst 0, 1) := by decide +kernel
theorem dX9_of_68 : decode cX9_of 68 = .ok (.goto 16, 3) := by decide +kernel
theorem dX9_of_71 : decode cX9_of 71 = .ok (.aload_n 0, 1) := by decide +kernel
theorem dX9_of_72 : decode cX9_of 72 = .ok (.iload_n 1, 1) := by decide +kernel
theorem dX9_of_73 : decode cX9_of 73 = .ok (.invokevirtual 163, 3) := by decide +kernel
theorem dX9_of_76 : decode cX9_of 76 = .ok (.ifCond .eq 7, 3) := by decide +kernel
theorem dX9_of_79 : decode cX9_of 79 = .ok (.iconst 1, 1) := by decide +kernel
theorem dX9_of_80 : decode cX9_of 80 = .ok (.goto 4, 3) := by decide +kernel
theorem dX9_of_83 : decode cX9_of 83 = .ok (.iconst 0, 1) := by decide +kernel
theorem dX9_of_84 : decode cX9_of 84 = .ok (.ireturn, 1) := by decide +kernel
theorem dX9_of_85 : decode cX9_of 85 = .ok (.iload_n 1, 1) := by decide +kernel
theorem dX9_of_86 : decode cX9_of 86 = .ok (.ifCond .eq 5, 3) := by decide +kernel
theorem dX9_of_89 : decode cX9_of 89 = .ok (.iconst (-1), 1) := by decide +kernel
theorem dX9_of_90 : decode cX9_of 90 = .ok (.ireturn, 1) := by decide +kernel
theorem dX9_of_91 : decode cX9_of 91 = .ok (.iload_n 2, 1) := by decide +kernel
theorem dX9_of_92 : decode cX9_of 92 = .ok (.tableswitch 64 20 24 #[36, 41, 46, 51, 56], 36) := by decide +kernel
theorem dX9_of_128 : decode cX9_of 128 = .ok (.aload_n 0, 1) := by decide +kernel
theorem dX9_of_129 : decode cX9_of 129 = .ok (.getfield 166, 3) := by decide +kernel
theorem dX9_of_132 : decode cX9_of 132 = .ok (.ireturn, 1) := by decide +kernel
theorem dX9_of_133 : decode cX9_of 133 = .ok (.aload_n 0, 1) := by decide +kernel
theorem dX9_of_134 : decode cX9_of 134 = .ok (.getfield 169, 3) := by decide +kernel
theorem dX9_of_137 : decode cX9_of 137 = .ok (.ireturn, 1) := by decide +kernel
theorem dX9_of_138 : decode cX9_of 138 = .ok (.aload_n 0, 1) := by decide +kernel
theorem dX9_of_139 : decode cX9_of 139 = .ok (.getfield 29, 3) := by decide +kernel
theorem dX9_of_142 : decode cX9_of 142 = .ok (.ireturn, 1) := by decide +kernel
theorem dX9_of_143 : decode cX9_of 143 = .ok (.aload_n 0, 1) := by decide +kernel
theorem dX9_of_144 : decode cX9_of 144 = .ok (.getfield 172, 3) := by decide +kernel
theorem dX9_of_147 : decode cX9_of 147 = .ok (.ireturn, 1) := by decide +kernel
theorem dX9_of_148 : decode cX9_of 148 = .ok (.aload_n 0, 1) := by decide +kernel
theorem dX9_of_149 : decode cX9_of 149 = .ok (.getfield 124, 3) := by decide +kernel
theorem dX9_of_152 : decode cX9_of 152 = .ok (.invokestatic 175, 3) := by decide +kernel
theorem dX9_of_155 : decode cX9_of 155 = .ok (.ireturn, 1) := by decide +kernel
theorem dX9_of_156 : decode cX9_of 156 = .ok (.iconst (-1), 1) := by decide +kernel
theorem dX9_of_157 : decode cX9_of 157 = .ok (.ireturn, 1) := by decide +kernel
theorem dX9_heights_0 : decode cX9_heights 0 = .ok (.iload_n 1, 1) := by decide +kernel
theorem dX9_heights_1 : decode cX9_heights 1 = .ok (.invokestatic 179, 3) := by decide +kernel
theorem dX9_heights_4 : decode cX9_heights 4 = .ok (.ifCond .eq 30, 3) := by decide +kernel
theorem dX9_heights_7 : decode cX9_heights 7 = .ok (.iload_n 3, 1) := by decide +kernel
theorem dX9_heights_8 : decode cX9_heights 8 = .ok (.ifCond .lt 26, 3) := by decide +kernel
theorem dX9_heights_11 : decode cX9_heights 11 = .ok (.iload_n 3, 1) := by decide +kernel
theorem dX9_heights_12 : decode cX9_heights 12 = .ok (.bipush 100, 2) := by decide +kernel
theorem dX9_heights_14 : decode cX9_heights 14 = .ok (.idiv, 1) := by decide +kernel
theorem dX9_heights_15 : decode cX9_heights 15 = .ok (.invokestatic 141, 3) := by decide +kernel
theorem dX9_heights_18 : decode cX9_heights 18 = .ok (.ifCond .eq 16, 3) := by decide +kernel
theorem dX9_heights_21 : decode cX9_heights 21 = .ok (.iload_n 3, 1) := by decide +kernel
theorem dX9_heights_22 : decode cX9_heights 22 = .ok (.bipush 100, 2) := by decide +kernel
theorem dX9_heights_24 : decode cX9_heights 24 = .ok (.irem, 1) := by decide +kernel
theorem dX9_heights_25 : decode cX9_heights 25 = .ok (.iconst 1, 1) := by decide +kernel
theorem dX9_heights_26 : decode cX9_heights 26 = .ok (.bipush 36, 2) := by decide +kernel
theorem dX9_heights_28 : decode cX9_heights 28 = .ok (.invokestatic 116, 3) := by decide +kernel
theorem dX9_heights_31 : decode cX9_heights 31 = .ok (.ifCond .ne 5, 3) := by decide +kernel
theorem dX9_heights_34 : decode cX9_heights 34 = .ok (.iconst (-1), 1) := by decide +kernel
theorem dX9_heights_35 : decode cX9_heights 35 = .ok (.ireturn, 1) := by decide +kernel
theorem dX9_heights_36 : decode cX9_heights 36 = .ok (.aload_n 0, 1) := by decide +kernel
theorem dX9_heights_37 : decode cX9_heights 37 = .ok (.getfield 100, 3) := by decide +kernel
theorem dX9_heights_40 : decode cX9_heights 40 = .ok (.iload_n 1, 1) := by decide +kernel
theorem dX9_heights_41 : decode cX9_heights 41 = .ok (.iaload, 1) := by decide +kernel
theorem dX9_heights_42 : decode cX9_heights 42 = .ok (.iconst (-1), 1) := by decide +kernel
theorem dX9_heights_43 : decode cX9_heights 43 = .ok (.if_icmp .eq 17, 3) := by decide +kernel
theorem dX9_heights_46 : decode cX9_heights 46 = .ok (.aload_n 0, 1) := by decide +kernel
theorem dX9_heights_47 : decode cX9_heights 47 = .ok (.getfield 100, 3) := by decide +kernel
theorem dX9_heights_50 : decode cX9_heights 50 = .ok (.iload_n 1, 1) := by decide +kernel
theorem dX9_heights_51 : decode cX9_heights 51 = .ok (.iaload, 1) := by decide +kernel
theorem dX9_heights_52 : decode cX9_heights 52 = .ok (.bipush (-2), 2) := by decide +kernel
theorem dX9_heights_54 : decode cX9_heights 54 = .ok (.if_icmp .eq 6, 3) := by decide +kernel
theorem dX9_heights_57 : decode cX9_heights 57 = .ok (.bipush (-12), 2) := by decide +kernel
theorem dX9_heights_59 : decode cX9_heights 59 = .ok (.ireturn, 1) := by decide +kernel
theorem dX9_heights_60 : decode cX9_heights 60 = .ok (.aload_n 0, 1) := by decide +kernel
theorem dX9_heights_61 : decode cX9_heights 61 = .ok (.getfield 100, 3) := by decide +kernel
theorem dX9_heights_64 : decode cX9_heights 64 = .ok (.iload_n 1, 1) := by decide +kernel
theorem dX9_heights_65 : decode cX9_heights 65 = .ok (.iaload, 1) := by decide +kernel
theorem dX9_heights_66 : decode cX9_heights 66 = .ok (.iconst (-1), 1) := by decide +kernel
theorem dX9_heights_67 : decode cX9_heights 67 = .ok (.if_icmp .ne 5, 3) := by decide +kernel
theorem dX9_heights_70 : decode cX9_heights 70 = .ok (.iconst 0, 1) := by decide +kernel
theorem dX9_heights_71 : decode cX9_heights 71 = .ok (.ireturn, 1) := by decide +kernel
theorem dX9_heights_72 : decode cX9_heights 72 = .ok (.iconst 0, 1) := by decide +kernel
theorem dX9_heights_73 : decode cX9_heights 73 = .ok (.istore 4, 2) := by decide +kernel
theorem dX9_heights_75 : decode cX9_heights 75 = .ok (.iload 4, 2) := by decide +kernel
theorem dX9_heights_77 : decode cX9_heights 77 = .ok (.iload_n 3, 1) := by decide +kernel
theorem dX9_heights_78 : decode cX9_heights 78 = .ok (.bipush 100, 2) := by decide +kernel
theorem dX9_heights_80 : decode cX9_heights 80 = .ok (.irem, 1) := by decide +kernel
theorem dX9_heights_81 : decode cX9_heights 81 = .ok (.if_icmp .ge 97, 3) := by decide +kernel
theorem dX9_heights_84 : decode cX9_heights 84 = .ok (.iload_n 2, 1) := by decide +kernel
theorem dX9_heights_85 : decode cX9_heights 85 = .ok (.i2l, 1) := by decide +kernel
theorem dX9_heights_86 : decode cX9_heights 86 = .ok (.iload 4, 2) := by decide +kernel
theorem dX9_heights_88 : decode cX9_heights 88 = .ok (.i2l, 1) := by decide +kernel
theorem dX9_heights_89 : decode cX9_heights 89 = .ok (.ladd, 1) := by decide +kernel
theorem dX9_heights_90 : decode cX9_heights 90 = .ok (.lstore 5, 2) := by decide +kernel
theorem dX9_heights_92 : decode cX9_heights 92 = .ok (.lload 5, 2) := by decide +kernel
theorem dX9_heights_94 : decode cX9_heights 94 = .ok (.lconst 0, 1) := by decide +kernel
theorem dX9_heights_95 : decode cX9_heights 95 = .ok (.lcmp, 1) := by decide +kernel
theorem dX9_heights_96 : decode cX9_heights 96 = .ok (.ifCond .lt 29, 3) := by decide +kernel
theorem dX9_heights_99 : decode cX9_heights 99 = .ok (.lload 5, 2) := by decide +kernel
theorem dX9_heights_101 : decode cX9_heights 101 = .ok (.aload_n 0, 1) := by decide +kernel
theorem dX9_heights_102 : decode cX9_heights 102 = .ok (.getfield 103, 3) := by decide +kernel
theorem dX9_heights_105 : decode cX9_heights 105 = .ok (.iload_n 1, 1) := by decide +kernel
theorem dX9_heights_106 : decode cX9_heights 106 = .ok (.iaload, 1) := by decide +kernel
theorem dX9_heights_107 : decode cX9_heights 107 = .ok (.i2l, 1) := by decide +kernel
theorem dX9_heights_108 : decode cX9_heights 108 = .ok (.lcmp, 1) := by decide +kernel
theorem dX9_heights_109 : decode cX9_heights 109 = .ok (.ifCond .ge 16, 3) := by decide +kernel
theorem dX9_heights_112 : decode cX9_heights 112 = .ok (.iload_n 3, 1) := by decide +kernel
theorem dX9_heights_113 : decode cX9_heights 113 = .ok (.bipush 100, 2) := by decide +kernel
theorem dX9_heights_115 : decode cX9_heights 115 = .ok (.idiv, 1) := by decide +kernel
theorem dX9_heights_116 : decode cX9_heights 116 = .ok (.iload 4, 2) := by decide +kernel
theorem dX9_heights_118 : decode cX9_heights 118 = .ok (.iadd, 1) := by decide +kernel
theorem dX9_heights_119 : decode cX9_heights 119 = .ok (.invokestatic 141, 3) := by decide +kernel
theorem dX9_heights_122 : decode cX9_heights 122 = .ok (.ifCond .ne 6, 3) := by decide +kernel
theorem dX9_heights_125 : decode cX9_heights 125 = .ok (.iload 4, 2) := by decide +kernel
theorem dX9_heights_127 : decode cX9_heights 127 = .ok (.ireturn, 1) := by decide +kernel
theorem dX9_heights_128 : decode cX9_heights 128 = .ok (.aload_n 0, 1) := by decide +kernel
theorem dX9_heights_129 : decode cX9_heights 129 = .ok (.getfield 106, 3) := by decide +kernel
theorem dX9_heights_132 : decode cX9_heights 132 = .ok (.bipush 60, 2) := by decide +kernel
theorem dX9_heights_134 : decode cX9_heights 134 = .ok (.iload_n 1, 1) := by decide +kernel
theorem dX9_heights_135 : decode cX9_heights 135 = .ok (.imul, 1) := by decide +kernel
theorem dX9_heights_136 : decode cX9_heights 136 = .ok (.lload 5, 2) := by decide +kernel
theorem dX9_heights_138 : decode cX9_heights 138 = .ok (.l2i, 1) := by decide +kernel
theorem dX9_heights_139 : decode cX9_heights 139 = .ok (.iadd, 1) := by decide +kernel
theorem dX9_heights_140 : decode cX9_heights 140 = .ok (.laload, 1) := by decide +kernel
theorem dX9_heights_141 : decode cX9_heights 141 = .ok (.l2i, 1) := by decide +kernel
theorem dX9_heights_142 : decode cX9_heights 142 = .ok (.istore 7, 2) := by decide +kernel
theorem dX9_heights_144 : decode cX9_heights 144 = .ok (.iload 7, 2) := by decide +kernel
theorem dX9_heights_146 : decode cX9_heights 146 = .ok (.iconst 0, 1) := by decide +kernel
theorem dX9_heights_147 : decode cX9_heights 147 = .ok (.bipush 9, 2) := by decide +kernel
theorem dX9_heights_149 : decode cX9_heights 149 = .ok (.invokestatic 116, 3) := by decide +kernel
theorem dX9_heights_152 : decode cX9_heights 152 = .ok (.ifCond .ne 6, 3) := by decide +kernel
theorem dX9_heights_155 : decode cX9_heights 155 = .ok (.iload 4, 2) := by decide +kernel
theorem dX9_heights_157 : decode cX9_heights 157 = .ok (.ireturn, 1) := by decide +kernel
theorem dX9_heights_158 : decode cX9_heights 158 = .ok (.aload_n 0, 1) := by decide +kernel
theorem dX9_heights_159 : decode cX9_heights 159 = .ok (.getfield 7, 3) := by decide +kernel
theorem dX9_heights_162 : decode cX9_heights 162 = .ok (.iload_n 3, 1) := by decide +kernel
theorem dX9_heights_163 : decode cX9_heights 163 = .ok (.bipush 100, 2) := by decide +kernel
theorem dX9_heights_165 : decode cX9_heights 165 = .ok (.idiv, 1) := by decide +kernel
theorem dX9_heights_166 : decode cX9_heights 166 = .ok (.iload 4, 2) := by decide +kernel
theorem dX9_heights_168 : decode cX9_heights 168 = .ok (.iadd, 1) := by decide +kernel
theorem dX9_heights_169 : decode cX9_heights 169 = .ok (.iload 7, 2) := by decide +kernel
theorem dX9_heights_171 : decode cX9_heights 171 = .ok (.iastore, 1) := by decide +kernel
theorem dX9_heights_172 : decode cX9_heights 172 = .ok (.iinc 4 1, 3) := by decide +kernel
theorem dX9_heights_175 : decode cX9_heights 175 = .ok (.goto (-100), 3) := by decide +kernel
theorem dX9_heights_178 : decode cX9_heights 178 = .ok (.iload_n 3, 1) := by decide +kernel
theorem dX9_heights_179 : decode cX9_heights 179 = .ok (.bipush 100, 2) := by decide +kernel
theorem dX9_heights_181 : decode cX9_heights 181 = .ok (.irem, 1) := by decide +kernel
theorem dX9_heights_182 : decode cX9_heights 182 = .ok (.ireturn, 1) := by decide +kernel
theorem dX9_feed_0 : decode cX9_feed 0 = .ok (.iload_n 1, 1) := by decide +kernel
theorem dX9_feed_1 : decode cX9_feed 1 = .ok (.iconst 0, 1) := by decide +kernel
theorem dX9_feed_2 : decode cX9_feed 2 = .ok (.sipush 255, 3) := by decide +kernel
theorem dX9_feed_5 : decode cX9_feed 5 = .ok (.invokestatic 116, 3) := by decide +kernel
theorem dX9_feed_8 : decode cX9_feed 8 = .ok (.ifCond .ne 5, 3) := by decide +kernel
theorem dX9_feed_11 : decode cX9_feed 11 = .ok (.iconst (-1), 1) := by decide +kernel
theorem dX9_feed_12 : decode cX9_feed 12 = .ok (.ireturn, 1) := by decide +kernel
theorem dX9_feed_13 : decode cX9_feed 13 = .ok (.aload_n 0, 1) := by decide +kernel
theorem dX9_feed_14 : decode cX9_feed 14 = .ok (.getfield 182, 3) := by decide +kernel
theorem dX9_feed_17 : decode cX9_feed 17 = .ok (.bipush 120, 2) := by decide +kernel
theorem dX9_feed_19 : decode cX9_feed 19 = .ok (.if_icmp .ne 6, 3) := by decide +kernel
theorem dX9_feed_22 : decode cX9_feed 22 = .ok (.bipush (-3), 2) := by decide +kernel
theorem dX9_feed_24 : decode cX9_feed 24 = .ok (.ireturn, 1) := by decide +kernel
theorem dX9_feed_25 : decode cX9_feed 25 = .ok (.aload_n 0, 1) := by decide +kernel
theorem dX9_feed_26 : decode cX9_feed 26 = .ok (.getfield 50, 3) := by decide +kernel
theorem dX9_feed_29 : decode cX9_feed 29 = .ok (.aload_n 0, 1) := by decide +kernel
theorem dX9_feed_30 : decode cX9_feed 30 = .ok (.getfield 182, 3) := by decide +kernel
theorem dX9_feed_33 : decode cX9_feed 33 = .ok (.iload_n 1, 1) := by decide +kernel
theorem dX9_feed_34 : decode cX9_feed 34 = .ok (.i2b, 1) := by decide +kernel
theorem dX9_feed_35 : decode cX9_feed 35 = .ok (.bastore, 1) := by decide +kernel
theorem dX9_feed_36 : decode cX9_feed 36 = .ok (.aload_n 0, 1) := by decide +kernel
theorem dX9_feed_37 : decode cX9_feed 37 = .ok (.dup, 1) := by decide +kernel
theorem dX9_feed_38 : decode cX9_feed 38 = .ok (.getfield 182, 3) := by decide +kernel
theorem dX9_feed_41 : decode cX9_feed 41 = .ok (.iconst 1, 1) := by decide +kernel
theorem dX9_feed_42 : decode cX9_feed 42 = .ok (.iadd, 1) := by decide +kernel
theorem dX9_feed_43 : decode cX9_feed 43 = .ok (.putfield 182, 3) := by decide +kernel
theorem dX9_feed_46 : decode cX9_feed 46 = .ok (.aload_n 0, 1) := by decide +kernel
theorem dX9_feed_47 : decode cX9_feed 47 = .ok (.getfield 182, 3) := by decide +kernel
theorem dX9_feed_50 : decode cX9_feed 50 = .ok (.ireturn, 1) := by decide +kernel
theorem dX9_look_0 : decode cX9_look 0 = .ok (.aload_n 0, 1) := by decide +kernel
theorem dX9_look_1 : decode cX9_look 1 = .ok (.getfield 185, 3) := by decide +kernel
theorem dX9_look_4 : decode cX9_look 4 = .ok (.aload_n 0, 1) := by decide +kernel
theorem dX9_look_5 : decode cX9_look 5 = .ok (.getfield 182, 3) := by decide +kernel
theorem dX9_look_8 : decode cX9_look 8 = .ok (.if_icmp .ge 15, 3) := by decide +kernel
theorem dX9_look_11 : decode cX9_look 11 = .ok (.aload_n 0, 1) := by decide +kernel
theorem dX9_look_12 : decode cX9_look 12 = .ok (.getfield 50, 3) := by decide +kernel
theorem dX9_look_15 : decode cX9_look 15 = .ok (.aload_n 0, 1) := by decide +kernel
theorem dX9_look_16 : decode cX9_look 16 = .ok (.getfield 185, 3) := by decide +kernel
theorem dX9_look_19 : decode cX9_look 19 = .ok (.baload, 1) := by decide +kernel
theorem dX9_look_20 : decode cX9_look 20 = .ok (.goto 4, 3) := by decide +kernel
theorem dX9_look_23 : decode cX9_look 23 = .ok (.iconst (-1), 1) := by decide +kernel
theorem dX9_look_24 : decode cX9_look 24 = .ok (.ireturn, 1) := by decide +kernel
theorem dX9_faulty_0 : decode cX9_faulty 0 = .ok (.aload_n 0, 1) := by decide +kernel
theorem dX9_faulty_1 : decode cX9_faulty 1 = .ok (.getfield 188, 3) := by decide +kernel
theorem dX9_faulty_4 : decode cX9_faulty 4 = .ok (.ifCond .ge 11, 3) := by decide +kernel
theorem dX9_faulty_7 : decode cX9_faulty 7 = .ok (.aload_n 0, 1) := by decide +kernel
theorem dX9_faulty_8 : decode cX9_faulty 8 = .ok (.aload_n 0, 1) := by decide +kernel
theorem dX9_faulty_9 : decode cX9_faulty 9 = .ok (.getfield 185, 3) := by decide +kernel
theorem dX9_faulty_12 : decode cX9_faulty 12 = .ok (.putfield 188, 3) := by decide +kernel
theorem dX9_faulty_15 : decode cX9_faulty 15 = .ok (.return_, 1) := by decide +kernel
theorem dX9_addStep_0 : decode cX9_addStep 0 = .ok (.aload_n 0, 1) := by decide +kernel
theorem dX9_addStep_1 : decode cX9_addStep 1 = .ok (.getfield 54, 3) := by decide +kernel
theorem dX9_addStep_4 : decode cX9_addStep 4 = .ok (.sipush 130, 3) := by decide +kernel
theorem dX9_addStep_7 : decode cX9_addStep 7 = .ok (.aload_n 0, 1) := by decide +kernel
theorem dX9_addStep_8 : decode cX9_addStep 8 = .ok (.getfield 191, 3) := by decide +kernel
theorem dX9_addStep_11 : decode cX9_addStep 11 = .ok (.iadd, 1) := by decide +kernel
theorem dX9_addStep_12 : decode cX9_addStep 12 = .ok (.iload_n 1, 1) := by decide +kernel
theorem dX9_addStep_13 : decode cX9_addStep 13 = .ok (.i2b, 1) := by decide +kernel
theorem dX9_addStep_14 : decode cX9_addStep 14 = .ok (.bastore, 1) := by decide +kernel
theorem dX9_addStep_15 : decode cX9_addStep 15 = .ok (.aload_n 0, 1) := by decide +kernel
theorem dX9_addStep_16 : decode cX9_addStep 16 = .ok (.getfield 57, 3) := by decide +kernel
theorem dX9_addStep_19 : decode cX9_addStep 19 = .ok (.sipush 130, 3) := by decide +kernel
theorem dX9_addStep_22 : decode cX9_addStep 22 = .ok (.aload_n 0, 1) := by decide +kernel
theorem dX9_addStep_23 : decode cX9_addStep 23 = .ok (.getfield 191, 3) := by decide +kernel
theorem dX9_addStep_26 : decode cX9_addStep 26 = .ok (.iadd, 1) := by decide +kernel
theorem dX9_addStep_27 : decode cX9_addStep 27 = .ok (.iload_n 2, 1) := by decide +kernel
theorem dX9_addStep_28 : decode cX9_addStep 28 = .ok (.iastore, 1) := by decide +kernel
theorem dX9_addStep_29 : decode cX9_addStep 29 = .ok (.aload_n 0, 1) := by decide +kernel
theorem dX9_addStep_30 : decode cX9_addStep 30 = .ok (.dup, 1) := by decide +kernel
theorem dX9_addStep_31 : decode cX9_addStep 31 = .ok (.getfield 191, 3) := by decide +kernel
theorem dX9_addStep_34 : decode cX9_addStep 34 = .ok (.iconst 1, 1) := by decide +kernel
theorem dX9_addStep_35 : decode cX9_addStep 35 = .ok (.iadd, 1) := by decide +kernel
theorem dX9_addStep_36 : decode cX9_addStep 36 = .ok (.putfield 191, 3) := by decide +kernel
theorem dX9_addStep_39 : decode cX9_addStep 39 = .ok (.return_, 1) := by decide +kernel
theorem dX9_nameOf_0 : decode cX9_nameOf 0 = .ok (.iload_n 0, 1) := by decide +kernel
theorem dX9_nameOf_1 : decode cX9_nameOf 1 = .ok (.tableswitch 114 99 119 #[111, 103, 114, 114, 114, 105, 114, 114, 114, 114, 114, 114, 107, 114, 114, 114, 99, 114, 101, 114, 109], 99) := by decide +kernel
theorem dX9_nameOf_100 : decode cX9_nameOf 100 = .ok (.iconst 0, 1) := by decide +kernel
theorem dX9_nameOf_101 : decode cX9_nameOf 101 = .ok (.ireturn, 1) := by decide +kernel
theorem dX9_nameOf_102 : decode cX9_nameOf 102 = .ok (.iconst 1, 1) := by decide +kernel
theorem dX9_nameOf_103 : decode cX9_nameOf 103 = .ok (.ireturn, 1) := by decide +kernel
theorem dX9_nameOf_104 : decode cX9_nameOf 104 = .ok (.iconst 2, 1) := by decide +kernel
theorem dX9_nameOf_105 : decode cX9_nameOf 105 = .ok (.ireturn, 1) := by decide +kernel
theorem dX9_nameOf_106 : decode cX9_nameOf 106 = .ok (.iconst 3, 1) := by decide +kernel
theorem dX9_nameOf_107 : decode cX9_nameOf 107 = .ok (.ireturn, 1) := by decide +kernel
theorem dX9_nameOf_108 : decode cX9_nameOf 108 = .ok (.iconst 4, 1) := by decide +kernel
theorem dX9_nameOf_109 : decode cX9_nameOf 109 = .ok (.ireturn, 1) := by decide +kernel
theorem dX9_nameOf_110 : decode cX9_nameOf 110 = .ok (.iconst 5, 1) := by decide +kernel
theorem dX9_nameOf_111 : decode cX9_nameOf 111 = .ok (.ireturn, 1) := by decide +kernel
theorem dX9_nameOf_112 : decode cX9_nameOf 112 = .ok (.bipush 6, 2) := by decide +kernel
theorem dX9_nameOf_114 : decode cX9_nameOf 114 = .ok (.ireturn, 1) := by decide +kernel
theorem dX9_nameOf_115 : decode cX9_nameOf 115 = .ok (.iconst (-1), 1) := by decide +kernel
theorem dX9_nameOf_116 : decode cX9_nameOf 116 = .ok (.ireturn, 1) := by decide +kernel
theorem dX9_opens_0 : decode cX9_opens 0 = .ok (.aload_n 0, 1) := by decide +kernel
theorem dX9_opens_1 : decode cX9_opens 1 = .ok (.getfield 194, 3) := by decide +kernel
theorem dX9_opens_4 : decode cX9_opens 4 = .ok (.bipush 6, 2) := by decide +kernel
theorem dX9_opens_6 : decode cX9_opens 6 = .ok (.if_icmp .ne 9, 3) := by decide +kernel
theorem dX9_opens_9 : decode cX9_opens 9 = .ok (.aload_n 0, 1) := by decide +kernel
theorem dX9_opens_10 : decode cX9_opens 10 = .ok (.invokevirtual 197, 3) := by decide +kernel
theorem dX9_opens_13 : decode cX9_opens 13 = .ok (.iconst 0, 1) := by decide +kernel
theorem dX9_opens_14 : decode cX9_opens 14 = .ok (.ireturn, 1) := by decide +kernel
theorem dX9_opens_15 : decode cX9_opens 15 = .ok (.aload_n 0, 1) := by decide +kernel
theorem dX9_opens_16 : decode cX9_opens 16 = .ok (.dup, 1) := by decide +kernel
theorem dX9_opens_17 : decode cX9_opens 17 = .ok (.getfield 194, 3) := by decide +kernel
theorem dX9_opens_20 : decode cX9_opens 20 = .ok (.iconst 1, 1) := by decide +kernel
theorem dX9_opens_21 : decode cX9_opens 21 = .ok (.iadd, 1) := by decide +kernel
theorem dX9_opens_22 : decode cX9_opens 22 = .ok (.putfield 194, 3) := by decide +kernel
theorem dX9_opens_25 : decode cX9_opens 25 = .ok (.aload_n 0, 1) := by decide +kernel
theorem dX9_opens_26 : decode cX9_opens 26 = .ok (.dup, 1) := by decide +kernel
theorem dX9_opens_27 : decode cX9_opens 27 = .ok (.getfield 185, 3) := by decide +kernel
theorem dX9_opens_30 : decode cX9_opens 30 = .ok (.iconst 1, 1) := by decide +kernel
theorem dX9_opens_31 : decode cX9_opens 31 = .ok (.iadd, 1) := by decide +kernel
theorem dX9_opens_32 : decode cX9_opens 32 = .ok (.putfield 185, 3) := by decide +kernel
theorem dX9_opens_35 : decode cX9_opens 35 = .ok (.iconst 1, 1) := by decide +kernel
theorem dX9_opens_36 : decode cX9_opens 36 = .ok (.ireturn, 1) := by decide +kernel
theorem dX9_figure_0 : decode cX9_figure 0 = .ok (.iconst 0, 1) := by decide +kernel
theorem dX9_figure_1 : decode cX9_figure 1 = .ok (.istore_n 1, 1) := by decide +kernel
theorem dX9_figure_2 : decode cX9_figure 2 = .ok (.iconst 0, 1) := by decide +kernel
theorem dX9_figure_3 : decode cX9_figure 3 = .ok (.istore_n 2, 1) := by decide +kernel
theorem dX9_figure_4 : decode cX9_figure 4 = .ok (.iload_n 2, 1) := by decide +kernel
theorem dX9_figure_5 : decode cX9_figure 5 = .ok (.iconst 4, 1) := by decide +kernel
theorem dX9_figure_6 : decode cX9_figure 6 = .ok (.if_icmp .ge 46, 3) := by decide +kernel
theorem dX9_figure_9 : decode cX9_figure 9 = .ok (.aload_n 0, 1) := by decide +kernel
theorem dX9_figure_10 : decode cX9_figure 10 = .ok (.invokevirtual 200, 3) := by decide +kernel
theorem dX9_figure_13 : decode cX9_figure 13 = .ok (.bipush 48, 2) := by decide +kernel
theorem dX9_figure_15 : decode cX9_figure 15 = .ok (.bipush 57, 2) := by decide +kernel
theorem dX9_figure_17 : decode cX9_figure 17 = .ok (.invokestatic 116, 3) := by decide +kernel
theorem dX9_figure_20 : decode cX9_figure 20 = .ok (.ifCond .eq 32, 3) := by decide +kernel
theorem dX9_figure_23 : decode cX9_figure 23 = .ok (.bipush 10, 2) := by decide +kernel
theorem dX9_figure_25 : decode cX9_figure 25 = .ok (.iload_n 1, 1) := by decide +kernel
theorem dX9_figure_26 : decode cX9_figure 26 = .ok (.imul, 1) := by decide +kernel
theorem dX9_figure_27 : decode cX9_figure 27 = .ok (.aload_n 0, 1) := by decide +kernel
theorem dX9_figure_28 : decode cX9_figure 28 = .ok (.invokevirtual 200, 3) := by decide +kernel
theorem dX9_figure_31 : decode cX9_figure 31 = .ok (.iadd, 1) := by decide +kernel
theorem dX9_figure_32 : decode cX9_figure 32 = .ok (.bipush 48, 2) := by decide +kernel
theorem dX9_figure_34 : decode cX9_figure 34 = .ok (.isub, 1) := by decide +kernel
theorem dX9_figure_35 : decode cX9_figure 35 = .ok (.istore_n 1, 1) := by decide +kernel
theorem dX9_figure_36 : decode cX9_figure 36 = .ok (.iinc 2 1, 3) := by decide +kernel
theorem dX9_figure_39 : decode cX9_figure 39 = .ok (.aload_n 0, 1) := by decide +kernel
theorem dX9_figure_40 : decode cX9_figure 40 = .ok (.dup, 1) := by decide +kernel
theorem dX9_figure_41 : decode cX9_figure 41 = .ok (.getfield 185, 3) := by decide +kernel
theorem dX9_figure_44 : decode cX9_figure 44 = .ok (.iconst 1, 1) := by decide +kernel
theorem dX9_figure_45 : decode cX9_figure 45 = .ok (.iadd, 1) := by decide +kernel
theorem dX9_figure_46 : decode cX9_figure 46 = .ok (.putfield 185, 3) := by decide +kernel
theorem dX9_figure_49 : decode cX9_figure 49 = .ok (.goto (-45), 3) := by decide +kernel
theorem dX9_figure_52 : decode cX9_figure 52 = .ok (.iload_n 2, 1) := by decide +kernel
theorem dX9_figure_53 : decode cX9_figure 53 = .ok (.ifCond .eq 17, 3) := by decide +kernel
theorem dX9_figure_56 : decode cX9_figure 56 = .ok (.aload_n 0, 1) := by decide +kernel
theorem dX9_figure_57 : decode cX9_figure 57 = .ok (.invokevirtual 200, 3) := by decide +kernel
theorem dX9_figure_60 : decode cX9_figure 60 = .ok (.bipush 48, 2) := by decide +kernel
theorem dX9_figure_62 : decode cX9_figure 62 = .ok (.bipush 57, 2) := by decide +kernel
theorem dX9_figure_64 : decode cX9_figure 64 = .ok (.invokestatic 116, 3) := by decide +kernel
theorem dX9_figure_67 : decode cX9_figure 67 = .ok (.ifCond .eq 7, 3) := by decide +kernel
theorem dX9_figure_70 : decode cX9_figure 70 = .ok (.aload_n 0, 1) := by decide +kernel
theorem dX9_figure_71 : decode cX9_figure 71 = .ok (.invokevirtual 197, 3) := by decide +kernel
theorem dX9_figure_74 : decode cX9_figure 74 = .ok (.aload_n 0, 1) := by decide +kernel
theorem dX9_figure_75 : decode cX9_figure 75 = .ok (.iconst 1, 1) := by decide +kernel
theorem dX9_figure_76 : decode cX9_figure 76 = .ok (.iload_n 1, 1) := by decide +kernel
theorem dX9_figure_77 : decode cX9_figure 77 = .ok (.invokevirtual 204, 3) := by decide +kernel
theorem dX9_figure_80 : decode cX9_figure 80 = .ok (.return_, 1) := by decide +kernel
theorem dX9_operand_0 : decode cX9_operand 0 = .ok (.aload_n 0, 1) := by decide +kernel
theorem dX9_operand_1 : decode cX9_operand 1 = .ok (.invokevirtual 200, 3) := by decide +kernel
theorem dX9_operand_4 : decode cX9_operand 4 = .ok (.istore_n 1, 1) := by decide +kernel
theorem dX9_operand_5 : decode cX9_operand 5 = .ok (.iload_n 1, 1) := by decide +kernel
theorem dX9_operand_6 : decode cX9_operand 6 = .ok (.invokestatic 208, 3) := by decide +kernel
theorem dX9_operand_9 : decode cX9_operand 9 = .ok (.ifCond .lt 25, 3) := by decide +kernel
theorem dX9_operand_12 : decode cX9_operand 12 = .ok (.aload_n 0, 1) := by decide +kernel
theorem dX9_operand_13 : decode cX9_operand 13 = .ok (.iconst 2, 1) := by decide +kernel
theorem dX9_operand_14 : decode cX9_operand 14 = .ok (.iload_n 1, 1) := by decide +kernel
theorem dX9_operand_15 : decode cX9_operand 15 = .ok (.invokestatic 208, 3) := by decide +kernel
theorem dX9_operand_18 : decode cX9_operand 18 = .ok (.invokevirtual 204, 3) := by decide +kernel
theorem dX9_operand_21 : decode cX9_operand 21 = .ok (.aload_n 0, 1) := by decide +kernel
theorem dX9_operand_22 : decode cX9_operand 22 = .ok (.dup, 1) := by decide +kernel
theorem dX9_operand_23 : decode cX9_operand 23 = .ok (.getfield 185, 3) := by decide +kernel
theorem dX9_operand_26 : decode cX9_operand 26 = .ok (.iconst 1, 1) := by decide +kernel
theorem dX9_operand_27 : decode cX9_operand 27 = .ok (.iadd, 1) := by decide +kernel
theorem dX9_operand_28 : decode cX9_operand 28 = .ok (.putfield 185, 3) := by decide +kernel
theorem dX9_operand_31 : decode cX9_operand 31 = .ok (.goto 123, 3) := by decide +kernel
theorem dX9_operand_34 : decode cX9_operand 34 = .ok (.iload_n 1, 1) := by decide +kernel
theorem dX9_operand_35 : decode cX9_operand 35 = .ok (.bipush 33, 2) := by decide +kernel
theorem dX9_operand_37 : decode cX9_operand 37 = .ok (.if_icmp .eq 9, 3) := by decide +kernel
theorem dX9_operand_40 : decode cX9_operand 40 = .ok (.iload_n 1, 1) := by decide +kernel
theorem dX9_operand_41 : decode cX9_operand 41 = .ok (.bipush 45, 2) := by decide +kernel
theorem dX9_operand_43 : decode cX9_operand 43 = .ok (.if_icmp .ne 44, 3) := by decide +kernel
theorem dX9_operand_46 : decode cX9_operand 46 = .ok (.aload_n 0, 1) := by decide +kernel
theorem dX9_operand_47 : decode cX9_operand 47 = .ok (.invokevirtual 211, 3) := by decide +kernel
theorem dX9_operand_50 : decode cX9_operand 50 = .ok (.ifCond .ne 4, 3) := by decide +kernel
theorem dX9_operand_53 : decode cX9_operand 53 = .ok (.return_, 1) := by decide +kernel
theorem dX9_operand_54 : decode cX9_operand 54 = .ok (.aload_n 0, 1) := by decide +kernel
theorem dX9_operand_55 : decode cX9_operand 55 = .ok (.invokevirtual 215, 3) := by decide +kernel
theorem dX9_operand_58 : decode cX9_operand 58 = .ok (.aload_n 0, 1) := by decide +kernel
theorem dX9_operand_59 : decode cX9_operand 59 = .ok (.dup, 1) := by decide +kernel
theorem dX9_operand_60 : decode cX9_operand 60 = .ok (.getfield 194, 3) := by decide +kernel
theorem dX9_operand_63 : decode cX9_operand 63 = .ok (.iconst 1, 1) := by decide +kernel
theorem dX9_operand_64 : decode cX9_operand 64 = .ok (.isub, 1) := by decide +kernel
theorem dX9_operand_65 : decode cX9_operand 65 = .ok (.putfield 194, 3) := by decide +kernel
theorem dX9_operand_68 : decode cX9_operand 68 = .ok (.aload_n 0, 1) := by decide +kernel
theorem dX9_operand_69 : decode cX9_operand 69 = .ok (.iload_n 1, 1) := by decide +kernel
theorem dX9_operand_70 : decode cX9_operand 70 = .ok (.bipush 33, 2) := by decide +kernel
theorem dX9_operand_72 : decode cX9_operand 72 = .ok (.if_icmp .ne 7, 3) := by decide +kernel
theorem dX9_operand_75 : decode cX9_operand 75 = .ok (.iconst 3, 1) := by decide +kernel
theorem dX9_operand_76 : decode cX9_operand 76 = .ok (.goto 4, 3) := by decide +kernel
theorem dX9_operand_79 : decode cX9_operand 79 = .ok (.iconst 4, 1) := by decide +kernel
theorem dX9_operand_80 : decode cX9_operand 80 = .ok (.iconst 0, 1) := by decide +kernel
theorem dX9_operand_81 : decode cX9_operand 81 = .ok (.invokevirtual 204, 3) := by decide +kernel
theorem dX9_operand_84 : decode cX9_operand 84 = .ok (.goto 70, 3) := by decide +kernel
theorem dX9_operand_87 : decode cX9_operand 87 = .ok (.iload_n 1, 1) := by decide +kernel
theorem dX9_operand_88 : decode cX9_operand 88 = .ok (.bipush 40, 2) := by decide +kernel
theorem dX9_operand_90 : decode cX9_operand 90 = .ok (.if_icmp .ne 60, 3) := by decide +kernel
theorem dX9_operand_93 : decode cX9_operand 93 = .ok (.aload_n 0, 1) := by decide +kernel
theorem dX9_operand_94 : decode cX9_operand 94 = .ok (.invokevirtual 211, 3) := by decide +kernel
theorem dX9_operand_97 : decode cX9_operand 97 = .ok (.ifCond .ne 4, 3) := by decide +kernel
theorem dX9_operand_100 : decode cX9_operand 100 = .ok (.return_, 1) := by decide +kernel
theorem dX9_operand_101 : decode cX9_operand 101 = .ok (.aload_n 0, 1) := by decide +kernel
theorem dX9_operand_102 : decode cX9_operand 102 = .ok (.invokevirtual 218, 3) := by decide +kernel
theorem dX9_operand_105 : decode cX9_operand 105 = .ok (.aload_n 0, 1) := by decide +kernel
theorem dX9_operand_106 : decode cX9_operand 106 = .ok (.getfield 188, 3) := by decide +kernel
theorem dX9_operand_109 : decode cX9_operand 109 = .ok (.ifCond .lt 4, 3) := by decide +kernel
theorem dX9_operand_112 : decode cX9_operand 112 = .ok (.return_, 1) := by decide +kernel
theorem dX9_operand_113 : decode cX9_operand 113 = .ok (.aload_n 0, 1) := by decide +kernel
theorem dX9_operand_114 : decode cX9_operand 114 = .ok (.invokevirtual 200, 3) := by decide +kernel
theorem dX9_operand_117 : decode cX9_operand 117 = .ok (.bipush 41, 2) := by decide +kernel
theorem dX9_operand_119 : decode cX9_operand 119 = .ok (.if_icmp .eq 8, 3) := by decide +kernel
theorem dX9_operand_122 : decode cX9_operand 122 = .ok (.aload_n 0, 1) := by decide +kernel
theorem dX9_operand_123 : decode cX9_operand 123 = .ok (.invokevirtual 197, 3) := by decide +kernel
theorem dX9_operand_126 : decode cX9_operand 126 = .ok (.return_, 1) := by decide +kernel
theorem dX9_operand_127 : decode cX9_operand 127 = .ok (.aload_n 0, 1) := by decide +kernel
theorem dX9_operand_128 : decode cX9_operand 128 = .ok (.dup, 1) := by decide +kernel
theorem dX9_operand_129 : decode cX9_operand 129 = .ok (.getfield 185, 3) := by decide +kernel
theorem dX9_operand_132 : decode cX9_operand 132 = .ok (.iconst 1, 1) := by decide +kernel
theorem dX9_operand_133 : decode cX9_operand 133 = .ok (.iadd, 1) := by decide +kernel
theorem dX9_operand_134 : decode cX9_operand 134 = .ok (.putfield 185, 3) := by decide +kernel
theorem dX9_operand_137 : decode cX9_operand 137 = .ok (.aload_n 0, 1) := by decide +kernel
theorem dX9_operand_138 : decode cX9_operand 138 = .ok (.dup, 1) := by decide +kernel
theorem dX9_operand_139 : decode cX9_operand 139 = .ok (.getfield 194, 3) := by decide +kernel
theorem dX9_operand_142 : decode cX9_operand 142 = .ok (.iconst 1, 1) := by decide +kernel
theorem dX9_operand_143 : decode cX9_operand 143 = .ok (.isub, 1) := by decide +kernel
theorem dX9_operand_144 : decode cX9_operand 144 = .ok (.putfield 194, 3) := by decide +kernel
theorem dX9_operand_147 : decode cX9_operand 147 = .ok (.goto 7, 3) := by decide +kernel
theorem dX9_operand_150 : decode cX9_operand 150 = .ok (.aload_n 0, 1) := by decide +kernel
theorem dX9_operand_151 : decode cX9_operand 151 = .ok (.invokevirtual 221, 3) := by decide +kernel
theorem dX9_operand_154 : decode cX9_operand 154 = .ok (.return_, 1) := by decide +kernel
theorem dX9_product_0 : decode cX9_product 0 = .ok (.aload_n 0, 1) := by decide +kernel
theorem dX9_product_1 : decode cX9_product 1 = .ok (.invokevirtual 215, 3) := by decide +kernel
theorem dX9_product_4 : decode cX9_product 4 = .ok (.aload_n 0, 1) := by decide +kernel
theorem dX9_product_5 : decode cX9_product 5 = .ok (.getfield 188, 3) := by decide +kernel
theorem dX9_product_8 : decode cX9_product 8 = .ok (.ifCond .ge 58, 3) := by decide +kernel
theorem dX9_product_11 : decode cX9_product 11 = .ok (.aload_n 0, 1) := by decide +kernel
theorem dX9_product_12 : decode cX9_product 12 = .ok (.invokevirtual 200, 3) := by decide +kernel
theorem dX9_product_15 : decode cX9_product 15 = .ok (.bipush 42, 2) := by decide +kernel
theorem dX9_product_17 : decode cX9_product 17 = .ok (.if_icmp .eq 21, 3) := by decide +kernel
theorem dX9_product_20 : decode cX9_product 20 = .ok (.aload_n 0, 1) := by decide +kernel
theorem dX9_product_21 : decode cX9_product 21 = .ok (.invokevirtual 200, 3) := by decide +kernel
theorem dX9_product_24 : decode cX9_product 24 = .ok (.bipush 47, 2) := by decide +kernel
theorem dX9_product_26 : decode cX9_product 26 = .ok (.if_icmp .eq 12, 3) := by decide +kernel
theorem dX9_product_29 : decode cX9_product 29 = .ok (.aload_n 0, 1) := by decide +kernel
theorem dX9_product_30 : decode cX9_product 30 = .ok (.invokevirtual 200, 3) := by decide +kernel
theorem dX9_product_33 : decode cX9_product 33 = .ok (.bipush 37, 2) := by decide +kernel
theorem dX9_product_35 : decode cX9_product 35 = .ok (.if_icmp .ne 31, 3) := by decide +kernel
theorem dX9_product_38 : decode cX9_product 38 = .ok (.aload_n 0, 1) := by decide +kernel
theorem dX9_product_39 : decode cX9_product 39 = .ok (.invokevirtual 200, 3) := by decide +kernel
theorem dX9_product_42 : decode cX9_product 42 = .ok (.istore_n 1, 1) := by decide +kernel
theorem dX9_product_43 : decode cX9_product 43 = .ok (.aload_n 0, 1) := by decide +kernel
theorem dX9_product_44 : decode cX9_product 44 = .ok (.dup, 1) := by decide +kernel
theorem dX9_product_45 : decode cX9_product 45 = .ok (.getfield 185, 3) := by decide +kernel
theorem dX9_product_48 : decode cX9_product 48 = .ok (.iconst 1, 1) := by decide +kernel
theorem dX9_product_49 : decode cX9_product 49 = .ok (.iadd, 1) := by decide +kernel
theorem dX9_product_50 : decode cX9_product 50 = .ok (.putfield 185, 3) := by decide +kernel
theorem dX9_product_53 : decode cX9_product 53 = .ok (.aload_n 0, 1) := by decide +kernel
theorem dX9_product_54 : decode cX9_product 54 = .ok (.invokevirtual 215, 3) := by decide +kernel
theorem dX9_product_57 : decode cX9_product 57 = .ok (.aload_n 0, 1) := by decide +kernel
theorem dX9_product_58 : decode cX9_product 58 = .ok (.iload_n 1, 1) := by decide +kernel
theorem dX9_product_59 : decode cX9_product 59 = .ok (.iconst 0, 1) := by decide +kernel
theorem dX9_product_60 : decode cX9_product 60 = .ok (.invokevirtual 204, 3) := by decide +kernel
theorem dX9_product_63 : decode cX9_product 63 = .ok (.goto (-59), 3) := by decide +kernel
theorem dX9_product_66 : decode cX9_product 66 = .ok (.return_, 1) := by decide +kernel
theorem dX9_sum_0 : decode cX9_sum 0 = .ok (.aload_n 0, 1) := by decide +kernel
theorem dX9_sum_1 : decode cX9_sum 1 = .ok (.invokevirtual 224, 3) := by decide +kernel
theorem dX9_sum_4 : decode cX9_sum 4 = .ok (.aload_n 0, 1) := by decide +kernel
theorem dX9_sum_5 : decode cX9_sum 5 = .ok (.getfield 188, 3) := by decide +kernel
theorem dX9_sum_8 : decode cX9_sum 8 = .ok (.ifCond .ge 49, 3) := by decide +kernel
theorem dX9_sum_11 : decode cX9_sum 11 = .ok (.aload_n 0, 1) := by decide +kernel
theorem dX9_sum_12 : decode cX9_sum 12 = .ok (.invokevirtual 200, 3) := by decide +kernel
theorem dX9_sum_15 : decode cX9_sum 15 = .ok (.bipush 43, 2) := by decide +kernel
theorem dX9_sum_17 : decode cX9_sum 17 = .ok (.if_icmp .eq 12, 3) := by decide +kernel
theorem dX9_sum_20 : decode cX9_sum 20 = .ok (.aload_n 0, 1) := by decide +kernel
theorem dX9_sum_21 : decode cX9_sum 21 = .ok (.invokevirtual 200, 3) := by decide +kernel
theorem dX9_sum_24 : decode cX9_sum 24 = .ok (.bipush 45, 2) := by decide +kernel
theorem dX9_sum_26 : decode cX9_sum 26 = .ok (.if_icmp .ne 31, 3) := by decide +kernel
theorem dX9_sum_29 : decode cX9_sum 29 = .ok (.aload_n 0, 1) := by decide +kernel
theorem dX9_sum_30 : decode cX9_sum 30 = .ok (.invokevirtual 200, 3) := by decide +kernel
theorem dX9_sum_33 : decode cX9_sum 33 = .ok (.istore_n 1, 1) := by decide +kernel
theorem dX9_sum_34 : decode cX9_sum 34 = .ok (.aload_n 0, 1) := by decide +kernel
theorem dX9_sum_35 : decode cX9_sum 35 = .ok (.dup, 1) := by decide +kernel
theorem dX9_sum_36 : decode cX9_sum 36 = .ok (.getfield 185, 3) := by decide +kernel
theorem dX9_sum_39 : decode cX9_sum 39 = .ok (.iconst 1, 1) := by decide +kernel
theorem dX9_sum_40 : decode cX9_sum 40 = .ok (.iadd, 1) := by decide +kernel
theorem dX9_sum_41 : decode cX9_sum 41 = .ok (.putfield 185, 3) := by decide +kernel
theorem dX9_sum_44 : decode cX9_sum 44 = .ok (.aload_n 0, 1) := by decide +kernel
theorem dX9_sum_45 : decode cX9_sum 45 = .ok (.invokevirtual 224, 3) := by decide +kernel
theorem dX9_sum_48 : decode cX9_sum 48 = .ok (.aload_n 0, 1) := by decide +kernel
theorem dX9_sum_49 : decode cX9_sum 49 = .ok (.iload_n 1, 1) := by decide +kernel
theorem dX9_sum_50 : decode cX9_sum 50 = .ok (.iconst 0, 1) := by decide +kernel
theorem dX9_sum_51 : decode cX9_sum 51 = .ok (.invokevirtual 204, 3) := by decide +kernel
theorem dX9_sum_54 : decode cX9_sum 54 = .ok (.goto (-50), 3) := by decide +kernel
theorem dX9_sum_57 : decode cX9_sum 57 = .ok (.return_, 1) := by decide +kernel
theorem dX9_compared_0 : decode cX9_compared 0 = .ok (.aload_n 0, 1) := by decide +kernel
theorem dX9_compared_1 : decode cX9_compared 1 = .ok (.invokevirtual 227, 3) := by decide +kernel
theorem dX9_compared_4 : decode cX9_compared 4 = .ok (.aload_n 0, 1) := by decide +kernel
theorem dX9_compared_5 : decode cX9_compared 5 = .ok (.invokevirtual 200, 3) := by decide +kernel
theorem dX9_compared_8 : decode cX9_compared 8 = .ok (.istore_n 1, 1) := by decide +kernel
theorem dX9_compared_9 : decode cX9_compared 9 = .ok (.aload_n 0, 1) := by decide +kernel
theorem dX9_compared_10 : decode cX9_compared 10 = .ok (.getfield 188, 3) := by decide +kernel
theorem dX9_compared_13 : decode cX9_compared 13 = .ok (.ifCond .ge 21, 3) := by decide +kernel
theorem dX9_compared_16 : decode cX9_compared 16 = .ok (.iload_n 1, 1) := by decide +kernel
theorem dX9_compared_17 : decode cX9_compared 17 = .ok (.bipush 60, 2) := by decide +kernel
theorem dX9_compared_19 : decode cX9_compared 19 = .ok (.if_icmp .eq 16, 3) := by decide +kernel
theorem dX9_compared_22 : decode cX9_compared 22 = .ok (.iload_n 1, 1) := by decide +kernel
theorem dX9_compared_23 : decode cX9_compared 23 = .ok (.bipush 61, 2) := by decide +kernel
theorem dX9_compared_25 : decode cX9_compared 25 = .ok (.if_icmp .eq 10, 3) := by decide +kernel
theorem dX9_compared_28 : decode cX9_compared 28 = .ok (.iload_n 1, 1) := by decide +kernel
theorem dX9_compared_29 : decode cX9_compared 29 = .ok (.bipush 62, 2) := by decide +kernel
theorem dX9_compared_31 : decode cX9_compared 31 = .ok (.if_icmp .eq 4, 3) := by decide +kernel
theorem dX9_compared_34 : decode cX9_compared 34 = .ok (.return_, 1) := by decide +kernel
theorem dX9_compared_35 : decode cX9_compared 35 = .ok (.aload_n 0, 1) := by decide +kernel
theorem dX9_compared_36 : decode cX9_compared 36 = .ok (.dup, 1) := by decide +kernel
theorem dX9_compared_37 : decode cX9_compared 37 = .ok (.getfield 185, 3) := by decide +kernel
theorem dX9_compared_40 : decode cX9_compared 40 = .ok (.iconst 1, 1) := by decide +kernel
theorem dX9_compared_41 : decode cX9_compared 41 = .ok (.iadd, 1) := by decide +kernel
theorem dX9_compared_42 : decode cX9_compared 42 = .ok (.putfield 185, 3) := by decide +kernel
theorem dX9_compared_45 : decode cX9_compared 45 = .ok (.aload_n 0, 1) := by decide +kernel
theorem dX9_compared_46 : decode cX9_compared 46 = .ok (.invokevirtual 227, 3) := by decide +kernel
theorem dX9_compared_49 : decode cX9_compared 49 = .ok (.aload_n 0, 1) := by decide +kernel
theorem dX9_compared_50 : decode cX9_compared 50 = .ok (.iload_n 1, 1) := by decide +kernel
theorem dX9_compared_51 : decode cX9_compared 51 = .ok (.iconst 0, 1) := by decide +kernel
theorem dX9_compared_52 : decode cX9_compared 52 = .ok (.invokevirtual 204, 3) := by decide +kernel
theorem dX9_compared_55 : decode cX9_compared 55 = .ok (.return_, 1) := by decide +kernel
theorem dX9_both_0 : decode cX9_both 0 = .ok (.aload_n 0, 1) := by decide +kernel
theorem dX9_both_1 : decode cX9_both 1 = .ok (.invokevirtual 230, 3) := by decide +kernel
theorem dX9_both_4 : decode cX9_both 4 = .ok (.aload_n 0, 1) := by decide +kernel
theorem dX9_both_5 : decode cX9_both 5 = .ok (.getfield 188, 3) := by decide +kernel
theorem dX9_both_8 : decode cX9_both 8 = .ok (.ifCond .ge 36, 3) := by decide +kernel
theorem dX9_both_11 : decode cX9_both 11 = .ok (.aload_n 0, 1) := by decide +kernel
theorem dX9_both_12 : decode cX9_both 12 = .ok (.invokevirtual 200, 3) := by decide +kernel
theorem dX9_both_15 : decode cX9_both 15 = .ok (.bipush 38, 2) := by decide +kernel
theorem dX9_both_17 : decode cX9_both 17 = .ok (.if_icmp .ne 27, 3) := by decide +kernel
theorem dX9_both_20 : decode cX9_both 20 = .ok (.aload_n 0, 1) := by decide +kernel
theorem dX9_both_21 : decode cX9_both 21 = .ok (.dup, 1) := by decide +kernel
theorem dX9_both_22 : decode cX9_both 22 = .ok (.getfield 185, 3) := by decide +kernel
theorem dX9_both_25 : decode cX9_both 25 = .ok (.iconst 1, 1) := by decide +kernel
theorem dX9_both_26 : decode cX9_both 26 = .ok (.iadd, 1) := by decide +kernel
theorem dX9_both_27 : decode cX9_both 27 = .ok (.putfield 185, 3) := by decide +kernel
theorem dX9_both_30 : decode cX9_both 30 = .ok (.aload_n 0, 1) := by decide +kernel
theorem dX9_both_31 : decode cX9_both 31 = .ok (.invokevirtual 230, 3) := by decide +kernel
theorem dX9_both_34 : decode cX9_both 34 = .ok (.aload_n 0, 1) := by decide +kernel
theorem dX9_both_35 : decode cX9_both 35 = .ok (.bipush 38, 2) := by decide +kernel
theorem dX9_both_37 : decode cX9_both 37 = .ok (.iconst 0, 1) := by decide +kernel
theorem dX9_both_38 : decode cX9_both 38 = .ok (.invokevirtual 204, 3) := by decide +kernel
theorem dX9_both_41 : decode cX9_both 41 = .ok (.goto (-37), 3) := by decide +kernel
theorem dX9_both_44 : decode cX9_both 44 = .ok (.return_, 1) := by decide +kernel
theorem dX9_either_0 : decode cX9_either 0 = .ok (.aload_n 0, 1) := by decide +kernel
theorem dX9_either_1 : decode cX9_either 1 = .ok (.invokevirtual 233, 3) := by decide +kernel
theorem dX9_either_4 : decode cX9_either 4 = .ok (.aload_n 0, 1) := by decide +kernel
theorem dX9_either_5 : decode cX9_either 5 = .ok (.getfield 188, 3) := by decide +kernel
theorem dX9_either_8 : decode cX9_either 8 = .ok (.ifCond .ge 36, 3) := by decide +kernel
theorem dX9_either_11 : decode cX9_either 11 = .ok (.aload_n 0, 1) := by decide +kernel
theorem dX9_either_12 : decode cX9_either 12 = .ok (.invokevirtual 200, 3) := by decide +kernel
theorem dX9_either_15 : decode cX9_either 15 = .ok (.bipush 124, 2) := by decide +kernel
theorem dX9_either_17 : decode cX9_either 17 = .ok (.if_icmp .ne 27, 3) := by decide +kernel
theorem dX9_either_20 : decode cX9_either 20 = .ok (.aload_n 0, 1) := by decide +kernel
theorem dX9_either_21 : decode cX9_either 21 = .ok (.dup, 1) := by decide +kernel
theorem dX9_either_22 : decode cX9_either 22 = .ok (.getfield 185, 3) := by decide +kernel
theorem dX9_either_25 : decode cX9_either 25 = .ok (.iconst 1, 1) := by decide +kernel
theorem dX9_either_26 : decode cX9_either 26 = .ok (.iadd, 1) := by decide +kernel
theorem dX9_either_27 : decode cX9_either 27 = .ok (.putfield 185, 3) := by decide +kernel
theorem dX9_either_30 : decode cX9_either 30 = .ok (.aload_n 0, 1) := by decide +kernel
theorem dX9_either_31 : decode cX9_either 31 = .ok (.invokevirtual 233, 3) := by decide +kernel
theorem dX9_either_34 : decode cX9_either 34 = .ok (.aload_n 0, 1) := by decide +kernel
theorem dX9_either_35 : decode cX9_either 35 = .ok (.bipush 124, 2) := by decide +kernel
theorem dX9_either_37 : decode cX9_either 37 = .ok (.iconst 0, 1) := by decide +kernel
theorem dX9_either_38 : decode cX9_either 38 = .ok (.invokevirtual 204, 3) := by decide +kernel
theorem dX9_either_41 : decode cX9_either 41 = .ok (.goto (-37), 3) := by decide +kernel
theorem dX9_either_44 : decode cX9_either 44 = .ok (.return_, 1) := by decide +kernel
theorem dX9_oneLine_0 : decode cX9_oneLine 0 = .ok (.bipush 61, 2) := by decide +kernel
theorem dX9_oneLine_2 : decode cX9_oneLine 2 = .ok (.aload_n 0, 1) := by decide +kernel
theorem dX9_oneLine_3 : decode cX9_oneLine 3 = .ok (.getfield 60, 3) := by decide +kernel
theorem dX9_oneLine_6 : decode cX9_oneLine 6 = .ok (.iconst 1, 1) := by decide +kernel
theorem dX9_oneLine_7 : decode cX9_oneLine 7 = .ok (.iaload, 1) := by decide +kernel
theorem dX9_oneLine_8 : decode cX9_oneLine 8 = .ok (.iadd, 1) := by decide +kernel
theorem dX9_oneLine_9 : decode cX9_oneLine 9 = .ok (.istore_n 1, 1) := by decide +kernel
theorem dX9_oneLine_10 : decode cX9_oneLine 10 = .ok (.aload_n 0, 1) := by decide +kernel
theorem dX9_oneLine_11 : decode cX9_oneLine 11 = .ok (.getfield 63, 3) := by decide +kernel
theorem dX9_oneLine_14 : decode cX9_oneLine 14 = .ok (.iload_n 1, 1) := by decide +kernel
theorem dX9_oneLine_15 : decode cX9_oneLine 15 = .ok (.aload_n 0, 1) := by decide +kernel
theorem dX9_oneLine_16 : decode cX9_oneLine 16 = .ok (.getfield 191, 3) := by decide +kernel
theorem dX9_oneLine_19 : decode cX9_oneLine 19 = .ok (.i2s, 1) := by decide +kernel
theorem dX9_oneLine_20 : decode cX9_oneLine 20 = .ok (.sastore, 1) := by decide +kernel
theorem dX9_oneLine_21 : decode cX9_oneLine 21 = .ok (.aload_n 0, 1) := by decide +kernel
theorem dX9_oneLine_22 : decode cX9_oneLine 22 = .ok (.invokevirtual 218, 3) := by decide +kernel
theorem dX9_oneLine_25 : decode cX9_oneLine 25 = .ok (.aload_n 0, 1) := by decide +kernel
theorem dX9_oneLine_26 : decode cX9_oneLine 26 = .ok (.getfield 188, 3) := by decide +kernel
theorem dX9_oneLine_29 : decode cX9_oneLine 29 = .ok (.ifCond .ge 37, 3) := by decide +kernel
theorem dX9_oneLine_32 : decode cX9_oneLine 32 = .ok (.aload_n 0, 1) := by decide +kernel
theorem dX9_oneLine_33 : decode cX9_oneLine 33 = .ok (.invokevirtual 200, 3) := by decide +kernel
theorem dX9_oneLine_36 : decode cX9_oneLine 36 = .ok (.bipush 63, 2) := by decide +kernel
theorem dX9_oneLine_38 : decode cX9_oneLine 38 = .ok (.if_icmp .ne 28, 3) := by decide +kernel
theorem dX9_oneLine_41 : decode cX9_oneLine 41 = .ok (.aload_n 0, 1) := by decide +kernel
theorem dX9_oneLine_42 : decode cX9_oneLine 42 = .ok (.dup, 1) := by decide +kernel
theorem dX9_oneLine_43 : decode cX9_oneLine 43 = .ok (.getfield 185, 3) := by decide +kernel
theorem dX9_oneLine_46 : decode cX9_oneLine 46 = .ok (.iconst 1, 1) := by decide +kernel
theorem dX9_oneLine_47 : decode cX9_oneLine 47 = .ok (.iadd, 1) := by decide +kernel
theorem dX9_oneLine_48 : decode cX9_oneLine 48 = .ok (.putfield 185, 3) := by decide +kernel
theorem dX9_oneLine_51 : decode cX9_oneLine 51 = .ok (.aload_n 0, 1) := by decide +kernel
theorem dX9_oneLine_52 : decode cX9_oneLine 52 = .ok (.getfield 63, 3) := by decide +kernel
theorem dX9_oneLine_55 : decode cX9_oneLine 55 = .ok (.iload_n 1, 1) := by decide +kernel
theorem dX9_oneLine_56 : decode cX9_oneLine 56 = .ok (.aload_n 0, 1) := by decide +kernel
theorem dX9_oneLine_57 : decode cX9_oneLine 57 = .ok (.getfield 191, 3) := by decide +kernel
theorem dX9_oneLine_60 : decode cX9_oneLine 60 = .ok (.i2s, 1) := by decide +kernel
theorem dX9_oneLine_61 : decode cX9_oneLine 61 = .ok (.sastore, 1) := by decide +kernel
theorem dX9_oneLine_62 : decode cX9_oneLine 62 = .ok (.aload_n 0, 1) := by decide +kernel
theorem dX9_oneLine_63 : decode cX9_oneLine 63 = .ok (.invokevirtual 218, 3) := by decide +kernel
theorem dX9_oneLine_66 : decode cX9_oneLine 66 = .ok (.aload_n 0, 1) := by decide +kernel
theorem dX9_oneLine_67 : decode cX9_oneLine 67 = .ok (.getfield 67, 3) := by decide +kernel
theorem dX9_oneLine_70 : decode cX9_oneLine 70 = .ok (.iload_n 1, 1) := by decide +kernel
theorem dX9_oneLine_71 : decode cX9_oneLine 71 = .ok (.aload_n 0, 1) := by decide +kernel
theorem dX9_oneLine_72 : decode cX9_oneLine 72 = .ok (.getfield 191, 3) := by decide +kernel
theorem dX9_oneLine_75 : decode cX9_oneLine 75 = .ok (.i2s, 1) := by decide +kernel
theorem dX9_oneLine_76 : decode cX9_oneLine 76 = .ok (.sastore, 1) := by decide +kernel
theorem dX9_oneLine_77 : decode cX9_oneLine 77 = .ok (.aload_n 0, 1) := by decide +kernel
theorem dX9_oneLine_78 : decode cX9_oneLine 78 = .ok (.getfield 60, 3) := by decide +kernel
theorem dX9_oneLine_81 : decode cX9_oneLine 81 = .ok (.iconst 1, 1) := by decide +kernel
theorem dX9_oneLine_82 : decode cX9_oneLine 82 = .ok (.dup2, 1) := by decide +kernel
theorem dX9_oneLine_83 : decode cX9_oneLine 83 = .ok (.iaload, 1) := by decide +kernel
theorem dX9_oneLine_84 : decode cX9_oneLine 84 = .ok (.iconst 1, 1) := by decide +kernel
theorem dX9_oneLine_85 : decode cX9_oneLine 85 = .ok (.iadd, 1) := by decide +kernel
theorem dX9_oneLine_86 : decode cX9_oneLine 86 = .ok (.iastore, 1) := by decide +kernel
theorem dX9_oneLine_87 : decode cX9_oneLine 87 = .ok (.return_, 1) := by decide +kernel
theorem dX9_readText_0 : decode cX9_readText 0 = .ok (.aload_n 0, 1) := by decide +kernel
theorem dX9_readText_1 : decode cX9_readText 1 = .ok (.iconst 0, 1) := by decide +kernel
theorem dX9_readText_2 : decode cX9_readText 2 = .ok (.putfield 185, 3) := by decide +kernel
theorem dX9_readText_5 : decode cX9_readText 5 = .ok (.aload_n 0, 1) := by decide +kernel
theorem dX9_readText_6 : decode cX9_readText 6 = .ok (.iconst (-1), 1) := by decide +kernel
theorem dX9_readText_7 : decode cX9_readText 7 = .ok (.putfield 188, 3) := by decide +kernel
theorem dX9_readText_10 : decode cX9_readText 10 = .ok (.aload_n 0, 1) := by decide +kernel
theorem dX9_readText_11 : decode cX9_readText 11 = .ok (.iconst 0, 1) := by decide +kernel
theorem dX9_readText_12 : decode cX9_readText 12 = .ok (.putfield 194, 3) := by decide +kernel
theorem dX9_readText_15 : decode cX9_readText 15 = .ok (.aload_n 0, 1) := by decide +kernel
theorem dX9_readText_16 : decode cX9_readText 16 = .ok (.iconst 0, 1) := by decide +kernel
theorem dX9_readText_17 : decode cX9_readText 17 = .ok (.putfield 191, 3) := by decide +kernel
theorem dX9_readText_20 : decode cX9_readText 20 = .ok (.aload_n 0, 1) := by decide +kernel
theorem dX9_readText_21 : decode cX9_readText 21 = .ok (.getfield 60, 3) := by decide +kernel
theorem dX9_readText_24 : decode cX9_readText 24 = .ok (.iconst 1, 1) := by decide +kernel
theorem dX9_readText_25 : decode cX9_readText 25 = .ok (.iconst 0, 1) := by decide +kernel
theorem dX9_readText_26 : decode cX9_readText 26 = .ok (.iastore, 1) := by decide +kernel
theorem dX9_readText_27 : decode cX9_readText 27 = .ok (.aload_n 0, 1) := by decide +kernel
theorem dX9_readText_28 : decode cX9_readText 28 = .ok (.invokevirtual 236, 3) := by decide +kernel
theorem dX9_readText_31 : decode cX9_readText 31 = .ok (.aload_n 0, 1) := by decide +kernel
theorem dX9_readText_32 : decode cX9_readText 32 = .ok (.getfield 188, 3) := by decide +kernel
theorem dX9_readText_35 : decode cX9_readText 35 = .ok (.ifCond .ge 29, 3) := by decide +kernel
theorem dX9_readText_38 : decode cX9_readText 38 = .ok (.aload_n 0, 1) := by decide +kernel
theorem dX9_readText_39 : decode cX9_readText 39 = .ok (.invokevirtual 200, 3) := by decide +kernel
theorem dX9_readText_42 : decode cX9_readText 42 = .ok (.bipush 59, 2) := by decide +kernel
theorem dX9_readText_44 : decode cX9_readText 44 = .ok (.if_icmp .ne 20, 3) := by decide +kernel
theorem dX9_readText_47 : decode cX9_readText 47 = .ok (.aload_n 0, 1) := by decide +kernel
theorem dX9_readText_48 : decode cX9_readText 48 = .ok (.dup, 1) := by decide +kernel
theorem dX9_readText_49 : decode cX9_readText 49 = .ok (.getfield 185, 3) := by decide +kernel
theorem dX9_readText_52 : decode cX9_readText 52 = .ok (.iconst 1, 1) := by decide +kernel
theorem dX9_readText_53 : decode cX9_readText 53 = .ok (.iadd, 1) := by decide +kernel
theorem dX9_readText_54 : decode cX9_readText 54 = .ok (.putfield 185, 3) := by decide +kernel
theorem dX9_readText_57 : decode cX9_readText 57 = .ok (.aload_n 0, 1) := by decide +kernel
theorem dX9_readText_58 : decode cX9_readText 58 = .ok (.invokevirtual 236, 3) := by decide +kernel
theorem dX9_readText_61 : decode cX9_readText 61 = .ok (.goto (-30), 3) := by decide +kernel
theorem dX9_readText_64 : decode cX9_readText 64 = .ok (.aload_n 0, 1) := by decide +kernel
theorem dX9_readText_65 : decode cX9_readText 65 = .ok (.getfield 188, 3) := by decide +kernel
theorem dX9_readText_68 : decode cX9_readText 68 = .ok (.ifCond .ge 18, 3) := by decide +kernel
theorem dX9_readText_71 : decode cX9_readText 71 = .ok (.aload_n 0, 1) := by decide +kernel
theorem dX9_readText_72 : decode cX9_readText 72 = .ok (.getfield 185, 3) := by decide +kernel
theorem dX9_readText_75 : decode cX9_readText 75 = .ok (.aload_n 0, 1) := by decide +kernel
theorem dX9_readText_76 : decode cX9_readText 76 = .ok (.getfield 182, 3) := by decide +kernel
theorem dX9_readText_79 : decode cX9_readText 79 = .ok (.if_icmp .ge 7, 3) := by decide +kernel
theorem dX9_readText_82 : decode cX9_readText 82 = .ok (.aload_n 0, 1) := by decide +kernel
theorem dX9_readText_83 : decode cX9_readText 83 = .ok (.invokevirtual 197, 3) := by decide +kernel
theorem dX9_readText_86 : decode cX9_readText 86 = .ok (.aload_n 0, 1) := by decide +kernel
theorem dX9_readText_87 : decode cX9_readText 87 = .ok (.iconst 0, 1) := by decide +kernel
theorem dX9_readText_88 : decode cX9_readText 88 = .ok (.putfield 182, 3) := by decide +kernel
theorem dX9_readText_91 : decode cX9_readText 91 = .ok (.aload_n 0, 1) := by decide +kernel
theorem dX9_readText_92 : decode cX9_readText 92 = .ok (.getfield 188, 3) := by decide +kernel
theorem dX9_readText_95 : decode cX9_readText 95 = .ok (.ifCond .lt 8, 3) := by decide +kernel
theorem dX9_readText_98 : decode cX9_readText 98 = .ok (.aload_n 0, 1) := by decide +kernel
theorem dX9_readText_99 : decode cX9_readText 99 = .ok (.getfield 188, 3) := by decide +kernel
theorem dX9_readText_102 : decode cX9_readText 102 = .ok (.ireturn, 1) := by decide +kernel
theorem dX9_readText_103 : decode cX9_readText 103 = .ok (.iconst 0, 1) := by decide +kernel
theorem dX9_readText_104 : decode cX9_readText 104 = .ok (.istore_n 2, 1) := by decide +kernel
theorem dX9_readText_105 : decode cX9_readText 105 = .ok (.iload_n 2, 1) := by decide +kernel
theorem dX9_readText_106 : decode cX9_readText 106 = .ok (.aload_n 0, 1) := by decide +kernel
theorem dX9_readText_107 : decode cX9_readText 107 = .ok (.getfield 191, 3) := by decide +kernel
theorem dX9_readText_110 : decode cX9_readText 110 = .ok (.if_icmp .ge 53, 3) := by decide +kernel
theorem dX9_readText_113 : decode cX9_readText 113 = .ok (.aload_n 0, 1) := by decide +kernel
theorem dX9_readText_114 : decode cX9_readText 114 = .ok (.getfield 54, 3) := by decide +kernel
theorem dX9_readText_117 : decode cX9_readText 117 = .ok (.sipush 130, 3) := by decide +kernel
theorem dX9_readText_120 : decode cX9_readText 120 = .ok (.iload_n 1, 1) := by decide +kernel
theorem dX9_readText_121 : decode cX9_readText 121 = .ok (.imul, 1) := by decide +kernel
theorem dX9_readText_122 : decode cX9_readText 122 = .ok (.iload_n 2, 1) := by decide +kernel
theorem dX9_readText_123 : decode cX9_readText 123 = .ok (.iadd, 1) := by decide +kernel
theorem dX9_readText_124 : decode cX9_readText 124 = .ok (.aload_n 0, 1) := by decide +kernel
theorem dX9_readText_125 : decode cX9_readText 125 = .ok (.getfield 54, 3) := by decide +kernel
theorem dX9_readText_128 : decode cX9_readText 128 = .ok (.sipush 130, 3) := by decide +kernel
theorem dX9_readText_131 : decode cX9_readText 131 = .ok (.iload_n 2, 1) := by decide +kernel
theorem dX9_readText_132 : decode cX9_readText 132 = .ok (.iadd, 1) := by decide +kernel
theorem dX9_readText_133 : decode cX9_readText 133 = .ok (.baload, 1) := by decide +kernel
theorem dX9_readText_134 : decode cX9_readText 134 = .ok (.bastore, 1) := by decide +kernel
theorem dX9_readText_135 : decode cX9_readText 135 = .ok (.aload_n 0, 1) := by decide +kernel
theorem dX9_readText_136 : decode cX9_readText 136 = .ok (.getfield 57, 3) := by decide +kernel
theorem dX9_readText_139 : decode cX9_readText 139 = .ok (.sipush 130, 3) := by decide +kernel
theorem dX9_readText_142 : decode cX9_readText 142 = .ok (.iload_n 1, 1) := by decide +kernel
theorem dX9_readText_143 : decode cX9_readText 143 = .ok (.imul, 1) := by decide +kernel
theorem dX9_readText_144 : decode cX9_readText 144 = .ok (.iload_n 2, 1) := by decide +kernel
theorem dX9_readText_145 : decode cX9_readText 145 = .ok (.iadd, 1) := by decide +kernel
theorem dX9_readText_146 : decode cX9_readText 146 = .ok (.aload_n 0, 1) := by decide +kernel
theorem dX9_readText_147 : decode cX9_readText 147 = .ok (.getfield 57, 3) := by decide +kernel
theorem dX9_readText_150 : decode cX9_readText 150 = .ok (.sipush 130, 3) := by decide +kernel
theorem dX9_readText_153 : decode cX9_readText 153 = .ok (.iload_n 2, 1) := by decide +kernel
theorem dX9_readText_154 : decode cX9_readText 154 = .ok (.iadd, 1) := by decide +kernel
theorem dX9_readText_155 : decode cX9_readText 155 = .ok (.iaload, 1) := by decide +kernel
theorem dX9_readText_156 : decode cX9_readText 156 = .ok (.iastore, 1) := by decide +kernel
theorem dX9_readText_157 : decode cX9_readText 157 = .ok (.iinc 2 1, 3) := by decide +kernel
theorem dX9_readText_160 : decode cX9_readText 160 = .ok (.goto (-55), 3) := by decide +kernel
theorem dX9_readText_163 : decode cX9_readText 163 = .ok (.aload_n 0, 1) := by decide +kernel
theorem dX9_readText_164 : decode cX9_readText 164 = .ok (.getfield 60, 3) := by decide +kernel
theorem dX9_readText_167 : decode cX9_readText 167 = .ok (.iload_n 1, 1) := by decide +kernel
theorem dX9_readText_168 : decode cX9_readText 168 = .ok (.aload_n 0, 1) := by decide +kernel
theorem dX9_readText_169 : decode cX9_readText 169 = .ok (.getfield 60, 3) := by decide +kernel
theorem dX9_readText_172 : decode cX9_readText 172 = .ok (.iconst 1, 1) := by decide +kernel
theorem dX9_readText_173 : decode cX9_readText 173 = .ok (.iaload, 1) := by decide +kernel
theorem dX9_readText_174 : decode cX9_readText 174 = .ok (.iastore, 1) := by decide +kernel
theorem dX9_readText_175 : decode cX9_readText 175 = .ok (.iconst 0, 1) := by decide +kernel
theorem dX9_readText_176 : decode cX9_readText 176 = .ok (.istore_n 2, 1) := by decide +kernel
theorem dX9_readText_177 : decode cX9_readText 177 = .ok (.iload_n 2, 1) := by decide +kernel
theorem dX9_readText_178 : decode cX9_readText 178 = .ok (.aload_n 0, 1) := by decide +kernel
theorem dX9_readText_179 : decode cX9_readText 179 = .ok (.getfield 60, 3) := by decide +kernel
theorem dX9_readText_182 : decode cX9_readText 182 = .ok (.iload_n 1, 1) := by decide +kernel
theorem dX9_readText_183 : decode cX9_readText 183 = .ok (.iaload, 1) := by decide +kernel
theorem dX9_readText_184 : decode cX9_readText 184 = .ok (.if_icmp .ge 49, 3) := by decide +kernel
theorem dX9_readText_187 : decode cX9_readText 187 = .ok (.aload_n 0, 1) := by decide +kernel
theorem dX9_readText_188 : decode cX9_readText 188 = .ok (.getfield 63, 3) := by decide +kernel
theorem dX9_readText_191 : decode cX9_readText 191 = .ok (.bipush 61, 2) := by decide +kernel
theorem dX9_readText_193 : decode cX9_readText 193 = .ok (.iload_n 1, 1) := by decide +kernel
theorem dX9_readText_194 : decode cX9_readText 194 = .ok (.imul, 1) := by decide +kernel
theorem dX9_readText_195 : decode cX9_readText 195 = .ok (.iload_n 2, 1) := by decide +kernel
theorem dX9_readText_196 : decode cX9_readText 196 = .ok (.iadd, 1) := by decide +kernel
theorem dX9_readText_197 : decode cX9_readText 197 = .ok (.aload_n 0, 1) := by decide +kernel
theorem dX9_readText_198 : decode cX9_readText 198 = .ok (.getfield 63, 3) := by decide +kernel
theorem dX9_readText_201 : decode cX9_readText 201 = .ok (.bipush 61, 2) := by decide +kernel
theorem dX9_readText_203 : decode cX9_readText 203 = .ok (.iload_n 2, 1) := by decide +kernel
theorem dX9_readText_204 : decode cX9_readText 204 = .ok (.iadd, 1) := by decide +kernel
theorem dX9_readText_205 : decode cX9_readText 205 = .ok (.saload, 1) := by decide +kernel
theorem dX9_readText_206 : decode cX9_readText 206 = .ok (.sastore, 1) := by decide +kernel
theorem dX9_readText_207 : decode cX9_readText 207 = .ok (.aload_n 0, 1) := by decide +kernel
theorem dX9_readText_208 : decode cX9_readText 208 = .ok (.getfield 67, 3) := by decide +kernel
theorem dX9_readText_211 : decode cX9_readText 211 = .ok (.bipush 61, 2) := by decide +kernel
theorem dX9_readText_213 : decode cX9_readText 213 = .ok (.iload_n 1, 1) := by decide +kernel
theorem dX9_readText_214 : decode cX9_readText 214 = .ok (.imul, 1) := by decide +kernel
theorem dX9_readText_215 : decode cX9_readText 215 = .ok (.iload_n 2, 1) := by decide +kernel
theorem dX9_readText_216 : decode cX9_readText 216 = .ok (.iadd, 1) := by decide +kernel
theorem dX9_readText_217 : decode cX9_readText 217 = .ok (.aload_n 0, 1) := by decide +kernel
theorem dX9_readText_218 : decode cX9_readText 218 = .ok (.getfield 67, 3) := by decide +kernel
theorem dX9_readText_221 : decode cX9_readText 221 = .ok (.bipush 61, 2) := by decide +kernel
theorem dX9_readText_223 : decode cX9_readText 223 = .ok (.iload_n 2, 1) := by decide +kernel
theorem dX9_readText_224 : decode cX9_readText 224 = .ok (.iadd, 1) := by decide +kernel
theorem dX9_readText_225 : decode cX9_readText 225 = .ok (.saload, 1) := by decide +kernel
theorem dX9_readText_226 : decode cX9_readText 226 = .ok (.sastore, 1) := by decide +kernel
theorem dX9_readText_227 : decode cX9_readText 227 = .ok (.iinc 2 1, 3) := by decide +kernel
theorem dX9_readText_230 : decode cX9_readText 230 = .ok (.goto (-53), 3) := by decide +kernel
theorem dX9_readText_233 : decode cX9_readText 233 = .ok (.iconst (-1), 1) := by decide +kernel
theorem dX9_readText_234 : decode cX9_readText 234 = .ok (.ireturn, 1) := by decide +kernel
theorem dX9_twoOf_0 : decode cX9_twoOf 0 = .ok (.iload_n 0, 1) := by decide +kernel
theorem dX9_twoOf_1 : decode cX9_twoOf 1 = .ok (.tableswitch 217 37 62 #[153, 203, 217, 217, 217, 127, 119, 217, 123, 217, 131, 217, 217, 217, 217, 217, 217, 217, 217, 217, 217, 217, 217, 170, 181, 192], 119) := by decide +kernel
theorem dX9_twoOf_120 : decode cX9_twoOf 120 = .ok (.iload_n 1, 1) := by decide +kernel
theorem dX9_twoOf_121 : decode cX9_twoOf 121 = .ok (.iload_n 2, 1) := by decide +kernel
theorem dX9_twoOf_122 : decode cX9_twoOf 122 = .ok (.iadd, 1) := by decide +kernel
theorem dX9_twoOf_123 : decode cX9_twoOf 123 = .ok (.ireturn, 1) := by decide +kernel
theorem dX9_twoOf_124 : decode cX9_twoOf 124 = .ok (.iload_n 1, 1) := by decide +kernel
theorem dX9_twoOf_125 : decode cX9_twoOf 125 = .ok (.iload_n 2, 1) := by decide +kernel
theorem dX9_twoOf_126 : decode cX9_twoOf 126 = .ok (.isub, 1) := by decide +kernel
theorem dX9_twoOf_127 : decode cX9_twoOf 127 = .ok (.ireturn, 1) := by decide +kernel
theorem dX9_twoOf_128 : decode cX9_twoOf 128 = .ok (.iload_n 1, 1) := by decide +kernel
theorem dX9_twoOf_129 : decode cX9_twoOf 129 = .ok (.iload_n 2, 1) := by decide +kernel
theorem dX9_twoOf_130 : decode cX9_twoOf 130 = .ok (.imul, 1) := by decide +kernel
theorem dX9_twoOf_131 : decode cX9_twoOf 131 = .ok (.ireturn, 1) := by decide +kernel
theorem dX9_twoOf_132 : decode cX9_twoOf 132 = .ok (.iload_n 2, 1) := by decide +kernel
theorem dX9_twoOf_133 : decode cX9_twoOf 133 = .ok (.ifCond .ne 7, 3) := by decide +kernel
theorem dX9_twoOf_136 : decode cX9_twoOf 136 = .ok (.iconst 0, 1) := by decide +kernel
theorem dX9_twoOf_137 : decode cX9_twoOf 137 = .ok (.goto 16, 3) := by decide +kernel
theorem dX9_twoOf_140 : decode cX9_twoOf 140 = .ok (.iload_n 2, 1) := by decide +kernel
theorem dX9_twoOf_141 : decode cX9_twoOf 141 = .ok (.iconst (-1), 1) := by decide +kernel
theorem dX9_twoOf_142 : decode cX9_twoOf 142 = .ok (.if_icmp .ne 8, 3) := by decide +kernel
theorem dX9_twoOf_145 : decode cX9_twoOf 145 = .ok (.iload_n 1, 1) := by decide +kernel
theorem dX9_twoOf_146 : decode cX9_twoOf 146 = .ok (.ineg, 1) := by decide +kernel
theorem dX9_twoOf_147 : decode cX9_twoOf 147 = .ok (.goto 6, 3) := by decide +kernel
theorem dX9_twoOf_150 : decode cX9_twoOf 150 = .ok (.iload_n 1, 1) := by decide +kernel
theorem dX9_twoOf_151 : decode cX9_twoOf 151 = .ok (.iload_n 2, 1) := by decide +kernel
theorem dX9_twoOf_152 : decode cX9_twoOf 152 = .ok (.idiv, 1) := by decide +kernel
theorem dX9_twoOf_153 : decode cX9_twoOf 153 = .ok (.ireturn, 1) := by decide +kernel
theorem dX9_twoOf_154 : decode cX9_twoOf 154 = .ok (.iload_n 2, 1) := by decide +kernel
theorem dX9_twoOf_155 : decode cX9_twoOf 155 = .ok (.ifCond .eq 8, 3) := by decide +kernel
theorem dX9_twoOf_158 : decode cX9_twoOf 158 = .ok (.iload_n 2, 1) := by decide +kernel
theorem dX9_twoOf_159 : decode cX9_twoOf 159 = .ok (.iconst (-1), 1) := by decide +kernel
theorem dX9_twoOf_160 : decode cX9_twoOf 160 = .ok (.if_icmp .ne 7, 3) := by decide +kernel
theorem dX9_twoOf_163 : decode cX9_twoOf 163 = .ok (.iconst 0, 1) := by decide +kernel
theorem dX9_twoOf_164 : decode cX9_twoOf 164 = .ok (.goto 6, 3) := by decide +kernel
theorem dX9_twoOf_167 : decode cX9_twoOf 167 = .ok (.iload_n 1, 1) := by decide +kernel
theorem dX9_twoOf_168 : decode cX9_twoOf 168 = .ok (.iload_n 2, 1) := by decide +kernel
theorem dX9_twoOf_169 : decode cX9_twoOf 169 = .ok (.irem, 1) := by decide +kernel
theorem dX9_twoOf_170 : decode cX9_twoOf 170 = .ok (.ireturn, 1) := by decide +kernel
theorem dX9_twoOf_171 : decode cX9_twoOf 171 = .ok (.iload_n 1, 1) := by decide +kernel
theorem dX9_twoOf_172 : decode cX9_twoOf 172 = .ok (.iload_n 2, 1) := by decide +kernel
theorem dX9_twoOf_173 : decode cX9_twoOf 173 = .ok (.if_icmp .ge 7, 3) := by decide +kernel
theorem dX9_twoOf_176 : decode cX9_twoOf 176 = .ok (.iconst 1, 1) := by decide +kernel
theorem dX9_twoOf_177 : decode cX9_twoOf 177 = .ok (.goto 4, 3) := by decide +kernel
theorem dX9_twoOf_180 : decode cX9_twoOf 180 = .ok (.iconst 0, 1) := by decide +kernel
theorem dX9_twoOf_181 : decode cX9_twoOf 181 = .ok (.ireturn, 1) := by decide +kernel
theorem dX9_twoOf_182 : decode cX9_twoOf 182 = .ok (.iload_n 1, 1) := by decide +kernel
theorem dX9_twoOf_183 : decode cX9_twoOf 183 = .ok (.iload_n 2, 1) := by decide +kernel
theorem dX9_twoOf_184 : decode cX9_twoOf 184 = .ok (.if_icmp .ne 7, 3) := by decide +kernel
theorem dX9_twoOf_187 : decode cX9_twoOf 187 = .ok (.iconst 1, 1) := by decide +kernel
theorem dX9_twoOf_188 : decode cX9_twoOf 188 = .ok (.goto 4, 3) := by decide +kernel
theorem dX9_twoOf_191 : decode cX9_twoOf 191 = .ok (.iconst 0, 1) := by decide +kernel
theorem dX9_twoOf_192 : decode cX9_twoOf 192 = .ok (.ireturn, 1) := by decide +kernel
theorem dX9_twoOf_193 : decode cX9_twoOf 193 = .ok (.iload_n 1, 1) := by decide +kernel
theorem dX9_twoOf_194 : decode cX9_twoOf 194 = .ok (.iload_n 2, 1) := by decide +kernel
theorem dX9_twoOf_195 : decode cX9_twoOf 195 = .ok (.if_icmp .le 7, 3) := by decide +kernel
theorem dX9_twoOf_198 : decode cX9_twoOf 198 = .ok (.iconst 1, 1) := by decide +kernel
theorem dX9_twoOf_199 : decode cX9_twoOf 199 = .ok (.goto 4, 3) := by decide +kernel
theorem dX9_twoOf_202 : decode cX9_twoOf 202 = .ok (.iconst 0, 1) := by decide +kernel
theorem dX9_twoOf_203 : decode cX9_twoOf 203 = .ok (.ireturn, 1) := by decide +kernel
theorem dX9_twoOf_204 : decode cX9_twoOf 204 = .ok (.iload_n 1, 1) := by decide +kernel
theorem dX9_twoOf_205 : decode cX9_twoOf 205 = .ok (.ifCond .eq 11, 3) := by decide +kernel
theorem dX9_twoOf_208 : decode cX9_twoOf 208 = .ok (.iload_n 2, 1) := by decide +kernel
theorem dX9_twoOf_209 : decode cX9_twoOf 209 = .ok (.ifCond .eq 7, 3) := by decide +kernel
theorem dX9_twoOf_212 : decode cX9_twoOf 212 = .ok (.iconst 1, 1) := by decide +kernel
theorem dX9_twoOf_213 : decode cX9_twoOf 213 = .ok (.goto 4, 3) := by decide +kernel
theorem dX9_twoOf_216 : decode cX9_twoOf 216 = .ok (.iconst 0, 1) := by decide +kernel
theorem dX9_twoOf_217 : decode cX9_twoOf 217 = .ok (.ireturn, 1) := by decide +kernel
theorem dX9_twoOf_218 : decode cX9_twoOf 218 = .ok (.iload_n 1, 1) := by decide +kernel
theorem dX9_twoOf_219 : decode cX9_twoOf 219 = .ok (.ifCond .ne 7, 3) := by decide +kernel
theorem dX9_twoOf_222 : decode cX9_twoOf 222 = .ok (.iload_n 2, 1) := by decide +kernel
theorem dX9_twoOf_223 : decode cX9_twoOf 223 = .ok (.ifCond .eq 7, 3) := by decide +kernel
theorem dX9_twoOf_226 : decode cX9_twoOf 226 = .ok (.iconst 1, 1) := by decide +kernel
theorem dX9_twoOf_227 : decode cX9_twoOf 227 = .ok (.goto 4, 3) := by decide +kernel
theorem dX9_twoOf_230 : decode cX9_twoOf 230 = .ok (.iconst 0, 1) := by decide +kernel
theorem dX9_twoOf_231 : decode cX9_twoOf 231 = .ok (.ireturn, 1) := by decide +kernel
theorem dX9_worked_0 : decode cX9_worked 0 = .ok (.iconst 0, 1) := by decide +kernel
theorem dX9_worked_1 : decode cX9_worked 1 = .ok (.istore 4, 2) := by decide +kernel
theorem dX9_worked_3 : decode cX9_worked 3 = .ok (.sipush 130, 3) := by decide +kernel
theorem dX9_worked_6 : decode cX9_worked 6 = .ok (.iload_n 1, 1) := by decide +kernel
theorem dX9_worked_7 : decode cX9_worked 7 = .ok (.imul, 1) := by decide +kernel
theorem dX9_worked_8 : decode cX9_worked 8 = .ok (.iload_n 2, 1) := by decide +kernel
theorem dX9_worked_9 : decode cX9_worked 9 = .ok (.iadd, 1) := by decide +kernel
theorem dX9_worked_10 : decode cX9_worked 10 = .ok (.istore 5, 2) := by decide +kernel
theorem dX9_worked_12 : decode cX9_worked 12 = .ok (.iload 5, 2) := by decide +kernel
theorem dX9_worked_14 : decode cX9_worked 14 = .ok (.sipush 130, 3) := by decide +kernel
theorem dX9_worked_17 : decode cX9_worked 17 = .ok (.iload_n 1, 1) := by decide +kernel
theorem dX9_worked_18 : decode cX9_worked 18 = .ok (.imul, 1) := by decide +kernel
theorem dX9_worked_19 : decode cX9_worked 19 = .ok (.iload_n 3, 1) := by decide +kernel
theorem dX9_worked_20 : decode cX9_worked 20 = .ok (.iadd, 1) := by decide +kernel
theorem dX9_worked_21 : decode cX9_worked 21 = .ok (.if_icmp .ge 167, 3) := by decide +kernel
theorem dX9_worked_24 : decode cX9_worked 24 = .ok (.aload_n 0, 1) := by decide +kernel
theorem dX9_worked_25 : decode cX9_worked 25 = .ok (.getfield 54, 3) := by decide +kernel
theorem dX9_worked_28 : decode cX9_worked 28 = .ok (.iload 5, 2) := by decide +kernel
theorem dX9_worked_30 : decode cX9_worked 30 = .ok (.baload, 1) := by decide +kernel
theorem dX9_worked_31 : decode cX9_worked 31 = .ok (.istore 6, 2) := by decide +kernel
theorem dX9_worked_33 : decode cX9_worked 33 = .ok (.iload 6, 2) := by decide +kernel
theorem dX9_worked_35 : decode cX9_worked 35 = .ok (.iconst 1, 1) := by decide +kernel
theorem dX9_worked_36 : decode cX9_worked 36 = .ok (.if_icmp .eq 9, 3) := by decide +kernel
theorem dX9_worked_39 : decode cX9_worked 39 = .ok (.iload 6, 2) := by decide +kernel
theorem dX9_worked_41 : decode cX9_worked 41 = .ok (.iconst 2, 1) := by decide +kernel
theorem dX9_worked_42 : decode cX9_worked 42 = .ok (.if_icmp .ne 44, 3) := by decide +kernel
theorem dX9_worked_45 : decode cX9_worked 45 = .ok (.aload_n 0, 1) := by decide +kernel
theorem dX9_worked_46 : decode cX9_worked 46 = .ok (.getfield 73, 3) := by decide +kernel
theorem dX9_worked_49 : decode cX9_worked 49 = .ok (.iload 4, 2) := by decide +kernel
theorem dX9_worked_51 : decode cX9_worked 51 = .ok (.iload 6, 2) := by decide +kernel
theorem dX9_worked_53 : decode cX9_worked 53 = .ok (.iconst 1, 1) := by decide +kernel
theorem dX9_worked_54 : decode cX9_worked 54 = .ok (.if_icmp .ne 13, 3) := by decide +kernel
theorem dX9_worked_57 : decode cX9_worked 57 = .ok (.aload_n 0, 1) := by decide +kernel
theorem dX9_worked_58 : decode cX9_worked 58 = .ok (.getfield 57, 3) := by decide +kernel
theorem dX9_worked_61 : decode cX9_worked 61 = .ok (.iload 5, 2) := by decide +kernel
theorem dX9_worked_63 : decode cX9_worked 63 = .ok (.iaload, 1) := by decide +kernel
theorem dX9_worked_64 : decode cX9_worked 64 = .ok (.goto 15, 3) := by decide +kernel
theorem dX9_worked_67 : decode cX9_worked 67 = .ok (.aload_n 0, 1) := by decide +kernel
theorem dX9_worked_68 : decode cX9_worked 68 = .ok (.getfield 70, 3) := by decide +kernel
theorem dX9_worked_71 : decode cX9_worked 71 = .ok (.aload_n 0, 1) := by decide +kernel
theorem dX9_worked_72 : decode cX9_worked 72 = .ok (.getfield 57, 3) := by decide +kernel
theorem dX9_worked_75 : decode cX9_worked 75 = .ok (.iload 5, 2) := by decide +kernel
theorem dX9_worked_77 : decode cX9_worked 77 = .ok (.iaload, 1) := by decide +kernel
theorem dX9_worked_78 : decode cX9_worked 78 = .ok (.iaload, 1) := by decide +kernel
theorem dX9_worked_79 : decode cX9_worked 79 = .ok (.iastore, 1) := by decide +kernel
theorem dX9_worked_80 : decode cX9_worked 80 = .ok (.iinc 4 1, 3) := by decide +kernel
theorem dX9_worked_83 : decode cX9_worked 83 = .ok (.goto 99, 3) := by decide +kernel
theorem dX9_worked_86 : decode cX9_worked 86 = .ok (.iload 6, 2) := by decide +kernel
theorem dX9_worked_88 : decode cX9_worked 88 = .ok (.iconst 3, 1) := by decide +kernel
theorem dX9_worked_89 : decode cX9_worked 89 = .ok (.if_icmp .ne 32, 3) := by decide +kernel
theorem dX9_worked_92 : decode cX9_worked 92 = .ok (.aload_n 0, 1) := by decide +kernel
theorem dX9_worked_93 : decode cX9_worked 93 = .ok (.getfield 73, 3) := by decide +kernel
theorem dX9_worked_96 : decode cX9_worked 96 = .ok (.iload 4, 2) := by decide +kernel
theorem dX9_worked_98 : decode cX9_worked 98 = .ok (.iconst 1, 1) := by decide +kernel
theorem dX9_worked_99 : decode cX9_worked 99 = .ok (.isub, 1) := by decide +kernel
theorem dX9_worked_100 : decode cX9_worked 100 = .ok (.aload_n 0, 1) := by decide +kernel
theorem dX9_worked_101 : decode cX9_worked 101 = .ok (.getfield 73, 3) := by decide +kernel
theorem dX9_worked_104 : decode cX9_worked 104 = .ok (.iload 4, 2) := by decide +kernel
theorem dX9_worked_106 : decode cX9_worked 106 = .ok (.iconst 1, 1) := by decide +kernel
theorem dX9_worked_107 : decode cX9_worked 107 = .ok (.isub, 1) := by decide +kernel
theorem dX9_worked_108 : decode cX9_worked 108 = .ok (.iaload, 1) := by decide +kernel
theorem dX9_worked_109 : decode cX9_worked 109 = .ok (.ifCond .ne 7, 3) := by decide +kernel
theorem dX9_worked_112 : decode cX9_worked 112 = .ok (.iconst 1, 1) := by decide +kernel
theorem dX9_worked_113 : decode cX9_worked 113 = .ok (.goto 4, 3) := by decide +kernel
theorem dX9_worked_116 : decode cX9_worked 116 = .ok (.iconst 0, 1) := by decide +kernel
theorem dX9_worked_117 : decode cX9_worked 117 = .ok (.iastore, 1) := by decide +kernel
theorem dX9_worked_118 : decode cX9_worked 118 = .ok (.goto 64, 3) := by decide +kernel
theorem dX9_worked_121 : decode cX9_worked 121 = .ok (.iload 6, 2) := by decide +kernel
theorem dX9_worked_123 : decode cX9_worked 123 = .ok (.iconst 4, 1) := by decide +kernel
theorem dX9_worked_124 : decode cX9_worked 124 = .ok (.if_icmp .ne 25, 3) := by decide +kernel
theorem dX9_worked_127 : decode cX9_worked 127 = .ok (.aload_n 0, 1) := by decide +kernel
theorem dX9_worked_128 : decode cX9_worked 128 = .ok (.getfield 73, 3) := by decide +kernel
theorem dX9_worked_131 : decode cX9_worked 131 = .ok (.iload 4, 2) := by decide +kernel
theorem dX9_worked_133 : decode cX9_worked 133 = .ok (.iconst 1, 1) := by decide +kernel
theorem dX9_worked_134 : decode cX9_worked 134 = .ok (.isub, 1) := by decide +kernel
theorem dX9_worked_135 : decode cX9_worked 135 = .ok (.aload_n 0, 1) := by decide +kernel
theorem dX9_worked_136 : decode cX9_worked 136 = .ok (.getfield 73, 3) := by decide +kernel
theorem dX9_worked_139 : decode cX9_worked 139 = .ok (.iload 4, 2) := by decide +kernel
theorem dX9_worked_141 : decode cX9_worked 141 = .ok (.iconst 1, 1) := by decide +kernel
theorem dX9_worked_142 : decode cX9_worked 142 = .ok (.isub, 1) := by decide +kernel
theorem dX9_worked_143 : decode cX9_worked 143 = .ok (.iaload, 1) := by decide +kernel
theorem dX9_worked_144 : decode cX9_worked 144 = .ok (.ineg, 1) := by decide +kernel
theorem dX9_worked_145 : decode cX9_worked 145 = .ok (.iastore, 1) := by decide +kernel
theorem dX9_worked_146 : decode cX9_worked 146 = .ok (.goto 36, 3) := by decide +kernel
theorem dX9_worked_149 : decode cX9_worked 149 = .ok (.iinc 4 (-1), 3) := by decide +kernel
theorem dX9_worked_152 : decode cX9_worked 152 = .ok (.aload_n 0, 1) := by decide +kernel
theorem dX9_worked_153 : decode cX9_worked 153 = .ok (.getfield 73, 3) := by decide +kernel
theorem dX9_worked_156 : decode cX9_worked 156 = .ok (.iload 4, 2) := by decide +kernel
theorem dX9_worked_158 : decode cX9_worked 158 = .ok (.iconst 1, 1) := by decide +kernel
theorem dX9_worked_159 : decode cX9_worked 159 = .ok (.isub, 1) := by decide +kernel
theorem dX9_worked_160 : decode cX9_worked 160 = .ok (.iload 6, 2) := by decide +kernel
theorem dX9_worked_162 : decode cX9_worked 162 = .ok (.aload_n 0, 1) := by decide +kernel
theorem dX9_worked_163 : decode cX9_worked 163 = .ok (.getfield 73, 3) := by decide +kernel
theorem dX9_worked_166 : decode cX9_worked 166 = .ok (.iload 4, 2) := by decide +kernel
theorem dX9_worked_168 : decode cX9_worked 168 = .ok (.iconst 1, 1) := by decide +kernel
theorem dX9_worked_169 : decode cX9_worked 169 = .ok (.isub, 1) := by decide +kernel
theorem dX9_worked_170 : decode cX9_worked 170 = .ok (.iaload, 1) := by decide +kernel
theorem dX9_worked_171 : decode cX9_worked 171 = .ok (.aload_n 0, 1) := by decide +kernel
theorem dX9_worked_172 : decode cX9_worked 172 = .ok (.getfield 73, 3) := by decide +kernel
theorem dX9_worked_175 : decode cX9_worked 175 = .ok (.iload 4, 2) := by decide +kernel
theorem dX9_worked_177 : decode cX9_worked 177 = .ok (.iaload, 1) := by decide +kernel
theorem dX9_worked_178 : decode cX9_worked 178 = .ok (.invokestatic 239, 3) := by decide +kernel
theorem dX9_worked_181 : decode cX9_worked 181 = .ok (.iastore, 1) := by decide +kernel
theorem dX9_worked_182 : decode cX9_worked 182 = .ok (.iinc 5 1, 3) := by decide +kernel
theorem dX9_worked_185 : decode cX9_worked 185 = .ok (.goto (-173), 3) := by decide +kernel
theorem dX9_worked_188 : decode cX9_worked 188 = .ok (.aload_n 0, 1) := by decide +kernel
theorem dX9_worked_189 : decode cX9_worked 189 = .ok (.getfield 73, 3) := by decide +kernel
theorem dX9_worked_192 : decode cX9_worked 192 = .ok (.iconst 0, 1) := by decide +kernel
theorem dX9_worked_193 : decode cX9_worked 193 = .ok (.iaload, 1) := by decide +kernel
theorem dX9_worked_194 : decode cX9_worked 194 = .ok (.ireturn, 1) := by decide +kernel
theorem dX9_gives_0 : decode cX9_gives 0 = .ok (.iconst 0, 1) := by decide +kernel
theorem dX9_gives_1 : decode cX9_gives 1 = .ok (.istore_n 2, 1) := by decide +kernel
theorem dX9_gives_2 : decode cX9_gives 2 = .ok (.bipush 61, 2) := by decide +kernel
theorem dX9_gives_4 : decode cX9_gives 4 = .ok (.iload_n 1, 1) := by decide +kernel
theorem dX9_gives_5 : decode cX9_gives 5 = .ok (.imul, 1) := by decide +kernel
theorem dX9_gives_6 : decode cX9_gives 6 = .ok (.istore_n 3, 1) := by decide +kernel
theorem dX9_gives_7 : decode cX9_gives 7 = .ok (.iload_n 3, 1) := by decide +kernel
theorem dX9_gives_8 : decode cX9_gives 8 = .ok (.bipush 61, 2) := by decide +kernel
theorem dX9_gives_10 : decode cX9_gives 10 = .ok (.iload_n 1, 1) := by decide +kernel
theorem dX9_gives_11 : decode cX9_gives 11 = .ok (.imul, 1) := by decide +kernel
theorem dX9_gives_12 : decode cX9_gives 12 = .ok (.aload_n 0, 1) := by decide +kernel
theorem dX9_gives_13 : decode cX9_gives 13 = .ok (.getfield 60, 3) := by decide +kernel
theorem dX9_gives_16 : decode cX9_gives 16 = .ok (.iload_n 1, 1) := by decide +kernel
theorem dX9_gives_17 : decode cX9_gives 17 = .ok (.iaload, 1) := by decide +kernel
theorem dX9_gives_18 : decode cX9_gives 18 = .ok (.iadd, 1) := by decide +kernel
theorem dX9_gives_19 : decode cX9_gives 19 = .ok (.if_icmp .ge 59, 3) := by decide +kernel
theorem dX9_gives_22 : decode cX9_gives 22 = .ok (.aload_n 0, 1) := by decide +kernel
theorem dX9_gives_23 : decode cX9_gives 23 = .ok (.getfield 63, 3) := by decide +kernel
theorem dX9_gives_26 : decode cX9_gives 26 = .ok (.iload_n 3, 1) := by decide +kernel
theorem dX9_gives_27 : decode cX9_gives 27 = .ok (.saload, 1) := by decide +kernel
theorem dX9_gives_28 : decode cX9_gives 28 = .ok (.iload_n 2, 1) := by decide +kernel
theorem dX9_gives_29 : decode cX9_gives 29 = .ok (.if_icmp .eq 18, 3) := by decide +kernel
theorem dX9_gives_32 : decode cX9_gives 32 = .ok (.aload_n 0, 1) := by decide +kernel
theorem dX9_gives_33 : decode cX9_gives 33 = .ok (.iload_n 1, 1) := by decide +kernel
theorem dX9_gives_34 : decode cX9_gives 34 = .ok (.iload_n 2, 1) := by decide +kernel
theorem dX9_gives_35 : decode cX9_gives 35 = .ok (.aload_n 0, 1) := by decide +kernel
theorem dX9_gives_36 : decode cX9_gives 36 = .ok (.getfield 63, 3) := by decide +kernel
theorem dX9_gives_39 : decode cX9_gives 39 = .ok (.iload_n 3, 1) := by decide +kernel
theorem dX9_gives_40 : decode cX9_gives 40 = .ok (.saload, 1) := by decide +kernel
theorem dX9_gives_41 : decode cX9_gives 41 = .ok (.invokevirtual 242, 3) := by decide +kernel
theorem dX9_gives_44 : decode cX9_gives 44 = .ok (.ifCond .eq 21, 3) := by decide +kernel
theorem dX9_gives_47 : decode cX9_gives 47 = .ok (.aload_n 0, 1) := by decide +kernel
theorem dX9_gives_48 : decode cX9_gives 48 = .ok (.iload_n 1, 1) := by decide +kernel
theorem dX9_gives_49 : decode cX9_gives 49 = .ok (.aload_n 0, 1) := by decide +kernel
theorem dX9_gives_50 : decode cX9_gives 50 = .ok (.getfield 63, 3) := by decide +kernel
theorem dX9_gives_53 : decode cX9_gives 53 = .ok (.iload_n 3, 1) := by decide +kernel
theorem dX9_gives_54 : decode cX9_gives 54 = .ok (.saload, 1) := by decide +kernel
theorem dX9_gives_55 : decode cX9_gives 55 = .ok (.aload_n 0, 1) := by decide +kernel
theorem dX9_gives_56 : decode cX9_gives 56 = .ok (.getfield 67, 3) := by decide +kernel
theorem dX9_gives_59 : decode cX9_gives 59 = .ok (.iload_n 3, 1) := by decide +kernel
theorem dX9_gives_60 : decode cX9_gives 60 = .ok (.saload, 1) := by decide +kernel
theorem dX9_gives_61 : decode cX9_gives 61 = .ok (.invokevirtual 242, 3) := by decide +kernel
theorem dX9_gives_64 : decode cX9_gives 64 = .ok (.ireturn, 1) := by decide +kernel
theorem dX9_gives_65 : decode cX9_gives 65 = .ok (.aload_n 0, 1) := by decide +kernel
theorem dX9_gives_66 : decode cX9_gives 66 = .ok (.getfield 67, 3) := by decide +kernel
theorem dX9_gives_69 : decode cX9_gives 69 = .ok (.iload_n 3, 1) := by decide +kernel
theorem dX9_gives_70 : decode cX9_gives 70 = .ok (.saload, 1) := by decide +kernel
theorem dX9_gives_71 : decode cX9_gives 71 = .ok (.istore_n 2, 1) := by decide +kernel
theorem dX9_gives_72 : decode cX9_gives 72 = .ok (.iinc 3 1, 3) := by decide +kernel
theorem dX9_gives_75 : decode cX9_gives 75 = .ok (.goto (-68), 3) := by decide +kernel
theorem dX9_gives_78 : decode cX9_gives 78 = .ok (.iconst 0, 1) := by decide +kernel
theorem dX9_gives_79 : decode cX9_gives 79 = .ok (.ireturn, 1) := by decide +kernel
theorem dX9_law_0 : decode cX9_law 0 = .ok (.aload_n 0, 1) := by decide +kernel
theorem dX9_law_1 : decode cX9_law 1 = .ok (.iconst 0, 1) := by decide +kernel
theorem dX9_law_2 : decode cX9_law 2 = .ok (.invokevirtual 245, 3) := by decide +kernel
theorem dX9_law_5 : decode cX9_law 5 = .ok (.istore_n 1, 1) := by decide +kernel
theorem dX9_law_6 : decode cX9_law 6 = .ok (.iload_n 1, 1) := by decide +kernel
theorem dX9_law_7 : decode cX9_law 7 = .ok (.ifCond .lt 8, 3) := by decide +kernel
theorem dX9_law_10 : decode cX9_law 10 = .ok (.bipush (-100), 2) := by decide +kernel
theorem dX9_law_12 : decode cX9_law 12 = .ok (.iload_n 1, 1) := by decide +kernel
theorem dX9_law_13 : decode cX9_law 13 = .ok (.isub, 1) := by decide +kernel
theorem dX9_law_14 : decode cX9_law 14 = .ok (.ireturn, 1) := by decide +kernel
theorem dX9_law_15 : decode cX9_law 15 = .ok (.aload_n 0, 1) := by decide +kernel
theorem dX9_law_16 : decode cX9_law 16 = .ok (.iconst 1, 1) := by decide +kernel
theorem dX9_law_17 : decode cX9_law 17 = .ok (.putfield 248, 3) := by decide +kernel
theorem dX9_law_20 : decode cX9_law 20 = .ok (.iconst 1, 1) := by decide +kernel
theorem dX9_law_21 : decode cX9_law 21 = .ok (.ireturn, 1) := by decide +kernel
theorem dX9_orderOf_0 : decode cX9_orderOf 0 = .ok (.aload_n 0, 1) := by decide +kernel
theorem dX9_orderOf_1 : decode cX9_orderOf 1 = .ok (.getfield 13, 3) := by decide +kernel
theorem dX9_orderOf_4 : decode cX9_orderOf 4 = .ok (.aload_n 0, 1) := by decide +kernel
theorem dX9_orderOf_5 : decode cX9_orderOf 5 = .ok (.getfield 169, 3) := by decide +kernel
theorem dX9_orderOf_8 : decode cX9_orderOf 8 = .ok (.iaload, 1) := by decide +kernel
theorem dX9_orderOf_9 : decode cX9_orderOf 9 = .ok (.iconst 1, 1) := by decide +kernel
theorem dX9_orderOf_10 : decode cX9_orderOf 10 = .ok (.if_icmp .ne 18, 3) := by decide +kernel
theorem dX9_orderOf_13 : decode cX9_orderOf 13 = .ok (.aload_n 0, 1) := by decide +kernel
theorem dX9_orderOf_14 : decode cX9_orderOf 14 = .ok (.aload_n 0, 1) := by decide +kernel
theorem dX9_orderOf_15 : decode cX9_orderOf 15 = .ok (.getfield 169, 3) := by decide +kernel
theorem dX9_orderOf_18 : decode cX9_orderOf 18 = .ok (.invokevirtual 163, 3) := by decide +kernel
theorem dX9_orderOf_21 : decode cX9_orderOf 21 = .ok (.ifCond .ne 7, 3) := by decide +kernel
theorem dX9_orderOf_24 : decode cX9_orderOf 24 = .ok (.iconst 1, 1) := by decide +kernel
theorem dX9_orderOf_25 : decode cX9_orderOf 25 = .ok (.goto 4, 3) := by decide +kernel
theorem dX9_orderOf_28 : decode cX9_orderOf 28 = .ok (.iconst 0, 1) := by decide +kernel
theorem dX9_orderOf_29 : decode cX9_orderOf 29 = .ok (.istore_n 2, 1) := by decide +kernel
theorem dX9_orderOf_30 : decode cX9_orderOf 30 = .ok (.aload_n 0, 1) := by decide +kernel
theorem dX9_orderOf_31 : decode cX9_orderOf 31 = .ok (.getfield 248, 3) := by decide +kernel
theorem dX9_orderOf_34 : decode cX9_orderOf 34 = .ok (.ifCond .ne 13, 3) := by decide +kernel
theorem dX9_orderOf_37 : decode cX9_orderOf 37 = .ok (.iload_n 2, 1) := by decide +kernel
theorem dX9_orderOf_38 : decode cX9_orderOf 38 = .ok (.ifCond .eq 7, 3) := by decide +kernel
theorem dX9_orderOf_41 : decode cX9_orderOf 41 = .ok (.iconst 5, 1) := by decide +kernel
theorem dX9_orderOf_42 : decode cX9_orderOf 42 = .ok (.goto 4, 3) := by decide +kernel
theorem dX9_orderOf_45 : decode cX9_orderOf 45 = .ok (.iconst 0, 1) := by decide +kernel
theorem dX9_orderOf_46 : decode cX9_orderOf 46 = .ok (.ireturn, 1) := by decide +kernel
theorem dX9_orderOf_47 : decode cX9_orderOf 47 = .ok (.aload_n 0, 1) := by decide +kernel
theorem dX9_orderOf_48 : decode cX9_orderOf 48 = .ok (.getfield 70, 3) := by decide +kernel
theorem dX9_orderOf_51 : decode cX9_orderOf 51 = .ok (.iconst 0, 1) := by decide +kernel
theorem dX9_orderOf_52 : decode cX9_orderOf 52 = .ok (.aload_n 0, 1) := by decide +kernel
theorem dX9_orderOf_53 : decode cX9_orderOf 53 = .ok (.getfield 29, 3) := by decide +kernel
theorem dX9_orderOf_56 : decode cX9_orderOf 56 = .ok (.iastore, 1) := by decide +kernel
theorem dX9_orderOf_57 : decode cX9_orderOf 57 = .ok (.aload_n 0, 1) := by decide +kernel
theorem dX9_orderOf_58 : decode cX9_orderOf 58 = .ok (.getfield 70, 3) := by decide +kernel
theorem dX9_orderOf_61 : decode cX9_orderOf 61 = .ok (.iconst 1, 1) := by decide +kernel
theorem dX9_orderOf_62 : decode cX9_orderOf 62 = .ok (.aload_n 0, 1) := by decide +kernel
theorem dX9_orderOf_63 : decode cX9_orderOf 63 = .ok (.getfield 172, 3) := by decide +kernel
theorem dX9_orderOf_66 : decode cX9_orderOf 66 = .ok (.iastore, 1) := by decide +kernel
theorem dX9_orderOf_67 : decode cX9_orderOf 67 = .ok (.aload_n 0, 1) := by decide +kernel
theorem dX9_orderOf_68 : decode cX9_orderOf 68 = .ok (.getfield 70, 3) := by decide +kernel
theorem dX9_orderOf_71 : decode cX9_orderOf 71 = .ok (.iconst 2, 1) := by decide +kernel
theorem dX9_orderOf_72 : decode cX9_orderOf 72 = .ok (.iload_n 1, 1) := by decide +kernel
theorem dX9_orderOf_73 : decode cX9_orderOf 73 = .ok (.iastore, 1) := by decide +kernel
theorem dX9_orderOf_74 : decode cX9_orderOf 74 = .ok (.aload_n 0, 1) := by decide +kernel
theorem dX9_orderOf_75 : decode cX9_orderOf 75 = .ok (.getfield 70, 3) := by decide +kernel
theorem dX9_orderOf_78 : decode cX9_orderOf 78 = .ok (.iconst 3, 1) := by decide +kernel
theorem dX9_orderOf_79 : decode cX9_orderOf 79 = .ok (.aload_n 0, 1) := by decide +kernel
theorem dX9_orderOf_80 : decode cX9_orderOf 80 = .ok (.getfield 7, 3) := by decide +kernel
theorem dX9_orderOf_83 : decode cX9_orderOf 83 = .ok (.aload_n 0, 1) := by decide +kernel
theorem dX9_orderOf_84 : decode cX9_orderOf 84 = .ok (.getfield 169, 3) := by decide +kernel
theorem dX9_orderOf_87 : decode cX9_orderOf 87 = .ok (.iaload, 1) := by decide +kernel
theorem dX9_orderOf_88 : decode cX9_orderOf 88 = .ok (.iastore, 1) := by decide +kernel
theorem dX9_orderOf_89 : decode cX9_orderOf 89 = .ok (.aload_n 0, 1) := by decide +kernel
theorem dX9_orderOf_90 : decode cX9_orderOf 90 = .ok (.getfield 70, 3) := by decide +kernel
theorem dX9_orderOf_93 : decode cX9_orderOf 93 = .ok (.iconst 4, 1) := by decide +kernel
theorem dX9_orderOf_94 : decode cX9_orderOf 94 = .ok (.iload_n 2, 1) := by decide +kernel
theorem dX9_orderOf_95 : decode cX9_orderOf 95 = .ok (.ifCond .eq 7, 3) := by decide +kernel
theorem dX9_orderOf_98 : decode cX9_orderOf 98 = .ok (.iconst 1, 1) := by decide +kernel
theorem dX9_orderOf_99 : decode cX9_orderOf 99 = .ok (.goto 4, 3) := by decide +kernel
theorem dX9_orderOf_102 : decode cX9_orderOf 102 = .ok (.iconst 0, 1) := by decide +kernel
theorem dX9_orderOf_103 : decode cX9_orderOf 103 = .ok (.iastore, 1) := by decide +kernel
theorem dX9_orderOf_104 : decode cX9_orderOf 104 = .ok (.aload_n 0, 1) := by decide +kernel
theorem dX9_orderOf_105 : decode cX9_orderOf 105 = .ok (.getfield 70, 3) := by decide +kernel
theorem dX9_orderOf_108 : decode cX9_orderOf 108 = .ok (.iconst 5, 1) := by decide +kernel
theorem dX9_orderOf_109 : decode cX9_orderOf 109 = .ok (.aload_n 0, 1) := by decide +kernel
theorem dX9_orderOf_110 : decode cX9_orderOf 110 = .ok (.getfield 19, 3) := by decide +kernel
theorem dX9_orderOf_113 : decode cX9_orderOf 113 = .ok (.iload_n 1, 1) := by decide +kernel
theorem dX9_orderOf_114 : decode cX9_orderOf 114 = .ok (.iaload, 1) := by decide +kernel
theorem dX9_orderOf_115 : decode cX9_orderOf 115 = .ok (.iastore, 1) := by decide +kernel
theorem dX9_orderOf_116 : decode cX9_orderOf 116 = .ok (.aload_n 0, 1) := by decide +kernel
theorem dX9_orderOf_117 : decode cX9_orderOf 117 = .ok (.getfield 70, 3) := by decide +kernel
theorem dX9_orderOf_120 : decode cX9_orderOf 120 = .ok (.bipush 6, 2) := by decide +kernel
theorem dX9_orderOf_122 : decode cX9_orderOf 122 = .ok (.aload_n 0, 1) := by decide +kernel
theorem dX9_orderOf_123 : decode cX9_orderOf 123 = .ok (.getfield 169, 3) := by decide +kernel
theorem dX9_orderOf_126 : decode cX9_orderOf 126 = .ok (.iastore, 1) := by decide +kernel
theorem dX9_orderOf_127 : decode cX9_orderOf 127 = .ok (.aload_n 0, 1) := by decide +kernel
theorem dX9_orderOf_128 : decode cX9_orderOf 128 = .ok (.iconst 0, 1) := by decide +kernel
theorem dX9_orderOf_129 : decode cX9_orderOf 129 = .ok (.invokevirtual 252, 3) := by decide +kernel
theorem dX9_orderOf_132 : decode cX9_orderOf 132 = .ok (.istore_n 3, 1) := by decide +kernel
theorem dX9_orderOf_133 : decode cX9_orderOf 133 = .ok (.iload_n 3, 1) := by decide +kernel
theorem dX9_orderOf_134 : decode cX9_orderOf 134 = .ok (.ifCond .ge 7, 3) := by decide +kernel
theorem dX9_orderOf_137 : decode cX9_orderOf 137 = .ok (.iconst 0, 1) := by decide +kernel
theorem dX9_orderOf_138 : decode cX9_orderOf 138 = .ok (.goto 7, 3) := by decide +kernel
theorem dX9_orderOf_141 : decode cX9_orderOf 141 = .ok (.iload_n 3, 1) := by decide +kernel
theorem dX9_orderOf_142 : decode cX9_orderOf 142 = .ok (.bipush 6, 2) := by decide +kernel
theorem dX9_orderOf_144 : decode cX9_orderOf 144 = .ok (.irem, 1) := by decide +kernel
theorem dX9_orderOf_145 : decode cX9_orderOf 145 = .ok (.ireturn, 1) := by decide +kernel
theorem dX9_cost_0 : decode cX9_cost 0 = .ok (.iload_n 1, 1) := by decide +kernel
theorem dX9_cost_1 : decode cX9_cost 1 = .ok (.invokestatic 141, 3) := by decide +kernel
theorem dX9_cost_4 : decode cX9_cost 4 = .ok (.ifCond .eq 12, 3) := by decide +kernel
theorem dX9_cost_7 : decode cX9_cost 7 = .ok (.iload_n 2, 1) := by decide +kernel
theorem dX9_cost_8 : decode cX9_cost 8 = .ok (.iconst 1, 1) := by decide +kernel
theorem dX9_cost_9 : decode cX9_cost 9 = .ok (.iconst 4, 1) := by decide +kernel
theorem dX9_cost_10 : decode cX9_cost 10 = .ok (.invokestatic 116, 3) := by decide +kernel
theorem dX9_cost_13 : decode cX9_cost 13 = .ok (.ifCond .ne 5, 3) := by decide +kernel
theorem dX9_cost_16 : decode cX9_cost 16 = .ok (.iconst (-1), 1) := by decide +kernel
theorem dX9_cost_17 : decode cX9_cost 17 = .ok (.ireturn, 1) := by decide +kernel
theorem dX9_cost_18 : decode cX9_cost 18 = .ok (.iload_n 1, 1) := by decide +kernel
theorem dX9_cost_19 : decode cX9_cost 19 = .ok (.iload_n 2, 1) := by decide +kernel
theorem dX9_cost_20 : decode cX9_cost 20 = .ok (.invokestatic 120, 3) := by decide +kernel
theorem dX9_cost_23 : decode cX9_cost 23 = .ok (.ifCond .ge 8, 3) := by decide +kernel
theorem dX9_cost_26 : decode cX9_cost 26 = .ok (.bipush (-2), 2) := by decide +kernel
theorem dX9_cost_28 : decode cX9_cost 28 = .ok (.goto 9, 3) := by decide +kernel
theorem dX9_cost_31 : decode cX9_cost 31 = .ok (.aload_n 0, 1) := by decide +kernel
theorem dX9_cost_32 : decode cX9_cost 32 = .ok (.iload_n 1, 1) := by decide +kernel
theorem dX9_cost_33 : decode cX9_cost 33 = .ok (.iload_n 2, 1) := by decide +kernel
theorem dX9_cost_34 : decode cX9_cost 34 = .ok (.invokevirtual 255, 3) := by decide +kernel
theorem dX9_cost_37 : decode cX9_cost 37 = .ok (.ireturn, 1) := by decide +kernel
theorem dX9_order_0 : decode cX9_order 0 = .ok (.aload_n 0, 1) := by decide +kernel
theorem dX9_order_1 : decode cX9_order 1 = .ok (.getfield 166, 3) := by decide +kernel
theorem dX9_order_4 : decode cX9_order 4 = .ok (.bipush 60, 2) := by decide +kernel
theorem dX9_order_6 : decode cX9_order 6 = .ok (.if_icmp .ne 8, 3) := by decide +kernel
theorem dX9_order_9 : decode cX9_order 9 = .ok (.bipush (-5), 2) := by decide +kernel
theorem dX9_order_11 : decode cX9_order 11 = .ok (.goto 11, 3) := by decide +kernel
theorem dX9_order_14 : decode cX9_order 14 = .ok (.aload_n 0, 1) := by decide +kernel
theorem dX9_order_15 : decode cX9_order 15 = .ok (.aload_n 0, 1) := by decide +kernel
theorem dX9_order_16 : decode cX9_order 16 = .ok (.getfield 166, 3) := by decide +kernel
theorem dX9_order_19 : decode cX9_order 19 = .ok (.invokevirtual 258, 3) := by decide +kernel
theorem dX9_order_22 : decode cX9_order 22 = .ok (.ireturn, 1) := by decide +kernel
theorem dX9_think_0 : decode cX9_think 0 = .ok (.aload_n 0, 1) := by decide +kernel
theorem dX9_think_1 : decode cX9_think 1 = .ok (.aload_n 0, 1) := by decide +kernel
theorem dX9_think_2 : decode cX9_think 2 = .ok (.getfield 169, 3) := by decide +kernel
theorem dX9_think_5 : decode cX9_think 5 = .ok (.putfield 261, 3) := by decide +kernel
theorem dX9_think_8 : decode cX9_think 8 = .ok (.aload_n 0, 1) := by decide +kernel
theorem dX9_think_9 : decode cX9_think 9 = .ok (.aload_n 0, 1) := by decide +kernel
theorem dX9_think_10 : decode cX9_think 10 = .ok (.getfield 29, 3) := by decide +kernel
theorem dX9_think_13 : decode cX9_think 13 = .ok (.putfield 264, 3) := by decide +kernel
theorem dX9_think_16 : decode cX9_think 16 = .ok (.aload_n 0, 1) := by decide +kernel
theorem dX9_think_17 : decode cX9_think 17 = .ok (.aload_n 0, 1) := by decide +kernel
theorem dX9_think_18 : decode cX9_think 18 = .ok (.getfield 172, 3) := by decide +kernel
theorem dX9_think_21 : decode cX9_think 21 = .ok (.putfield 267, 3) := by decide +kernel
theorem dX9_think_24 : decode cX9_think 24 = .ok (.aload_n 0, 1) := by decide +kernel
theorem dX9_think_25 : decode cX9_think 25 = .ok (.aload_n 0, 1) := by decide +kernel
theorem dX9_think_26 : decode cX9_think 26 = .ok (.getfield 124, 3) := by decide +kernel
theorem dX9_think_29 : decode cX9_think 29 = .ok (.putfield 270, 3) := by decide +kernel
theorem dX9_think_32 : decode cX9_think 32 = .ok (.return_, 1) := by decide +kernel
theorem dX9_unthink_0 : decode cX9_unthink 0 = .ok (.aload_n 0, 1) := by decide +kernel
theorem dX9_unthink_1 : decode cX9_unthink 1 = .ok (.aload_n 0, 1) := by decide +kernel
theorem dX9_unthink_2 : decode cX9_unthink 2 = .ok (.getfield 261, 3) := by decide +kernel
theorem dX9_unthink_5 : decode cX9_unthink 5 = .ok (.putfield 169, 3) := by decide +kernel
theorem dX9_unthink_8 : decode cX9_unthink 8 = .ok (.aload_n 0, 1) := by decide +kernel
theorem dX9_unthink_9 : decode cX9_unthink 9 = .ok (.aload_n 0, 1) := by decide +kernel
theorem dX9_unthink_10 : decode cX9_unthink 10 = .ok (.getfield 264, 3) := by decide +kernel
theorem dX9_unthink_13 : decode cX9_unthink 13 = .ok (.putfield 29, 3) := by decide +kernel
theorem dX9_unthink_16 : decode cX9_unthink 16 = .ok (.aload_n 0, 1) := by decide +kernel
theorem dX9_unthink_17 : decode cX9_unthink 17 = .ok (.aload_n 0, 1) := by decide +kernel
theorem dX9_unthink_18 : decode cX9_unthink 18 = .ok (.getfield 267, 3) := by decide +kernel
theorem dX9_unthink_21 : decode cX9_unthink 21 = .ok (.putfield 172, 3) := by decide +kernel
theorem dX9_unthink_24 : decode cX9_unthink 24 = .ok (.aload_n 0, 1) := by decide +kernel
theorem dX9_unthink_25 : decode cX9_unthink 25 = .ok (.aload_n 0, 1) := by decide +kernel
theorem dX9_unthink_26 : decode cX9_unthink 26 = .ok (.getfield 270, 3) := by decide +kernel
theorem dX9_unthink_29 : decode cX9_unthink 29 = .ok (.putfield 124, 3) := by decide +kernel
theorem dX9_unthink_32 : decode cX9_unthink 32 = .ok (.return_, 1) := by decide +kernel
theorem dX9_obeys_0 : decode cX9_obeys 0 = .ok (.iload_n 1, 1) := by decide +kernel
theorem dX9_obeys_1 : decode cX9_obeys 1 = .ok (.ifCond .ne 5, 3) := by decide +kernel
theorem dX9_obeys_4 : decode cX9_obeys 4 = .ok (.iconst 1, 1) := by decide +kernel
theorem dX9_obeys_5 : decode cX9_obeys 5 = .ok (.ireturn, 1) := by decide +kernel
theorem dX9_obeys_6 : decode cX9_obeys 6 = .ok (.iload_n 1, 1) := by decide +kernel
theorem dX9_obeys_7 : decode cX9_obeys 7 = .ok (.iconst 5, 1) := by decide +kernel
theorem dX9_obeys_8 : decode cX9_obeys 8 = .ok (.if_icmp .ne 63, 3) := by decide +kernel
theorem dX9_obeys_11 : decode cX9_obeys 11 = .ok (.aload_n 0, 1) := by decide +kernel
theorem dX9_obeys_12 : decode cX9_obeys 12 = .ok (.getfield 13, 3) := by decide +kernel
theorem dX9_obeys_15 : decode cX9_obeys 15 = .ok (.aload_n 0, 1) := by decide +kernel
theorem dX9_obeys_16 : decode cX9_obeys 16 = .ok (.getfield 169, 3) := by decide +kernel
theorem dX9_obeys_19 : decode cX9_obeys 19 = .ok (.iaload, 1) := by decide +kernel
theorem dX9_obeys_20 : decode cX9_obeys 20 = .ok (.ifCond .eq 22, 3) := by decide +kernel
theorem dX9_obeys_23 : decode cX9_obeys 23 = .ok (.aload_n 0, 1) := by decide +kernel
theorem dX9_obeys_24 : decode cX9_obeys 24 = .ok (.aload_n 0, 1) := by decide +kernel
theorem dX9_obeys_25 : decode cX9_obeys 25 = .ok (.getfield 169, 3) := by decide +kernel
theorem dX9_obeys_28 : decode cX9_obeys 28 = .ok (.invokevirtual 163, 3) := by decide +kernel
theorem dX9_obeys_31 : decode cX9_obeys 31 = .ok (.ifCond .ne 11, 3) := by decide +kernel
theorem dX9_obeys_34 : decode cX9_obeys 34 = .ok (.aload_n 0, 1) := by decide +kernel
theorem dX9_obeys_35 : decode cX9_obeys 35 = .ok (.getfield 29, 3) := by decide +kernel
theorem dX9_obeys_38 : decode cX9_obeys 38 = .ok (.iconst 2, 1) := by decide +kernel
theorem dX9_obeys_39 : decode cX9_obeys 39 = .ok (.if_icmp .ge 5, 3) := by decide +kernel
theorem dX9_obeys_42 : decode cX9_obeys 42 = .ok (.iconst 0, 1) := by decide +kernel
theorem dX9_obeys_43 : decode cX9_obeys 43 = .ok (.ireturn, 1) := by decide +kernel
theorem dX9_obeys_44 : decode cX9_obeys 44 = .ok (.aload_n 0, 1) := by decide +kernel
theorem dX9_obeys_45 : decode cX9_obeys 45 = .ok (.dup, 1) := by decide +kernel
theorem dX9_obeys_46 : decode cX9_obeys 46 = .ok (.getfield 29, 3) := by decide +kernel
theorem dX9_obeys_49 : decode cX9_obeys 49 = .ok (.iconst 2, 1) := by decide +kernel
theorem dX9_obeys_50 : decode cX9_obeys 50 = .ok (.isub, 1) := by decide +kernel
theorem dX9_obeys_51 : decode cX9_obeys 51 = .ok (.putfield 29, 3) := by decide +kernel
theorem dX9_obeys_54 : decode cX9_obeys 54 = .ok (.aload_n 0, 1) := by decide +kernel
theorem dX9_obeys_55 : decode cX9_obeys 55 = .ok (.dup, 1) := by decide +kernel
theorem dX9_obeys_56 : decode cX9_obeys 56 = .ok (.getfield 124, 3) := by decide +kernel
theorem dX9_obeys_59 : decode cX9_obeys 59 = .ok (.lconst 1, 1) := by decide +kernel
theorem dX9_obeys_60 : decode cX9_obeys 60 = .ok (.aload_n 0, 1) := by decide +kernel
theorem dX9_obeys_61 : decode cX9_obeys 61 = .ok (.getfield 169, 3) := by decide +kernel
theorem dX9_obeys_64 : decode cX9_obeys 64 = .ok (.lshl, 1) := by decide +kernel
theorem dX9_obeys_65 : decode cX9_obeys 65 = .ok (.lor, 1) := by decide +kernel
theorem dX9_obeys_66 : decode cX9_obeys 66 = .ok (.putfield 124, 3) := by decide +kernel
theorem dX9_obeys_69 : decode cX9_obeys 69 = .ok (.iconst 1, 1) := by decide +kernel
theorem dX9_obeys_70 : decode cX9_obeys 70 = .ok (.ireturn, 1) := by decide +kernel
theorem dX9_obeys_71 : decode cX9_obeys 71 = .ok (.aload_n 0, 1) := by decide +kernel
theorem dX9_obeys_72 : decode cX9_obeys 72 = .ok (.getfield 169, 3) := by decide +kernel
theorem dX9_obeys_75 : decode cX9_obeys 75 = .ok (.iload_n 1, 1) := by decide +kernel
theorem dX9_obeys_76 : decode cX9_obeys 76 = .ok (.invokestatic 120, 3) := by decide +kernel
theorem dX9_obeys_79 : decode cX9_obeys 79 = .ok (.ifCond .lt 19, 3) := by decide +kernel
theorem dX9_obeys_82 : decode cX9_obeys 82 = .ok (.aload_n 0, 1) := by decide +kernel
theorem dX9_obeys_83 : decode cX9_obeys 83 = .ok (.getfield 29, 3) := by decide +kernel
theorem dX9_obeys_86 : decode cX9_obeys 86 = .ok (.aload_n 0, 1) := by decide +kernel
theorem dX9_obeys_87 : decode cX9_obeys 87 = .ok (.aload_n 0, 1) := by decide +kernel
theorem dX9_obeys_88 : decode cX9_obeys 88 = .ok (.getfield 169, 3) := by decide +kernel
theorem dX9_obeys_91 : decode cX9_obeys 91 = .ok (.iload_n 1, 1) := by decide +kernel
theorem dX9_obeys_92 : decode cX9_obeys 92 = .ok (.invokevirtual 255, 3) := by decide +kernel
theorem dX9_obeys_95 : decode cX9_obeys 95 = .ok (.if_icmp .ge 5, 3) := by decide +kernel
theorem dX9_obeys_98 : decode cX9_obeys 98 = .ok (.iconst 0, 1) := by decide +kernel
theorem dX9_obeys_99 : decode cX9_obeys 99 = .ok (.ireturn, 1) := by decide +kernel
theorem dX9_obeys_100 : decode cX9_obeys 100 = .ok (.aload_n 0, 1) := by decide +kernel
theorem dX9_obeys_101 : decode cX9_obeys 101 = .ok (.dup, 1) := by decide +kernel
theorem dX9_obeys_102 : decode cX9_obeys 102 = .ok (.getfield 29, 3) := by decide +kernel
theorem dX9_obeys_105 : decode cX9_obeys 105 = .ok (.aload_n 0, 1) := by decide +kernel
theorem dX9_obeys_106 : decode cX9_obeys 106 = .ok (.aload_n 0, 1) := by decide +kernel
theorem dX9_obeys_107 : decode cX9_obeys 107 = .ok (.getfield 169, 3) := by decide +kernel
theorem dX9_obeys_110 : decode cX9_obeys 110 = .ok (.iload_n 1, 1) := by decide +kernel
theorem dX9_obeys_111 : decode cX9_obeys 111 = .ok (.invokevirtual 255, 3) := by decide +kernel
theorem dX9_obeys_114 : decode cX9_obeys 114 = .ok (.isub, 1) := by decide +kernel
theorem dX9_obeys_115 : decode cX9_obeys 115 = .ok (.putfield 29, 3) := by decide +kernel
theorem dX9_obeys_118 : decode cX9_obeys 118 = .ok (.aload_n 0, 1) := by decide +kernel
theorem dX9_obeys_119 : decode cX9_obeys 119 = .ok (.aload_n 0, 1) := by decide +kernel
theorem dX9_obeys_120 : decode cX9_obeys 120 = .ok (.getfield 169, 3) := by decide +kernel
theorem dX9_obeys_123 : decode cX9_obeys 123 = .ok (.iload_n 1, 1) := by decide +kernel
theorem dX9_obeys_124 : decode cX9_obeys 124 = .ok (.invokestatic 120, 3) := by decide +kernel
theorem dX9_obeys_127 : decode cX9_obeys 127 = .ok (.putfield 169, 3) := by decide +kernel
theorem dX9_obeys_130 : decode cX9_obeys 130 = .ok (.iconst 1, 1) := by decide +kernel
theorem dX9_obeys_131 : decode cX9_obeys 131 = .ok (.ireturn, 1) := by decide +kernel
theorem dX9_storeThen_0 : decode cX9_storeThen 0 = .ok (.iload_n 1, 1) := by decide +kernel
theorem dX9_storeThen_1 : decode cX9_storeThen 1 = .ok (.iload_n 2, 1) := by decide +kernel
theorem dX9_storeThen_2 : decode cX9_storeThen 2 = .ok (.iconst 2, 1) := by decide +kernel
theorem dX9_storeThen_3 : decode cX9_storeThen 3 = .ok (.idiv, 1) := by decide +kernel
theorem dX9_storeThen_4 : decode cX9_storeThen 4 = .ok (.isub, 1) := by decide +kernel
theorem dX9_storeThen_5 : decode cX9_storeThen 5 = .ok (.istore 4, 2) := by decide +kernel
theorem dX9_storeThen_7 : decode cX9_storeThen 7 = .ok (.iload_n 0, 1) := by decide +kernel
theorem dX9_storeThen_8 : decode cX9_storeThen 8 = .ok (.iload 4, 2) := by decide +kernel
theorem dX9_storeThen_10 : decode cX9_storeThen 10 = .ok (.ifCond .le 8, 3) := by decide +kernel
theorem dX9_storeThen_13 : decode cX9_storeThen 13 = .ok (.iload 4, 2) := by decide +kernel
theorem dX9_storeThen_15 : decode cX9_storeThen 15 = .ok (.goto 4, 3) := by decide +kernel
theorem dX9_storeThen_18 : decode cX9_storeThen 18 = .ok (.iconst 0, 1) := by decide +kernel
theorem dX9_storeThen_19 : decode cX9_storeThen 19 = .ok (.iadd, 1) := by decide +kernel
theorem dX9_storeThen_20 : decode cX9_storeThen 20 = .ok (.iload_n 3, 1) := by decide +kernel
theorem dX9_storeThen_21 : decode cX9_storeThen 21 = .ok (.ifCond .eq 7, 3) := by decide +kernel
theorem dX9_storeThen_24 : decode cX9_storeThen 24 = .ok (.iconst 2, 1) := by decide +kernel
theorem dX9_storeThen_25 : decode cX9_storeThen 25 = .ok (.goto 4, 3) := by decide +kernel
theorem dX9_storeThen_28 : decode cX9_storeThen 28 = .ok (.iconst 4, 1) := by decide +kernel
theorem dX9_storeThen_29 : decode cX9_storeThen 29 = .ok (.isub, 1) := by decide +kernel
theorem dX9_storeThen_30 : decode cX9_storeThen 30 = .ok (.istore 5, 2) := by decide +kernel
theorem dX9_storeThen_32 : decode cX9_storeThen 32 = .ok (.iload 5, 2) := by decide +kernel
theorem dX9_storeThen_34 : decode cX9_storeThen 34 = .ok (.ifCond .ge 7, 3) := by decide +kernel
theorem dX9_storeThen_37 : decode cX9_storeThen 37 = .ok (.iconst 0, 1) := by decide +kernel
theorem dX9_storeThen_38 : decode cX9_storeThen 38 = .ok (.goto 17, 3) := by decide +kernel
theorem dX9_storeThen_41 : decode cX9_storeThen 41 = .ok (.iload 5, 2) := by decide +kernel
theorem dX9_storeThen_43 : decode cX9_storeThen 43 = .ok (.bipush 99, 2) := by decide +kernel
theorem dX9_storeThen_45 : decode cX9_storeThen 45 = .ok (.if_icmp .le 8, 3) := by decide +kernel
theorem dX9_storeThen_48 : decode cX9_storeThen 48 = .ok (.bipush 99, 2) := by decide +kernel
theorem dX9_storeThen_50 : decode cX9_storeThen 50 = .ok (.goto 5, 3) := by decide +kernel
theorem dX9_storeThen_53 : decode cX9_storeThen 53 = .ok (.iload 5, 2) := by decide +kernel
theorem dX9_storeThen_55 : decode cX9_storeThen 55 = .ok (.ireturn, 1) := by decide +kernel
theorem dX9_dustThen_0 : decode cX9_dustThen 0 = .ok (.iload_n 2, 1) := by decide +kernel
theorem dX9_dustThen_1 : decode cX9_dustThen 1 = .ok (.bipush 7, 2) := by decide +kernel
theorem dX9_dustThen_3 : decode cX9_dustThen 3 = .ok (.if_icmp .lt 9, 3) := by decide +kernel
theorem dX9_dustThen_6 : decode cX9_dustThen 6 = .ok (.iload_n 3, 1) := by decide +kernel
theorem dX9_dustThen_7 : decode cX9_dustThen 7 = .ok (.ifCond .ne 5, 3) := by decide +kernel
theorem dX9_dustThen_10 : decode cX9_dustThen 10 = .ok (.iconst 0, 1) := by decide +kernel
theorem dX9_dustThen_11 : decode cX9_dustThen 11 = .ok (.ireturn, 1) := by decide +kernel
theorem dX9_dustThen_12 : decode cX9_dustThen 12 = .ok (.iload_n 1, 1) := by decide +kernel
theorem dX9_dustThen_13 : decode cX9_dustThen 13 = .ok (.iconst 3, 1) := by decide +kernel
theorem dX9_dustThen_14 : decode cX9_dustThen 14 = .ok (.irem, 1) := by decide +kernel
theorem dX9_dustThen_15 : decode cX9_dustThen 15 = .ok (.ifCond .ne 15, 3) := by decide +kernel
theorem dX9_dustThen_18 : decode cX9_dustThen 18 = .ok (.iload_n 0, 1) := by decide +kernel
theorem dX9_dustThen_19 : decode cX9_dustThen 19 = .ok (.bipush 9, 2) := by decide +kernel
theorem dX9_dustThen_21 : decode cX9_dustThen 21 = .ok (.if_icmp .ge 9, 3) := by decide +kernel
theorem dX9_dustThen_24 : decode cX9_dustThen 24 = .ok (.iload_n 0, 1) := by decide +kernel
theorem dX9_dustThen_25 : decode cX9_dustThen 25 = .ok (.iconst 1, 1) := by decide +kernel
theorem dX9_dustThen_26 : decode cX9_dustThen 26 = .ok (.iadd, 1) := by decide +kernel
theorem dX9_dustThen_27 : decode cX9_dustThen 27 = .ok (.goto 4, 3) := by decide +kernel
theorem dX9_dustThen_30 : decode cX9_dustThen 30 = .ok (.iload_n 0, 1) := by decide +kernel
theorem dX9_dustThen_31 : decode cX9_dustThen 31 = .ok (.ireturn, 1) := by decide +kernel
theorem dX9_goDay_0 : decode cX9_goDay 0 = .ok (.aload_n 0, 1) := by decide +kernel
theorem dX9_goDay_1 : decode cX9_goDay 1 = .ok (.iload_n 1, 1) := by decide +kernel
theorem dX9_goDay_2 : decode cX9_goDay 2 = .ok (.invokevirtual 273, 3) := by decide +kernel
theorem dX9_goDay_5 : decode cX9_goDay 5 = .ok (.istore 5, 2) := by decide +kernel
theorem dX9_goDay_7 : decode cX9_goDay 7 = .ok (.aload_n 0, 1) := by decide +kernel
theorem dX9_goDay_8 : decode cX9_goDay 8 = .ok (.aload_n 0, 1) := by decide +kernel
theorem dX9_goDay_9 : decode cX9_goDay 9 = .ok (.getfield 169, 3) := by decide +kernel
theorem dX9_goDay_12 : decode cX9_goDay 12 = .ok (.invokevirtual 160, 3) := by decide +kernel
theorem dX9_goDay_15 : decode cX9_goDay 15 = .ok (.istore 6, 2) := by decide +kernel
theorem dX9_goDay_17 : decode cX9_goDay 17 = .ok (.aload_n 0, 1) := by decide +kernel
theorem dX9_goDay_18 : decode cX9_goDay 18 = .ok (.aload_n 0, 1) := by decide +kernel
theorem dX9_goDay_19 : decode cX9_goDay 19 = .ok (.getfield 29, 3) := by decide +kernel
theorem dX9_goDay_22 : decode cX9_goDay 22 = .ok (.iload_n 3, 1) := by decide +kernel
theorem dX9_goDay_23 : decode cX9_goDay 23 = .ok (.aload_n 0, 1) := by decide +kernel
theorem dX9_goDay_24 : decode cX9_goDay 24 = .ok (.getfield 172, 3) := by decide +kernel
theorem dX9_goDay_27 : decode cX9_goDay 27 = .ok (.iload 6, 2) := by decide +kernel
theorem dX9_goDay_29 : decode cX9_goDay 29 = .ok (.invokestatic 276, 3) := by decide +kernel
theorem dX9_goDay_32 : decode cX9_goDay 32 = .ok (.putfield 29, 3) := by decide +kernel
theorem dX9_goDay_35 : decode cX9_goDay 35 = .ok (.aload_n 0, 1) := by decide +kernel
theorem dX9_goDay_36 : decode cX9_goDay 36 = .ok (.aload_n 0, 1) := by decide +kernel
theorem dX9_goDay_37 : decode cX9_goDay 37 = .ok (.getfield 172, 3) := by decide +kernel
theorem dX9_goDay_40 : decode cX9_goDay 40 = .ok (.iload_n 2, 1) := by decide +kernel
theorem dX9_goDay_41 : decode cX9_goDay 41 = .ok (.iload 4, 2) := by decide +kernel
theorem dX9_goDay_43 : decode cX9_goDay 43 = .ok (.iload 6, 2) := by decide +kernel
theorem dX9_goDay_45 : decode cX9_goDay 45 = .ok (.invokestatic 280, 3) := by decide +kernel
theorem dX9_goDay_48 : decode cX9_goDay 48 = .ok (.putfield 172, 3) := by decide +kernel
theorem dX9_goDay_51 : decode cX9_goDay 51 = .ok (.iload 5, 2) := by decide +kernel
theorem dX9_goDay_53 : decode cX9_goDay 53 = .ok (.ireturn, 1) := by decide +kernel
theorem dX9_goOwn_0 : decode cX9_goOwn 0 = .ok (.aload_n 0, 1) := by decide +kernel
theorem dX9_goOwn_1 : decode cX9_goOwn 1 = .ok (.iload_n 1, 1) := by decide +kernel
theorem dX9_goOwn_2 : decode cX9_goOwn 2 = .ok (.iload_n 2, 1) := by decide +kernel
theorem dX9_goOwn_3 : decode cX9_goOwn 3 = .ok (.aload_n 0, 1) := by decide +kernel
theorem dX9_goOwn_4 : decode cX9_goOwn 4 = .ok (.getfield 16, 3) := by decide +kernel
theorem dX9_goOwn_7 : decode cX9_goOwn 7 = .ok (.iload_n 2, 1) := by decide +kernel
theorem dX9_goOwn_8 : decode cX9_goOwn 8 = .ok (.iaload, 1) := by decide +kernel
theorem dX9_goOwn_9 : decode cX9_goOwn 9 = .ok (.aload_n 0, 1) := by decide +kernel
theorem dX9_goOwn_10 : decode cX9_goOwn 10 = .ok (.getfield 19, 3) := by decide +kernel
theorem dX9_goOwn_13 : decode cX9_goOwn 13 = .ok (.iload_n 2, 1) := by decide +kernel
theorem dX9_goOwn_14 : decode cX9_goOwn 14 = .ok (.iaload, 1) := by decide +kernel
theorem dX9_goOwn_15 : decode cX9_goOwn 15 = .ok (.invokevirtual 283, 3) := by decide +kernel
theorem dX9_goOwn_18 : decode cX9_goOwn 18 = .ok (.ireturn, 1) := by decide +kernel
theorem dX9_lead_0 : decode cX9_lead 0 = .ok (.aload_n 0, 1) := by decide +kernel
theorem dX9_lead_1 : decode cX9_lead 1 = .ok (.iload_n 1, 1) := by decide +kernel
theorem dX9_lead_2 : decode cX9_lead 2 = .ok (.aload_n 0, 1) := by decide +kernel
theorem dX9_lead_3 : decode cX9_lead 3 = .ok (.getfield 166, 3) := by decide +kernel
theorem dX9_lead_6 : decode cX9_lead 6 = .ok (.invokevirtual 287, 3) := by decide +kernel
theorem dX9_lead_9 : decode cX9_lead 9 = .ok (.istore_n 2, 1) := by decide +kernel
theorem dX9_lead_10 : decode cX9_lead 10 = .ok (.aload_n 0, 1) := by decide +kernel
theorem dX9_lead_11 : decode cX9_lead 11 = .ok (.getfield 32, 3) := by decide +kernel
theorem dX9_lead_14 : decode cX9_lead 14 = .ok (.aload_n 0, 1) := by decide +kernel
theorem dX9_lead_15 : decode cX9_lead 15 = .ok (.getfield 166, 3) := by decide +kernel
theorem dX9_lead_18 : decode cX9_lead 18 = .ok (.iload_n 1, 1) := by decide +kernel
theorem dX9_lead_19 : decode cX9_lead 19 = .ok (.iastore, 1) := by decide +kernel
theorem dX9_lead_20 : decode cX9_lead 20 = .ok (.aload_n 0, 1) := by decide +kernel
theorem dX9_lead_21 : decode cX9_lead 21 = .ok (.getfield 35, 3) := by decide +kernel
theorem dX9_lead_24 : decode cX9_lead 24 = .ok (.aload_n 0, 1) := by decide +kernel
theorem dX9_lead_25 : decode cX9_lead 25 = .ok (.getfield 166, 3) := by decide +kernel
theorem dX9_lead_28 : decode cX9_lead 28 = .ok (.iload_n 2, 1) := by decide +kernel
theorem dX9_lead_29 : decode cX9_lead 29 = .ok (.ifCond .eq 7, 3) := by decide +kernel
theorem dX9_lead_32 : decode cX9_lead 32 = .ok (.iconst 1, 1) := by decide +kernel
theorem dX9_lead_33 : decode cX9_lead 33 = .ok (.goto 4, 3) := by decide +kernel
theorem dX9_lead_36 : decode cX9_lead 36 = .ok (.iconst 0, 1) := by decide +kernel
theorem dX9_lead_37 : decode cX9_lead 37 = .ok (.iastore, 1) := by decide +kernel
theorem dX9_lead_38 : decode cX9_lead 38 = .ok (.aload_n 0, 1) := by decide +kernel
theorem dX9_lead_39 : decode cX9_lead 39 = .ok (.dup, 1) := by decide +kernel
theorem dX9_lead_40 : decode cX9_lead 40 = .ok (.getfield 166, 3) := by decide +kernel
theorem dX9_lead_43 : decode cX9_lead 43 = .ok (.iconst 1, 1) := by decide +kernel
theorem dX9_lead_44 : decode cX9_lead 44 = .ok (.iadd, 1) := by decide +kernel
theorem dX9_lead_45 : decode cX9_lead 45 = .ok (.putfield 166, 3) := by decide +kernel
theorem dX9_lead_48 : decode cX9_lead 48 = .ok (.iload_n 2, 1) := by decide +kernel
theorem dX9_lead_49 : decode cX9_lead 49 = .ok (.ifCond .eq 7, 3) := by decide +kernel
theorem dX9_lead_52 : decode cX9_lead 52 = .ok (.iconst 1, 1) := by decide +kernel
theorem dX9_lead_53 : decode cX9_lead 53 = .ok (.goto 4, 3) := by decide +kernel
theorem dX9_lead_56 : decode cX9_lead 56 = .ok (.iconst 0, 1) := by decide +kernel
theorem dX9_lead_57 : decode cX9_lead 57 = .ok (.ireturn, 1) := by decide +kernel
theorem dX9_day_0 : decode cX9_day 0 = .ok (.iload_n 1, 1) := by decide +kernel
theorem dX9_day_1 : decode cX9_day 1 = .ok (.iconst 0, 1) := by decide +kernel
theorem dX9_day_2 : decode cX9_day 2 = .ok (.iconst 5, 1) := by decide +kernel
theorem dX9_day_3 : decode cX9_day 3 = .ok (.invokestatic 116, 3) := by decide +kernel
theorem dX9_day_6 : decode cX9_day 6 = .ok (.ifCond .ne 5, 3) := by decide +kernel
theorem dX9_day_9 : decode cX9_day 9 = .ok (.iconst (-1), 1) := by decide +kernel
theorem dX9_day_10 : decode cX9_day 10 = .ok (.ireturn, 1) := by decide +kernel
theorem dX9_day_11 : decode cX9_day 11 = .ok (.aload_n 0, 1) := by decide +kernel
theorem dX9_day_12 : decode cX9_day 12 = .ok (.getfield 166, 3) := by decide +kernel
theorem dX9_day_15 : decode cX9_day 15 = .ok (.bipush 60, 2) := by decide +kernel
theorem dX9_day_17 : decode cX9_day 17 = .ok (.if_icmp .ne 8, 3) := by decide +kernel
theorem dX9_day_20 : decode cX9_day 20 = .ok (.bipush (-5), 2) := by decide +kernel
theorem dX9_day_22 : decode cX9_day 22 = .ok (.goto 8, 3) := by decide +kernel
theorem dX9_day_25 : decode cX9_day 25 = .ok (.aload_n 0, 1) := by decide +kernel
theorem dX9_day_26 : decode cX9_day 26 = .ok (.iload_n 1, 1) := by decide +kernel
theorem dX9_day_27 : decode cX9_day 27 = .ok (.invokevirtual 290, 3) := by decide +kernel
theorem dX9_day_30 : decode cX9_day 30 = .ok (.ireturn, 1) := by decide +kernel
theorem dX9_days_0 : decode cX9_days 0 = .ok (.iload_n 1, 1) := by decide +kernel
theorem dX9_days_1 : decode cX9_days 1 = .ok (.iconst 1, 1) := by decide +kernel
theorem dX9_days_2 : decode cX9_days 2 = .ok (.bipush 60, 2) := by decide +kernel
theorem dX9_days_4 : decode cX9_days 4 = .ok (.invokestatic 116, 3) := by decide +kernel
theorem dX9_days_7 : decode cX9_days 7 = .ok (.ifCond .ne 5, 3) := by decide +kernel
theorem dX9_days_10 : decode cX9_days 10 = .ok (.iconst (-1), 1) := by decide +kernel
theorem dX9_days_11 : decode cX9_days 11 = .ok (.ireturn, 1) := by decide +kernel
theorem dX9_days_12 : decode cX9_days 12 = .ok (.aload_n 0, 1) := by decide +kernel
theorem dX9_days_13 : decode cX9_days 13 = .ok (.getfield 166, 3) := by decide +kernel
theorem dX9_days_16 : decode cX9_days 16 = .ok (.iload_n 1, 1) := by decide +kernel
theorem dX9_days_17 : decode cX9_days 17 = .ok (.iadd, 1) := by decide +kernel
theorem dX9_days_18 : decode cX9_days 18 = .ok (.bipush 60, 2) := by decide +kernel
theorem dX9_days_20 : decode cX9_days 20 = .ok (.if_icmp .le 6, 3) := by decide +kernel
theorem dX9_days_23 : decode cX9_days 23 = .ok (.bipush (-5), 2) := by decide +kernel
theorem dX9_days_25 : decode cX9_days 25 = .ok (.ireturn, 1) := by decide +kernel
theorem dX9_days_26 : decode cX9_days 26 = .ok (.iconst 0, 1) := by decide +kernel
theorem dX9_days_27 : decode cX9_days 27 = .ok (.istore_n 2, 1) := by decide +kernel
theorem dX9_days_28 : decode cX9_days 28 = .ok (.iconst 0, 1) := by decide +kernel
theorem dX9_days_29 : decode cX9_days 29 = .ok (.istore_n 3, 1) := by decide +kernel
theorem dX9_days_30 : decode cX9_days 30 = .ok (.iload_n 3, 1) := by decide +kernel
theorem dX9_days_31 : decode cX9_days 31 = .ok (.iload_n 1, 1) := by decide +kernel
theorem dX9_days_32 : decode cX9_days 32 = .ok (.if_icmp .ge 24, 3) := by decide +kernel
theorem dX9_days_35 : decode cX9_days 35 = .ok (.iload_n 2, 1) := by decide +kernel
theorem dX9_days_36 : decode cX9_days 36 = .ok (.aload_n 0, 1) := by decide +kernel
theorem dX9_days_37 : decode cX9_days 37 = .ok (.aload_n 0, 1) := by decide +kernel
theorem dX9_days_38 : decode cX9_days 38 = .ok (.aload_n 0, 1) := by decide +kernel
theorem dX9_days_39 : decode cX9_days 39 = .ok (.getfield 166, 3) := by decide +kernel
theorem dX9_days_42 : decode cX9_days 42 = .ok (.invokevirtual 258, 3) := by decide +kernel
theorem dX9_days_45 : decode cX9_days 45 = .ok (.invokevirtual 290, 3) := by decide +kernel
theorem dX9_days_48 : decode cX9_days 48 = .ok (.iadd, 1) := by decide +kernel
theorem dX9_days_49 : decode cX9_days 49 = .ok (.istore_n 2, 1) := by decide +kernel
theorem dX9_days_50 : decode cX9_days 50 = .ok (.iinc 3 1, 3) := by decide +kernel
theorem dX9_days_53 : decode cX9_days 53 = .ok (.goto (-23), 3) := by decide +kernel
theorem dX9_days_56 : decode cX9_days 56 = .ok (.iload_n 2, 1) := by decide +kernel
theorem dX9_days_57 : decode cX9_days 57 = .ok (.ireturn, 1) := by decide +kernel
theorem dX9_led_0 : decode cX9_led 0 = .ok (.iload_n 1, 1) := by decide +kernel
theorem dX9_led_1 : decode cX9_led 1 = .ok (.iconst 0, 1) := by decide +kernel
theorem dX9_led_2 : decode cX9_led 2 = .ok (.aload_n 0, 1) := by decide +kernel
theorem dX9_led_3 : decode cX9_led 3 = .ok (.getfield 166, 3) := by decide +kernel
theorem dX9_led_6 : decode cX9_led 6 = .ok (.iconst 1, 1) := by decide +kernel
theorem dX9_led_7 : decode cX9_led 7 = .ok (.isub, 1) := by decide +kernel
theorem dX9_led_8 : decode cX9_led 8 = .ok (.invokestatic 116, 3) := by decide +kernel
theorem dX9_led_11 : decode cX9_led 11 = .ok (.ifCond .eq 12, 3) := by decide +kernel
theorem dX9_led_14 : decode cX9_led 14 = .ok (.iload_n 2, 1) := by decide +kernel
theorem dX9_led_15 : decode cX9_led 15 = .ok (.iconst 0, 1) := by decide +kernel
theorem dX9_led_16 : decode cX9_led 16 = .ok (.iconst 1, 1) := by decide +kernel
theorem dX9_led_17 : decode cX9_led 17 = .ok (.invokestatic 116, 3) := by decide +kernel
theorem dX9_led_20 : decode cX9_led 20 = .ok (.ifCond .ne 5, 3) := by decide +kernel
theorem dX9_led_23 : decode cX9_led 23 = .ok (.iconst (-1), 1) := by decide +kernel
theorem dX9_led_24 : decode cX9_led 24 = .ok (.ireturn, 1) := by decide +kernel
theorem dX9_led_25 : decode cX9_led 25 = .ok (.iload_n 2, 1) := by decide +kernel
theorem dX9_led_26 : decode cX9_led 26 = .ok (.ifCond .ne 12, 3) := by decide +kernel
theorem dX9_led_29 : decode cX9_led 29 = .ok (.aload_n 0, 1) := by decide +kernel
theorem dX9_led_30 : decode cX9_led 30 = .ok (.getfield 32, 3) := by decide +kernel
theorem dX9_led_33 : decode cX9_led 33 = .ok (.iload_n 1, 1) := by decide +kernel
theorem dX9_led_34 : decode cX9_led 34 = .ok (.iaload, 1) := by decide +kernel
theorem dX9_led_35 : decode cX9_led 35 = .ok (.goto 9, 3) := by decide +kernel
theorem dX9_led_38 : decode cX9_led 38 = .ok (.aload_n 0, 1) := by decide +kernel
theorem dX9_led_39 : decode cX9_led 39 = .ok (.getfield 35, 3) := by decide +kernel
theorem dX9_led_42 : decode cX9_led 42 = .ok (.iload_n 1, 1) := by decide +kernel
theorem dX9_led_43 : decode cX9_led 43 = .ok (.iaload, 1) := by decide +kernel
theorem dX9_led_44 : decode cX9_led 44 = .ok (.ireturn, 1) := by decide +kernel
theorem dX9_rowFault_0 : decode cX9_rowFault 0 = .ok (.aload_n 0, 1) := by decide +kernel
theorem dX9_rowFault_1 : decode cX9_rowFault 1 = .ok (.getfield 100, 3) := by decide +kernel
theorem dX9_rowFault_4 : decode cX9_rowFault 4 = .ok (.iload_n 1, 1) := by decide +kernel
theorem dX9_rowFault_5 : decode cX9_rowFault 5 = .ok (.iaload, 1) := by decide +kernel
theorem dX9_rowFault_6 : decode cX9_rowFault 6 = .ok (.iconst (-1), 1) := by decide +kernel
theorem dX9_rowFault_7 : decode cX9_rowFault 7 = .ok (.if_icmp .ne 8, 3) := by decide +kernel
theorem dX9_rowFault_10 : decode cX9_rowFault 10 = .ok (.bipush (-11), 2) := by decide +kernel
theorem dX9_rowFault_12 : decode cX9_rowFault 12 = .ok (.goto 20, 3) := by decide +kernel
theorem dX9_rowFault_15 : decode cX9_rowFault 15 = .ok (.aload_n 0, 1) := by decide +kernel
theorem dX9_rowFault_16 : decode cX9_rowFault 16 = .ok (.getfield 100, 3) := by decide +kernel
theorem dX9_rowFault_19 : decode cX9_rowFault 19 = .ok (.iload_n 1, 1) := by decide +kernel
theorem dX9_rowFault_20 : decode cX9_rowFault 20 = .ok (.iaload, 1) := by decide +kernel
theorem dX9_rowFault_21 : decode cX9_rowFault 21 = .ok (.bipush (-2), 2) := by decide +kernel
theorem dX9_rowFault_23 : decode cX9_rowFault 23 = .ok (.if_icmp .ne 7, 3) := by decide +kernel
theorem dX9_rowFault_26 : decode cX9_rowFault 26 = .ok (.iconst 0, 1) := by decide +kernel
theorem dX9_rowFault_27 : decode cX9_rowFault 27 = .ok (.goto 5, 3) := by decide +kernel
theorem dX9_rowFault_30 : decode cX9_rowFault 30 = .ok (.bipush (-12), 2) := by decide +kernel
theorem dX9_rowFault_32 : decode cX9_rowFault 32 = .ok (.ireturn, 1) := by decide +kernel
theorem dX9_byteAt_0 : decode cX9_byteAt 0 = .ok (.aload_n 0, 1) := by decide +kernel
theorem dX9_byteAt_1 : decode cX9_byteAt 1 = .ok (.getfield 106, 3) := by decide +kernel
theorem dX9_byteAt_4 : decode cX9_byteAt 4 = .ok (.bipush 60, 2) := by decide +kernel
theorem dX9_byteAt_6 : decode cX9_byteAt 6 = .ok (.iload_n 1, 1) := by decide +kernel
theorem dX9_byteAt_7 : decode cX9_byteAt 7 = .ok (.imul, 1) := by decide +kernel
theorem dX9_byteAt_8 : decode cX9_byteAt 8 = .ok (.iload_n 2, 1) := by decide +kernel
theorem dX9_byteAt_9 : decode cX9_byteAt 9 = .ok (.iadd, 1) := by decide +kernel
theorem dX9_byteAt_10 : decode cX9_byteAt 10 = .ok (.laload, 1) := by decide +kernel
theorem dX9_byteAt_11 : decode cX9_byteAt 11 = .ok (.l2i, 1) := by decide +kernel
theorem dX9_byteAt_12 : decode cX9_byteAt 12 = .ok (.ireturn, 1) := by decide +kernel
theorem dX9_orderAt_0 : decode cX9_orderAt 0 = .ok (.aload_n 0, 1) := by decide +kernel
theorem dX9_orderAt_1 : decode cX9_orderAt 1 = .ok (.iload_n 1, 1) := by decide +kernel
theorem dX9_orderAt_2 : decode cX9_orderAt 2 = .ok (.iload_n 2, 1) := by decide +kernel
theorem dX9_orderAt_3 : decode cX9_orderAt 3 = .ok (.invokevirtual 293, 3) := by decide +kernel
theorem dX9_orderAt_6 : decode cX9_orderAt 6 = .ok (.iconst 0, 1) := by decide +kernel
theorem dX9_orderAt_7 : decode cX9_orderAt 7 = .ok (.iconst 5, 1) := by decide +kernel
theorem dX9_orderAt_8 : decode cX9_orderAt 8 = .ok (.invokestatic 116, 3) := by decide +kernel
theorem dX9_orderAt_11 : decode cX9_orderAt 11 = .ok (.ifCond .eq 12, 3) := by decide +kernel
theorem dX9_orderAt_14 : decode cX9_orderAt 14 = .ok (.aload_n 0, 1) := by decide +kernel
theorem dX9_orderAt_15 : decode cX9_orderAt 15 = .ok (.iload_n 1, 1) := by decide +kernel
theorem dX9_orderAt_16 : decode cX9_orderAt 16 = .ok (.iload_n 2, 1) := by decide +kernel
theorem dX9_orderAt_17 : decode cX9_orderAt 17 = .ok (.invokevirtual 293, 3) := by decide +kernel
theorem dX9_orderAt_20 : decode cX9_orderAt 20 = .ok (.goto 4, 3) := by decide +kernel
theorem dX9_orderAt_23 : decode cX9_orderAt 23 = .ok (.iconst 0, 1) := by decide +kernel
theorem dX9_orderAt_24 : decode cX9_orderAt 24 = .ok (.ireturn, 1) := by decide +kernel
theorem dX9_tellThought_0 : decode cX9_tellThought 0 = .ok (.iload_n 1, 1) := by decide +kernel
theorem dX9_tellThought_1 : decode cX9_tellThought 1 = .ok (.ifCond .ne 10, 3) := by decide +kernel
theorem dX9_tellThought_4 : decode cX9_tellThought 4 = .ok (.aload_n 0, 1) := by decide +kernel
theorem dX9_tellThought_5 : decode cX9_tellThought 5 = .ok (.getfield 169, 3) := by decide +kernel
theorem dX9_tellThought_8 : decode cX9_tellThought 8 = .ok (.goto 42, 3) := by decide +kernel
theorem dX9_tellThought_11 : decode cX9_tellThought 11 = .ok (.iload_n 1, 1) := by decide +kernel
theorem dX9_tellThought_12 : decode cX9_tellThought 12 = .ok (.iconst 1, 1) := by decide +kernel
theorem dX9_tellThought_13 : decode cX9_tellThought 13 = .ok (.if_icmp .ne 10, 3) := by decide +kernel
theorem dX9_tellThought_16 : decode cX9_tellThought 16 = .ok (.aload_n 0, 1) := by decide +kernel
theorem dX9_tellThought_17 : decode cX9_tellThought 17 = .ok (.getfield 29, 3) := by decide +kernel
theorem dX9_tellThought_20 : decode cX9_tellThought 20 = .ok (.goto 30, 3) := by decide +kernel
theorem dX9_tellThought_23 : decode cX9_tellThought 23 = .ok (.iload_n 1, 1) := by decide +kernel
theorem dX9_tellThought_24 : decode cX9_tellThought 24 = .ok (.iconst 2, 1) := by decide +kernel
theorem dX9_tellThought_25 : decode cX9_tellThought 25 = .ok (.if_icmp .ne 10, 3) := by decide +kernel
theorem dX9_tellThought_28 : decode cX9_tellThought 28 = .ok (.aload_n 0, 1) := by decide +kernel
theorem dX9_tellThought_29 : decode cX9_tellThought 29 = .ok (.getfield 172, 3) := by decide +kernel
theorem dX9_tellThought_32 : decode cX9_tellThought 32 = .ok (.goto 18, 3) := by decide +kernel
theorem dX9_tellThought_35 : decode cX9_tellThought 35 = .ok (.aload_n 0, 1) := by decide +kernel
theorem dX9_tellThought_36 : decode cX9_tellThought 36 = .ok (.getfield 124, 3) := by decide +kernel
theorem dX9_tellThought_39 : decode cX9_tellThought 39 = .ok (.invokestatic 175, 3) := by decide +kernel
theorem dX9_tellThought_42 : decode cX9_tellThought 42 = .ok (.aload_n 0, 1) := by decide +kernel
theorem dX9_tellThought_43 : decode cX9_tellThought 43 = .ok (.getfield 270, 3) := by decide +kernel
theorem dX9_tellThought_46 : decode cX9_tellThought 46 = .ok (.invokestatic 175, 3) := by decide +kernel
theorem dX9_tellThought_49 : decode cX9_tellThought 49 = .ok (.isub, 1) := by decide +kernel
theorem dX9_tellThought_50 : decode cX9_tellThought 50 = .ok (.istore_n 2, 1) := by decide +kernel
theorem dX9_tellThought_51 : decode cX9_tellThought 51 = .ok (.aload_n 0, 1) := by decide +kernel
theorem dX9_tellThought_52 : decode cX9_tellThought 52 = .ok (.invokevirtual 296, 3) := by decide +kernel
theorem dX9_tellThought_55 : decode cX9_tellThought 55 = .ok (.iload_n 2, 1) := by decide +kernel
theorem dX9_tellThought_56 : decode cX9_tellThought 56 = .ok (.ireturn, 1) := by decide +kernel
theorem dX9_run_0 : decode cX9_run 0 = .ok (.iload_n 1, 1) := by decide +kernel
theorem dX9_run_1 : decode cX9_run 1 = .ok (.invokestatic 179, 3) := by decide +kernel
theorem dX9_run_4 : decode cX9_run 4 = .ok (.ifCond .eq 16, 3) := by decide +kernel
theorem dX9_run_7 : decode cX9_run 7 = .ok (.iload_n 2, 1) := by decide +kernel
theorem dX9_run_8 : decode cX9_run 8 = .ok (.ifCond .lt 12, 3) := by decide +kernel
theorem dX9_run_11 : decode cX9_run 11 = .ok (.iload_n 3, 1) := by decide +kernel
theorem dX9_run_12 : decode cX9_run 12 = .ok (.iconst 0, 1) := by decide +kernel
theorem dX9_run_13 : decode cX9_run 13 = .ok (.iconst 3, 1) := by decide +kernel
theorem dX9_run_14 : decode cX9_run 14 = .ok (.invokestatic 116, 3) := by decide +kernel
theorem dX9_run_17 : decode cX9_run 17 = .ok (.ifCond .ne 5, 3) := by decide +kernel
theorem dX9_run_20 : decode cX9_run 20 = .ok (.iconst (-1), 1) := by decide +kernel
theorem dX9_run_21 : decode cX9_run 21 = .ok (.ireturn, 1) := by decide +kernel
theorem dX9_run_22 : decode cX9_run 22 = .ok (.aload_n 0, 1) := by decide +kernel
theorem dX9_run_23 : decode cX9_run 23 = .ok (.iload_n 1, 1) := by decide +kernel
theorem dX9_run_24 : decode cX9_run 24 = .ok (.invokevirtual 299, 3) := by decide +kernel
theorem dX9_run_27 : decode cX9_run 27 = .ok (.ifCond .ge 9, 3) := by decide +kernel
theorem dX9_run_30 : decode cX9_run 30 = .ok (.aload_n 0, 1) := by decide +kernel
theorem dX9_run_31 : decode cX9_run 31 = .ok (.iload_n 1, 1) := by decide +kernel
theorem dX9_run_32 : decode cX9_run 32 = .ok (.invokevirtual 299, 3) := by decide +kernel
theorem dX9_run_35 : decode cX9_run 35 = .ok (.ireturn, 1) := by decide +kernel
theorem dX9_run_36 : decode cX9_run 36 = .ok (.iload_n 2, 1) := by decide +kernel
theorem dX9_run_37 : decode cX9_run 37 = .ok (.aload_n 0, 1) := by decide +kernel
theorem dX9_run_38 : decode cX9_run 38 = .ok (.getfield 103, 3) := by decide +kernel
theorem dX9_run_41 : decode cX9_run 41 = .ok (.iload_n 1, 1) := by decide +kernel
theorem dX9_run_42 : decode cX9_run 42 = .ok (.iaload, 1) := by decide +kernel
theorem dX9_run_43 : decode cX9_run 43 = .ok (.if_icmp .gt 14, 3) := by decide +kernel
theorem dX9_run_46 : decode cX9_run 46 = .ok (.iload_n 2, 1) := by decide +kernel
theorem dX9_run_47 : decode cX9_run 47 = .ok (.bipush 60, 2) := by decide +kernel
theorem dX9_run_49 : decode cX9_run 49 = .ok (.aload_n 0, 1) := by decide +kernel
theorem dX9_run_50 : decode cX9_run 50 = .ok (.getfield 166, 3) := by decide +kernel
theorem dX9_run_53 : decode cX9_run 53 = .ok (.isub, 1) := by decide +kernel
theorem dX9_run_54 : decode cX9_run 54 = .ok (.if_icmp .le 6, 3) := by decide +kernel
theorem dX9_run_57 : decode cX9_run 57 = .ok (.bipush (-5), 2) := by decide +kernel
theorem dX9_run_59 : decode cX9_run 59 = .ok (.ireturn, 1) := by decide +kernel
theorem dX9_run_60 : decode cX9_run 60 = .ok (.aload_n 0, 1) := by decide +kernel
theorem dX9_run_61 : decode cX9_run 61 = .ok (.invokevirtual 302, 3) := by decide +kernel
theorem dX9_run_64 : decode cX9_run 64 = .ok (.iconst 0, 1) := by decide +kernel
theorem dX9_run_65 : decode cX9_run 65 = .ok (.istore 4, 2) := by decide +kernel
theorem dX9_run_67 : decode cX9_run 67 = .ok (.iload 4, 2) := by decide +kernel
theorem dX9_run_69 : decode cX9_run 69 = .ok (.iload_n 2, 1) := by decide +kernel
theorem dX9_run_70 : decode cX9_run 70 = .ok (.if_icmp .ge 28, 3) := by decide +kernel
theorem dX9_run_73 : decode cX9_run 73 = .ok (.aload_n 0, 1) := by decide +kernel
theorem dX9_run_74 : decode cX9_run 74 = .ok (.aload_n 0, 1) := by decide +kernel
theorem dX9_run_75 : decode cX9_run 75 = .ok (.iload_n 1, 1) := by decide +kernel
theorem dX9_run_76 : decode cX9_run 76 = .ok (.iload 4, 2) := by decide +kernel
theorem dX9_run_78 : decode cX9_run 78 = .ok (.invokevirtual 305, 3) := by decide +kernel
theorem dX9_run_81 : decode cX9_run 81 = .ok (.aload_n 0, 1) := by decide +kernel
theorem dX9_run_82 : decode cX9_run 82 = .ok (.getfield 166, 3) := by decide +kernel
theorem dX9_run_85 : decode cX9_run 85 = .ok (.iload 4, 2) := by decide +kernel
theorem dX9_run_87 : decode cX9_run 87 = .ok (.iadd, 1) := by decide +kernel
theorem dX9_run_88 : decode cX9_run 88 = .ok (.invokevirtual 287, 3) := by decide +kernel
theorem dX9_run_91 : decode cX9_run 91 = .ok (.pop, 1) := by decide +kernel
theorem dX9_run_92 : decode cX9_run 92 = .ok (.iinc 4 1, 3) := by decide +kernel
theorem dX9_run_95 : decode cX9_run 95 = .ok (.goto (-28), 3) := by decide +kernel
theorem dX9_run_98 : decode cX9_run 98 = .ok (.aload_n 0, 1) := by decide +kernel
theorem dX9_run_99 : decode cX9_run 99 = .ok (.iload_n 3, 1) := by decide +kernel
theorem dX9_run_100 : decode cX9_run 100 = .ok (.invokevirtual 308, 3) := by decide +kernel
theorem dX9_run_103 : decode cX9_run 103 = .ok (.ireturn, 1) := by decide +kernel
theorem dX9_first_0 : decode cX9_first 0 = .ok (.iload_n 1, 1) := by decide +kernel
theorem dX9_first_1 : decode cX9_first 1 = .ok (.invokestatic 179, 3) := by decide +kernel
theorem dX9_first_4 : decode cX9_first 4 = .ok (.ifCond .ne 5, 3) := by decide +kernel
theorem dX9_first_7 : decode cX9_first 7 = .ok (.iconst (-1), 1) := by decide +kernel
theorem dX9_first_8 : decode cX9_first 8 = .ok (.ireturn, 1) := by decide +kernel
theorem dX9_first_9 : decode cX9_first 9 = .ok (.aload_n 0, 1) := by decide +kernel
theorem dX9_first_10 : decode cX9_first 10 = .ok (.iload_n 1, 1) := by decide +kernel
theorem dX9_first_11 : decode cX9_first 11 = .ok (.invokevirtual 299, 3) := by decide +kernel
theorem dX9_first_14 : decode cX9_first 14 = .ok (.ifCond .ge 9, 3) := by decide +kernel
theorem dX9_first_17 : decode cX9_first 17 = .ok (.aload_n 0, 1) := by decide +kernel
theorem dX9_first_18 : decode cX9_first 18 = .ok (.iload_n 1, 1) := by decide +kernel
theorem dX9_first_19 : decode cX9_first 19 = .ok (.invokevirtual 299, 3) := by decide +kernel
theorem dX9_first_22 : decode cX9_first 22 = .ok (.ireturn, 1) := by decide +kernel
theorem dX9_first_23 : decode cX9_first 23 = .ok (.aload_n 0, 1) := by decide +kernel
theorem dX9_first_24 : decode cX9_first 24 = .ok (.invokevirtual 302, 3) := by decide +kernel
theorem dX9_first_27 : decode cX9_first 27 = .ok (.bipush (-2), 2) := by decide +kernel
theorem dX9_first_29 : decode cX9_first 29 = .ok (.istore_n 2, 1) := by decide +kernel
theorem dX9_first_30 : decode cX9_first 30 = .ok (.iconst 0, 1) := by decide +kernel
theorem dX9_first_31 : decode cX9_first 31 = .ok (.istore_n 3, 1) := by decide +kernel
theorem dX9_first_32 : decode cX9_first 32 = .ok (.iload_n 3, 1) := by decide +kernel
theorem dX9_first_33 : decode cX9_first 33 = .ok (.aload_n 0, 1) := by decide +kernel
theorem dX9_first_34 : decode cX9_first 34 = .ok (.getfield 103, 3) := by decide +kernel
theorem dX9_first_37 : decode cX9_first 37 = .ok (.iload_n 1, 1) := by decide +kernel
theorem dX9_first_38 : decode cX9_first 38 = .ok (.iaload, 1) := by decide +kernel
theorem dX9_first_39 : decode cX9_first 39 = .ok (.if_icmp .ge 45, 3) := by decide +kernel
theorem dX9_first_42 : decode cX9_first 42 = .ok (.aload_n 0, 1) := by decide +kernel
theorem dX9_first_43 : decode cX9_first 43 = .ok (.getfield 166, 3) := by decide +kernel
theorem dX9_first_46 : decode cX9_first 46 = .ok (.iload_n 3, 1) := by decide +kernel
theorem dX9_first_47 : decode cX9_first 47 = .ok (.iadd, 1) := by decide +kernel
theorem dX9_first_48 : decode cX9_first 48 = .ok (.bipush 60, 2) := by decide +kernel
theorem dX9_first_50 : decode cX9_first 50 = .ok (.if_icmp .ge 34, 3) := by decide +kernel
theorem dX9_first_53 : decode cX9_first 53 = .ok (.iload_n 2, 1) := by decide +kernel
theorem dX9_first_54 : decode cX9_first 54 = .ok (.ifCond .ge 30, 3) := by decide +kernel
theorem dX9_first_57 : decode cX9_first 57 = .ok (.aload_n 0, 1) := by decide +kernel
theorem dX9_first_58 : decode cX9_first 58 = .ok (.aload_n 0, 1) := by decide +kernel
theorem dX9_first_59 : decode cX9_first 59 = .ok (.iload_n 1, 1) := by decide +kernel
theorem dX9_first_60 : decode cX9_first 60 = .ok (.iload_n 3, 1) := by decide +kernel
theorem dX9_first_61 : decode cX9_first 61 = .ok (.invokevirtual 305, 3) := by decide +kernel
theorem dX9_first_64 : decode cX9_first 64 = .ok (.aload_n 0, 1) := by decide +kernel
theorem dX9_first_65 : decode cX9_first 65 = .ok (.getfield 166, 3) := by decide +kernel
theorem dX9_first_68 : decode cX9_first 68 = .ok (.iload_n 3, 1) := by decide +kernel
theorem dX9_first_69 : decode cX9_first 69 = .ok (.iadd, 1) := by decide +kernel
theorem dX9_first_70 : decode cX9_first 70 = .ok (.invokevirtual 287, 3) := by decide +kernel
theorem dX9_first_73 : decode cX9_first 73 = .ok (.ifCond .ne 5, 3) := by decide +kernel
theorem dX9_first_76 : decode cX9_first 76 = .ok (.iload_n 3, 1) := by decide +kernel
theorem dX9_first_77 : decode cX9_first 77 = .ok (.istore_n 2, 1) := by decide +kernel
theorem dX9_first_78 : decode cX9_first 78 = .ok (.iinc 3 1, 3) := by decide +kernel
theorem dX9_first_81 : decode cX9_first 81 = .ok (.goto (-49), 3) := by decide +kernel
theorem dX9_first_84 : decode cX9_first 84 = .ok (.aload_n 0, 1) := by decide +kernel
theorem dX9_first_85 : decode cX9_first 85 = .ok (.invokevirtual 296, 3) := by decide +kernel
theorem dX9_first_88 : decode cX9_first 88 = .ok (.iload_n 2, 1) := by decide +kernel
theorem dX9_first_89 : decode cX9_first 89 = .ok (.ireturn, 1) := by decide +kernel
theorem dX9_lawful_0 : decode cX9_lawful 0 = .ok (.iload_n 1, 1) := by decide +kernel
theorem dX9_lawful_1 : decode cX9_lawful 1 = .ok (.iconst 0, 1) := by decide +kernel
theorem dX9_lawful_2 : decode cX9_lawful 2 = .ok (.bipush 60, 2) := by decide +kernel
theorem dX9_lawful_4 : decode cX9_lawful 4 = .ok (.invokestatic 116, 3) := by decide +kernel
theorem dX9_lawful_7 : decode cX9_lawful 7 = .ok (.ifCond .eq 12, 3) := by decide +kernel
theorem dX9_lawful_10 : decode cX9_lawful 10 = .ok (.iload_n 2, 1) := by decide +kernel
theorem dX9_lawful_11 : decode cX9_lawful 11 = .ok (.iconst 0, 1) := by decide +kernel
theorem dX9_lawful_12 : decode cX9_lawful 12 = .ok (.iconst 3, 1) := by decide +kernel
theorem dX9_lawful_13 : decode cX9_lawful 13 = .ok (.invokestatic 116, 3) := by decide +kernel
theorem dX9_lawful_16 : decode cX9_lawful 16 = .ok (.ifCond .ne 5, 3) := by decide +kernel
theorem dX9_lawful_19 : decode cX9_lawful 19 = .ok (.iconst (-1), 1) := by decide +kernel
theorem dX9_lawful_20 : decode cX9_lawful 20 = .ok (.ireturn, 1) := by decide +kernel
theorem dX9_lawful_21 : decode cX9_lawful 21 = .ok (.iload_n 1, 1) := by decide +kernel
theorem dX9_lawful_22 : decode cX9_lawful 22 = .ok (.bipush 60, 2) := by decide +kernel
theorem dX9_lawful_24 : decode cX9_lawful 24 = .ok (.aload_n 0, 1) := by decide +kernel
theorem dX9_lawful_25 : decode cX9_lawful 25 = .ok (.getfield 166, 3) := by decide +kernel
theorem dX9_lawful_28 : decode cX9_lawful 28 = .ok (.isub, 1) := by decide +kernel
theorem dX9_lawful_29 : decode cX9_lawful 29 = .ok (.if_icmp .le 6, 3) := by decide +kernel
theorem dX9_lawful_32 : decode cX9_lawful 32 = .ok (.bipush (-5), 2) := by decide +kernel
theorem dX9_lawful_34 : decode cX9_lawful 34 = .ok (.ireturn, 1) := by decide +kernel
theorem dX9_lawful_35 : decode cX9_lawful 35 = .ok (.aload_n 0, 1) := by decide +kernel
theorem dX9_lawful_36 : decode cX9_lawful 36 = .ok (.invokevirtual 302, 3) := by decide +kernel
theorem dX9_lawful_39 : decode cX9_lawful 39 = .ok (.iconst 0, 1) := by decide +kernel
theorem dX9_lawful_40 : decode cX9_lawful 40 = .ok (.istore_n 3, 1) := by decide +kernel
theorem dX9_lawful_41 : decode cX9_lawful 41 = .ok (.iload_n 3, 1) := by decide +kernel
theorem dX9_lawful_42 : decode cX9_lawful 42 = .ok (.iload_n 1, 1) := by decide +kernel
theorem dX9_lawful_43 : decode cX9_lawful 43 = .ok (.if_icmp .ge 30, 3) := by decide +kernel
theorem dX9_lawful_46 : decode cX9_lawful 46 = .ok (.aload_n 0, 1) := by decide +kernel
theorem dX9_lawful_47 : decode cX9_lawful 47 = .ok (.aload_n 0, 1) := by decide +kernel
theorem dX9_lawful_48 : decode cX9_lawful 48 = .ok (.aload_n 0, 1) := by decide +kernel
theorem dX9_lawful_49 : decode cX9_lawful 49 = .ok (.getfield 166, 3) := by decide +kernel
theorem dX9_lawful_52 : decode cX9_lawful 52 = .ok (.iload_n 3, 1) := by decide +kernel
theorem dX9_lawful_53 : decode cX9_lawful 53 = .ok (.iadd, 1) := by decide +kernel
theorem dX9_lawful_54 : decode cX9_lawful 54 = .ok (.invokevirtual 258, 3) := by decide +kernel
theorem dX9_lawful_57 : decode cX9_lawful 57 = .ok (.aload_n 0, 1) := by decide +kernel
theorem dX9_lawful_58 : decode cX9_lawful 58 = .ok (.getfield 166, 3) := by decide +kernel
theorem dX9_lawful_61 : decode cX9_lawful 61 = .ok (.iload_n 3, 1) := by decide +kernel
theorem dX9_lawful_62 : decode cX9_lawful 62 = .ok (.iadd, 1) := by decide +kernel
theorem dX9_lawful_63 : decode cX9_lawful 63 = .ok (.invokevirtual 287, 3) := by decide +kernel
theorem dX9_lawful_66 : decode cX9_lawful 66 = .ok (.pop, 1) := by decide +kernel
theorem dX9_lawful_67 : decode cX9_lawful 67 = .ok (.iinc 3 1, 3) := by decide +kernel
theorem dX9_lawful_70 : decode cX9_lawful 70 = .ok (.goto (-29), 3) := by decide +kernel
theorem dX9_lawful_73 : decode cX9_lawful 73 = .ok (.aload_n 0, 1) := by decide +kernel
theorem dX9_lawful_74 : decode cX9_lawful 74 = .ok (.iload_n 2, 1) := by decide +kernel
theorem dX9_lawful_75 : decode cX9_lawful 75 = .ok (.invokevirtual 308, 3) := by decide +kernel
theorem dX9_lawful_78 : decode cX9_lawful 78 = .ok (.ireturn, 1) := by decide +kernel
theorem dX9_findFar_0 : decode cX9_findFar 0 = .ok (.iconst 0, 1) := by decide +kernel
theorem dX9_findFar_1 : decode cX9_findFar 1 = .ok (.istore_n 2, 1) := by decide +kernel
theorem dX9_findFar_2 : decode cX9_findFar 2 = .ok (.iload_n 2, 1) := by decide +kernel
theorem dX9_findFar_3 : decode cX9_findFar 3 = .ok (.bipush 36, 2) := by decide +kernel
theorem dX9_findFar_5 : decode cX9_findFar 5 = .ok (.if_icmp .ge 27, 3) := by decide +kernel
theorem dX9_findFar_8 : decode cX9_findFar 8 = .ok (.aload_n 0, 1) := by decide +kernel
theorem dX9_findFar_9 : decode cX9_findFar 9 = .ok (.getfield 76, 3) := by decide +kernel
theorem dX9_findFar_12 : decode cX9_findFar 12 = .ok (.iload_n 2, 1) := by decide +kernel
theorem dX9_findFar_13 : decode cX9_findFar 13 = .ok (.iload_n 2, 1) := by decide +kernel
theorem dX9_findFar_14 : decode cX9_findFar 14 = .ok (.iload_n 1, 1) := by decide +kernel
theorem dX9_findFar_15 : decode cX9_findFar 15 = .ok (.if_icmp .ne 7, 3) := by decide +kernel
theorem dX9_findFar_18 : decode cX9_findFar 18 = .ok (.iconst 0, 1) := by decide +kernel
theorem dX9_findFar_19 : decode cX9_findFar 19 = .ok (.goto 6, 3) := by decide +kernel
theorem dX9_findFar_22 : decode cX9_findFar 22 = .ok (.ldc_w 311, 3) := by decide +kernel
theorem dX9_findFar_25 : decode cX9_findFar 25 = .ok (.iastore, 1) := by decide +kernel
theorem dX9_findFar_26 : decode cX9_findFar 26 = .ok (.iinc 2 1, 3) := by decide +kernel
theorem dX9_findFar_29 : decode cX9_findFar 29 = .ok (.goto (-27), 3) := by decide +kernel
theorem dX9_findFar_32 : decode cX9_findFar 32 = .ok (.iconst 1, 1) := by decide +kernel
theorem dX9_findFar_33 : decode cX9_findFar 33 = .ok (.istore_n 2, 1) := by decide +kernel
theorem dX9_findFar_34 : decode cX9_findFar 34 = .ok (.iload_n 2, 1) := by decide +kernel
theorem dX9_findFar_35 : decode cX9_findFar 35 = .ok (.ifCond .eq 113, 3) := by decide +kernel
theorem dX9_findFar_38 : decode cX9_findFar 38 = .ok (.iconst 0, 1) := by decide +kernel
theorem dX9_findFar_39 : decode cX9_findFar 39 = .ok (.istore_n 2, 1) := by decide +kernel
theorem dX9_findFar_40 : decode cX9_findFar 40 = .ok (.iconst 0, 1) := by decide +kernel
theorem dX9_findFar_41 : decode cX9_findFar 41 = .ok (.istore_n 3, 1) := by decide +kernel
theorem dX9_findFar_42 : decode cX9_findFar 42 = .ok (.iload_n 3, 1) := by decide +kernel
theorem dX9_findFar_43 : decode cX9_findFar 43 = .ok (.bipush 36, 2) := by decide +kernel
theorem dX9_findFar_45 : decode cX9_findFar 45 = .ok (.if_icmp .ge 100, 3) := by decide +kernel
theorem dX9_findFar_48 : decode cX9_findFar 48 = .ok (.iconst 1, 1) := by decide +kernel
theorem dX9_findFar_49 : decode cX9_findFar 49 = .ok (.istore 4, 2) := by decide +kernel
theorem dX9_findFar_51 : decode cX9_findFar 51 = .ok (.iload 4, 2) := by decide +kernel
theorem dX9_findFar_53 : decode cX9_findFar 53 = .ok (.iconst 4, 1) := by decide +kernel
theorem dX9_findFar_54 : decode cX9_findFar 54 = .ok (.if_icmp .gt 85, 3) := by decide +kernel
theorem dX9_findFar_57 : decode cX9_findFar 57 = .ok (.iload_n 3, 1) := by decide +kernel
theorem dX9_findFar_58 : decode cX9_findFar 58 = .ok (.iload 4, 2) := by decide +kernel
theorem dX9_findFar_60 : decode cX9_findFar 60 = .ok (.invokestatic 120, 3) := by decide +kernel
theorem dX9_findFar_63 : decode cX9_findFar 63 = .ok (.istore 5, 2) := by decide +kernel
theorem dX9_findFar_65 : decode cX9_findFar 65 = .ok (.iload 5, 2) := by decide +kernel
theorem dX9_findFar_67 : decode cX9_findFar 67 = .ok (.ifCond .lt 66, 3) := by decide +kernel
theorem dX9_findFar_70 : decode cX9_findFar 70 = .ok (.aload_n 0, 1) := by decide +kernel
theorem dX9_findFar_71 : decode cX9_findFar 71 = .ok (.getfield 76, 3) := by decide +kernel
theorem dX9_findFar_74 : decode cX9_findFar 74 = .ok (.iload 5, 2) := by decide +kernel
theorem dX9_findFar_76 : decode cX9_findFar 76 = .ok (.iaload, 1) := by decide +kernel
theorem dX9_findFar_77 : decode cX9_findFar 77 = .ok (.ldc_w 311, 3) := by decide +kernel
theorem dX9_findFar_80 : decode cX9_findFar 80 = .ok (.if_icmp .eq 53, 3) := by decide +kernel
theorem dX9_findFar_83 : decode cX9_findFar 83 = .ok (.aload_n 0, 1) := by decide +kernel
theorem dX9_findFar_84 : decode cX9_findFar 84 = .ok (.getfield 76, 3) := by decide +kernel
theorem dX9_findFar_87 : decode cX9_findFar 87 = .ok (.iload 5, 2) := by decide +kernel
theorem dX9_findFar_89 : decode cX9_findFar 89 = .ok (.iaload, 1) := by decide +kernel
theorem dX9_findFar_90 : decode cX9_findFar 90 = .ok (.aload_n 0, 1) := by decide +kernel
theorem dX9_findFar_91 : decode cX9_findFar 91 = .ok (.iload_n 3, 1) := by decide +kernel
theorem dX9_findFar_92 : decode cX9_findFar 92 = .ok (.iload 4, 2) := by decide +kernel
theorem dX9_findFar_94 : decode cX9_findFar 94 = .ok (.invokevirtual 255, 3) := by decide +kernel
theorem dX9_findFar_97 : decode cX9_findFar 97 = .ok (.iadd, 1) := by decide +kernel
theorem dX9_findFar_98 : decode cX9_findFar 98 = .ok (.aload_n 0, 1) := by decide +kernel
theorem dX9_findFar_99 : decode cX9_findFar 99 = .ok (.getfield 76, 3) := by decide +kernel
theorem dX9_findFar_102 : decode cX9_findFar 102 = .ok (.iload_n 3, 1) := by decide +kernel
theorem dX9_findFar_103 : decode cX9_findFar 103 = .ok (.iaload, 1) := by decide +kernel
theorem dX9_findFar_104 : decode cX9_findFar 104 = .ok (.if_icmp .lt 6, 3) := by decide +kernel
theorem dX9_findFar_107 : decode cX9_findFar 107 = .ok (.goto 26, 3) := by decide +kernel
theorem dX9_findFar_110 : decode cX9_findFar 110 = .ok (.aload_n 0, 1) := by decide +kernel
theorem dX9_findFar_111 : decode cX9_findFar 111 = .ok (.getfield 76, 3) := by decide +kernel
theorem dX9_findFar_114 : decode cX9_findFar 114 = .ok (.iload_n 3, 1) := by decide +kernel
theorem dX9_findFar_115 : decode cX9_findFar 115 = .ok (.aload_n 0, 1) := by decide +kernel
theorem dX9_findFar_116 : decode cX9_findFar 116 = .ok (.getfield 76, 3) := by decide +kernel
theorem dX9_findFar_119 : decode cX9_findFar 119 = .ok (.iload 5, 2) := by decide +kernel
theorem dX9_findFar_121 : decode cX9_findFar 121 = .ok (.iaload, 1) := by decide +kernel
theorem dX9_findFar_122 : decode cX9_findFar 122 = .ok (.aload_n 0, 1) := by decide +kernel
theorem dX9_findFar_123 : decode cX9_findFar 123 = .ok (.iload_n 3, 1) := by decide +kernel
theorem dX9_findFar_124 : decode cX9_findFar 124 = .ok (.iload 4, 2) := by decide +kernel
theorem dX9_findFar_126 : decode cX9_findFar 126 = .ok (.invokevirtual 255, 3) := by decide +kernel
theorem dX9_findFar_129 : decode cX9_findFar 129 = .ok (.iadd, 1) := by decide +kernel
theorem dX9_findFar_130 : decode cX9_findFar 130 = .ok (.iastore, 1) := by decide +kernel
theorem dX9_findFar_131 : decode cX9_findFar 131 = .ok (.iconst 1, 1) := by decide +kernel
theorem dX9_findFar_132 : decode cX9_findFar 132 = .ok (.istore_n 2, 1) := by decide +kernel
theorem dX9_findFar_133 : decode cX9_findFar 133 = .ok (.iinc 4 1, 3) := by decide +kernel
theorem dX9_findFar_136 : decode cX9_findFar 136 = .ok (.goto (-85), 3) := by decide +kernel
theorem dX9_findFar_139 : decode cX9_findFar 139 = .ok (.iinc 3 1, 3) := by decide +kernel
theorem dX9_findFar_142 : decode cX9_findFar 142 = .ok (.goto (-100), 3) := by decide +kernel
theorem dX9_findFar_145 : decode cX9_findFar 145 = .ok (.goto (-111), 3) := by decide +kernel
theorem dX9_findFar_148 : decode cX9_findFar 148 = .ok (.return_, 1) := by decide +kernel
theorem dX9_cheapest_0 : decode cX9_cheapest 0 = .ok (.iload_n 1, 1) := by decide +kernel
theorem dX9_cheapest_1 : decode cX9_cheapest 1 = .ok (.ifCond .lt 32, 3) := by decide +kernel
theorem dX9_cheapest_4 : decode cX9_cheapest 4 = .ok (.iload_n 1, 1) := by decide +kernel
theorem dX9_cheapest_5 : decode cX9_cheapest 5 = .ok (.bipush 100, 2) := by decide +kernel
theorem dX9_cheapest_7 : decode cX9_cheapest 7 = .ok (.idiv, 1) := by decide +kernel
theorem dX9_cheapest_8 : decode cX9_cheapest 8 = .ok (.invokestatic 141, 3) := by decide +kernel
theorem dX9_cheapest_11 : decode cX9_cheapest 11 = .ok (.ifCond .eq 22, 3) := by decide +kernel
theorem dX9_cheapest_14 : decode cX9_cheapest 14 = .ok (.iload_n 1, 1) := by decide +kernel
theorem dX9_cheapest_15 : decode cX9_cheapest 15 = .ok (.bipush 100, 2) := by decide +kernel
theorem dX9_cheapest_17 : decode cX9_cheapest 17 = .ok (.irem, 1) := by decide +kernel
theorem dX9_cheapest_18 : decode cX9_cheapest 18 = .ok (.invokestatic 141, 3) := by decide +kernel
theorem dX9_cheapest_21 : decode cX9_cheapest 21 = .ok (.ifCond .eq 12, 3) := by decide +kernel
theorem dX9_cheapest_24 : decode cX9_cheapest 24 = .ok (.iload_n 2, 1) := by decide +kernel
theorem dX9_cheapest_25 : decode cX9_cheapest 25 = .ok (.iconst 0, 1) := by decide +kernel
theorem dX9_cheapest_26 : decode cX9_cheapest 26 = .ok (.iconst 1, 1) := by decide +kernel
theorem dX9_cheapest_27 : decode cX9_cheapest 27 = .ok (.invokestatic 116, 3) := by decide +kernel
theorem dX9_cheapest_30 : decode cX9_cheapest 30 = .ok (.ifCond .ne 5, 3) := by decide +kernel
theorem dX9_cheapest_33 : decode cX9_cheapest 33 = .ok (.iconst (-1), 1) := by decide +kernel
theorem dX9_cheapest_34 : decode cX9_cheapest 34 = .ok (.ireturn, 1) := by decide +kernel
theorem dX9_cheapest_35 : decode cX9_cheapest 35 = .ok (.aload_n 0, 1) := by decide +kernel
theorem dX9_cheapest_36 : decode cX9_cheapest 36 = .ok (.iload_n 1, 1) := by decide +kernel
theorem dX9_cheapest_37 : decode cX9_cheapest 37 = .ok (.bipush 100, 2) := by decide +kernel
theorem dX9_cheapest_39 : decode cX9_cheapest 39 = .ok (.irem, 1) := by decide +kernel
theorem dX9_cheapest_40 : decode cX9_cheapest 40 = .ok (.invokevirtual 312, 3) := by decide +kernel
theorem dX9_cheapest_43 : decode cX9_cheapest 43 = .ok (.iload_n 1, 1) := by decide +kernel
theorem dX9_cheapest_44 : decode cX9_cheapest 44 = .ok (.bipush 100, 2) := by decide +kernel
theorem dX9_cheapest_46 : decode cX9_cheapest 46 = .ok (.idiv, 1) := by decide +kernel
theorem dX9_cheapest_47 : decode cX9_cheapest 47 = .ok (.istore_n 3, 1) := by decide +kernel
theorem dX9_cheapest_48 : decode cX9_cheapest 48 = .ok (.iload_n 2, 1) := by decide +kernel
theorem dX9_cheapest_49 : decode cX9_cheapest 49 = .ok (.ifCond .ne 10, 3) := by decide +kernel
theorem dX9_cheapest_52 : decode cX9_cheapest 52 = .ok (.aload_n 0, 1) := by decide +kernel
theorem dX9_cheapest_53 : decode cX9_cheapest 53 = .ok (.getfield 76, 3) := by decide +kernel
theorem dX9_cheapest_56 : decode cX9_cheapest 56 = .ok (.iload_n 3, 1) := by decide +kernel
theorem dX9_cheapest_57 : decode cX9_cheapest 57 = .ok (.iaload, 1) := by decide +kernel
theorem dX9_cheapest_58 : decode cX9_cheapest 58 = .ok (.ireturn, 1) := by decide +kernel
theorem dX9_cheapest_59 : decode cX9_cheapest 59 = .ok (.iload_n 3, 1) := by decide +kernel
theorem dX9_cheapest_60 : decode cX9_cheapest 60 = .ok (.iload_n 1, 1) := by decide +kernel
theorem dX9_cheapest_61 : decode cX9_cheapest 61 = .ok (.bipush 100, 2) := by decide +kernel
theorem dX9_cheapest_63 : decode cX9_cheapest 63 = .ok (.irem, 1) := by decide +kernel
theorem dX9_cheapest_64 : decode cX9_cheapest 64 = .ok (.if_icmp .ne 6, 3) := by decide +kernel
theorem dX9_cheapest_67 : decode cX9_cheapest 67 = .ok (.bipush (-2), 2) := by decide +kernel
theorem dX9_cheapest_69 : decode cX9_cheapest 69 = .ok (.ireturn, 1) := by decide +kernel
theorem dX9_cheapest_70 : decode cX9_cheapest 70 = .ok (.iconst 1, 1) := by decide +kernel
theorem dX9_cheapest_71 : decode cX9_cheapest 71 = .ok (.istore 4, 2) := by decide +kernel
theorem dX9_cheapest_73 : decode cX9_cheapest 73 = .ok (.iload_n 3, 1) := by decide +kernel
theorem dX9_cheapest_74 : decode cX9_cheapest 74 = .ok (.iload 4, 2) := by decide +kernel
theorem dX9_cheapest_76 : decode cX9_cheapest 76 = .ok (.invokestatic 120, 3) := by decide +kernel
theorem dX9_cheapest_79 : decode cX9_cheapest 79 = .ok (.ifCond .lt 31, 3) := by decide +kernel
theorem dX9_cheapest_82 : decode cX9_cheapest 82 = .ok (.aload_n 0, 1) := by decide +kernel
theorem dX9_cheapest_83 : decode cX9_cheapest 83 = .ok (.getfield 76, 3) := by decide +kernel
theorem dX9_cheapest_86 : decode cX9_cheapest 86 = .ok (.iload_n 3, 1) := by decide +kernel
theorem dX9_cheapest_87 : decode cX9_cheapest 87 = .ok (.iload 4, 2) := by decide +kernel
theorem dX9_cheapest_89 : decode cX9_cheapest 89 = .ok (.invokestatic 120, 3) := by decide +kernel
theorem dX9_cheapest_92 : decode cX9_cheapest 92 = .ok (.iaload, 1) := by decide +kernel
theorem dX9_cheapest_93 : decode cX9_cheapest 93 = .ok (.aload_n 0, 1) := by decide +kernel
theorem dX9_cheapest_94 : decode cX9_cheapest 94 = .ok (.iload_n 3, 1) := by decide +kernel
theorem dX9_cheapest_95 : decode cX9_cheapest 95 = .ok (.iload 4, 2) := by decide +kernel
theorem dX9_cheapest_97 : decode cX9_cheapest 97 = .ok (.invokevirtual 255, 3) := by decide +kernel
theorem dX9_cheapest_100 : decode cX9_cheapest 100 = .ok (.iadd, 1) := by decide +kernel
theorem dX9_cheapest_101 : decode cX9_cheapest 101 = .ok (.aload_n 0, 1) := by decide +kernel
theorem dX9_cheapest_102 : decode cX9_cheapest 102 = .ok (.getfield 76, 3) := by decide +kernel
theorem dX9_cheapest_105 : decode cX9_cheapest 105 = .ok (.iload_n 3, 1) := by decide +kernel
theorem dX9_cheapest_106 : decode cX9_cheapest 106 = .ok (.iaload, 1) := by decide +kernel
theorem dX9_cheapest_107 : decode cX9_cheapest 107 = .ok (.if_icmp .eq 9, 3) := by decide +kernel
theorem dX9_cheapest_110 : decode cX9_cheapest 110 = .ok (.iinc 4 1, 3) := by decide +kernel
theorem dX9_cheapest_113 : decode cX9_cheapest 113 = .ok (.goto (-40), 3) := by decide +kernel
theorem dX9_cheapest_116 : decode cX9_cheapest 116 = .ok (.iload_n 3, 1) := by decide +kernel
theorem dX9_cheapest_117 : decode cX9_cheapest 117 = .ok (.iload 4, 2) := by decide +kernel
theorem dX9_cheapest_119 : decode cX9_cheapest 119 = .ok (.invokestatic 120, 3) := by decide +kernel
theorem dX9_cheapest_122 : decode cX9_cheapest 122 = .ok (.ireturn, 1) := by decide +kernel
theorem dX9_come_0 : decode cX9_come 0 = .ok (.aload_n 0, 1) := by decide +kernel
theorem dX9_come_1 : decode cX9_come 1 = .ok (.iload_n 1, 1) := by decide +kernel
theorem dX9_come_2 : decode cX9_come 2 = .ok (.invokevirtual 160, 3) := by decide +kernel
theorem dX9_come_5 : decode cX9_come 5 = .ok (.istore 5, 2) := by decide +kernel
theorem dX9_come_7 : decode cX9_come 7 = .ok (.bipush 10, 2) := by decide +kernel
theorem dX9_come_9 : decode cX9_come 9 = .ok (.iload_n 1, 1) := by decide +kernel
theorem dX9_come_10 : decode cX9_come 10 = .ok (.imul, 1) := by decide +kernel
theorem dX9_come_11 : decode cX9_come 11 = .ok (.iload_n 3, 1) := by decide +kernel
theorem dX9_come_12 : decode cX9_come 12 = .ok (.iload 4, 2) := by decide +kernel
theorem dX9_come_14 : decode cX9_come 14 = .ok (.aload_n 0, 1) := by decide +kernel
theorem dX9_come_15 : decode cX9_come 15 = .ok (.getfield 19, 3) := by decide +kernel
theorem dX9_come_18 : decode cX9_come 18 = .ok (.iload 4, 2) := by decide +kernel
theorem dX9_come_20 : decode cX9_come 20 = .ok (.iaload, 1) := by decide +kernel
theorem dX9_come_21 : decode cX9_come 21 = .ok (.iload 5, 2) := by decide +kernel
theorem dX9_come_23 : decode cX9_come 23 = .ok (.invokestatic 280, 3) := by decide +kernel
theorem dX9_come_26 : decode cX9_come 26 = .ok (.iadd, 1) := by decide +kernel
theorem dX9_come_27 : decode cX9_come 27 = .ok (.istore 6, 2) := by decide +kernel
theorem dX9_come_29 : decode cX9_come 29 = .ok (.iload_n 2, 1) := by decide +kernel
theorem dX9_come_30 : decode cX9_come 30 = .ok (.aload_n 0, 1) := by decide +kernel
theorem dX9_come_31 : decode cX9_come 31 = .ok (.getfield 16, 3) := by decide +kernel
theorem dX9_come_34 : decode cX9_come 34 = .ok (.iload 4, 2) := by decide +kernel
theorem dX9_come_36 : decode cX9_come 36 = .ok (.iaload, 1) := by decide +kernel
theorem dX9_come_37 : decode cX9_come 37 = .ok (.iload_n 3, 1) := by decide +kernel
theorem dX9_come_38 : decode cX9_come 38 = .ok (.iload 5, 2) := by decide +kernel
theorem dX9_come_40 : decode cX9_come 40 = .ok (.invokestatic 276, 3) := by decide +kernel
theorem dX9_come_43 : decode cX9_come 43 = .ok (.istore 7, 2) := by decide +kernel
theorem dX9_come_45 : decode cX9_come 45 = .ok (.iload 7, 2) := by decide +kernel
theorem dX9_come_47 : decode cX9_come 47 = .ok (.aload_n 0, 1) := by decide +kernel
theorem dX9_come_48 : decode cX9_come 48 = .ok (.getfield 82, 3) := by decide +kernel
theorem dX9_come_51 : decode cX9_come 51 = .ok (.iload 6, 2) := by decide +kernel
theorem dX9_come_53 : decode cX9_come 53 = .ok (.iaload, 1) := by decide +kernel
theorem dX9_come_54 : decode cX9_come 54 = .ok (.if_icmp .le 12, 3) := by decide +kernel
theorem dX9_come_57 : decode cX9_come 57 = .ok (.aload_n 0, 1) := by decide +kernel
theorem dX9_come_58 : decode cX9_come 58 = .ok (.getfield 82, 3) := by decide +kernel
theorem dX9_come_61 : decode cX9_come 61 = .ok (.iload 6, 2) := by decide +kernel
theorem dX9_come_63 : decode cX9_come 63 = .ok (.iload 7, 2) := by decide +kernel
theorem dX9_come_65 : decode cX9_come 65 = .ok (.iastore, 1) := by decide +kernel
theorem dX9_come_66 : decode cX9_come 66 = .ok (.return_, 1) := by decide +kernel
theorem dX9_goOn_0 : decode cX9_goOn 0 = .ok (.iconst 0, 1) := by decide +kernel
theorem dX9_goOn_1 : decode cX9_goOn 1 = .ok (.istore_n 2, 1) := by decide +kernel
theorem dX9_goOn_2 : decode cX9_goOn 2 = .ok (.iload_n 2, 1) := by decide +kernel
theorem dX9_goOn_3 : decode cX9_goOn 3 = .ok (.sipush 360, 3) := by decide +kernel
theorem dX9_goOn_6 : decode cX9_goOn 6 = .ok (.if_icmp .ge 16, 3) := by decide +kernel
theorem dX9_goOn_9 : decode cX9_goOn 9 = .ok (.aload_n 0, 1) := by decide +kernel
theorem dX9_goOn_10 : decode cX9_goOn 10 = .ok (.getfield 82, 3) := by decide +kernel
theorem dX9_goOn_13 : decode cX9_goOn 13 = .ok (.iload_n 2, 1) := by decide +kernel
theorem dX9_goOn_14 : decode cX9_goOn 14 = .ok (.iconst (-1), 1) := by decide +kernel
theorem dX9_goOn_15 : decode cX9_goOn 15 = .ok (.iastore, 1) := by decide +kernel
theorem dX9_goOn_16 : decode cX9_goOn 16 = .ok (.iinc 2 1, 3) := by decide +kernel
theorem dX9_goOn_19 : decode cX9_goOn 19 = .ok (.goto (-17), 3) := by decide +kernel
theorem dX9_goOn_22 : decode cX9_goOn 22 = .ok (.iconst 0, 1) := by decide +kernel
theorem dX9_goOn_23 : decode cX9_goOn 23 = .ok (.istore_n 2, 1) := by decide +kernel
theorem dX9_goOn_24 : decode cX9_goOn 24 = .ok (.iload_n 2, 1) := by decide +kernel
theorem dX9_goOn_25 : decode cX9_goOn 25 = .ok (.sipush 360, 3) := by decide +kernel
theorem dX9_goOn_28 : decode cX9_goOn 28 = .ok (.if_icmp .ge 111, 3) := by decide +kernel
theorem dX9_goOn_31 : decode cX9_goOn 31 = .ok (.aload_n 0, 1) := by decide +kernel
theorem dX9_goOn_32 : decode cX9_goOn 32 = .ok (.getfield 79, 3) := by decide +kernel
theorem dX9_goOn_35 : decode cX9_goOn 35 = .ok (.iload_n 2, 1) := by decide +kernel
theorem dX9_goOn_36 : decode cX9_goOn 36 = .ok (.iaload, 1) := by decide +kernel
theorem dX9_goOn_37 : decode cX9_goOn 37 = .ok (.ifCond .ge 6, 3) := by decide +kernel
theorem dX9_goOn_40 : decode cX9_goOn 40 = .ok (.goto 93, 3) := by decide +kernel
theorem dX9_goOn_43 : decode cX9_goOn 43 = .ok (.iload_n 2, 1) := by decide +kernel
theorem dX9_goOn_44 : decode cX9_goOn 44 = .ok (.bipush 10, 2) := by decide +kernel
theorem dX9_goOn_46 : decode cX9_goOn 46 = .ok (.idiv, 1) := by decide +kernel
theorem dX9_goOn_47 : decode cX9_goOn 47 = .ok (.istore_n 3, 1) := by decide +kernel
theorem dX9_goOn_48 : decode cX9_goOn 48 = .ok (.aload_n 0, 1) := by decide +kernel
theorem dX9_goOn_49 : decode cX9_goOn 49 = .ok (.iload_n 3, 1) := by decide +kernel
theorem dX9_goOn_50 : decode cX9_goOn 50 = .ok (.aload_n 0, 1) := by decide +kernel
theorem dX9_goOn_51 : decode cX9_goOn 51 = .ok (.getfield 79, 3) := by decide +kernel
theorem dX9_goOn_54 : decode cX9_goOn 54 = .ok (.iload_n 2, 1) := by decide +kernel
theorem dX9_goOn_55 : decode cX9_goOn 55 = .ok (.iaload, 1) := by decide +kernel
theorem dX9_goOn_56 : decode cX9_goOn 56 = .ok (.iload_n 2, 1) := by decide +kernel
theorem dX9_goOn_57 : decode cX9_goOn 57 = .ok (.bipush 10, 2) := by decide +kernel
theorem dX9_goOn_59 : decode cX9_goOn 59 = .ok (.irem, 1) := by decide +kernel
theorem dX9_goOn_60 : decode cX9_goOn 60 = .ok (.iload_n 1, 1) := by decide +kernel
theorem dX9_goOn_61 : decode cX9_goOn 61 = .ok (.invokevirtual 316, 3) := by decide +kernel
theorem dX9_goOn_64 : decode cX9_goOn 64 = .ok (.iconst 1, 1) := by decide +kernel
theorem dX9_goOn_65 : decode cX9_goOn 65 = .ok (.istore 4, 2) := by decide +kernel
theorem dX9_goOn_67 : decode cX9_goOn 67 = .ok (.iload 4, 2) := by decide +kernel
theorem dX9_goOn_69 : decode cX9_goOn 69 = .ok (.iconst 4, 1) := by decide +kernel
theorem dX9_goOn_70 : decode cX9_goOn 70 = .ok (.if_icmp .gt 63, 3) := by decide +kernel
theorem dX9_goOn_73 : decode cX9_goOn 73 = .ok (.iload_n 3, 1) := by decide +kernel
theorem dX9_goOn_74 : decode cX9_goOn 74 = .ok (.iload 4, 2) := by decide +kernel
theorem dX9_goOn_76 : decode cX9_goOn 76 = .ok (.invokestatic 120, 3) := by decide +kernel
theorem dX9_goOn_79 : decode cX9_goOn 79 = .ok (.ifCond .lt 48, 3) := by decide +kernel
theorem dX9_goOn_82 : decode cX9_goOn 82 = .ok (.aload_n 0, 1) := by decide +kernel
theorem dX9_goOn_83 : decode cX9_goOn 83 = .ok (.getfield 79, 3) := by decide +kernel
theorem dX9_goOn_86 : decode cX9_goOn 86 = .ok (.iload_n 2, 1) := by decide +kernel
theorem dX9_goOn_87 : decode cX9_goOn 87 = .ok (.iaload, 1) := by decide +kernel
theorem dX9_goOn_88 : decode cX9_goOn 88 = .ok (.aload_n 0, 1) := by decide +kernel
theorem dX9_goOn_89 : decode cX9_goOn 89 = .ok (.iload_n 3, 1) := by decide +kernel
theorem dX9_goOn_90 : decode cX9_goOn 90 = .ok (.iload 4, 2) := by decide +kernel
theorem dX9_goOn_92 : decode cX9_goOn 92 = .ok (.invokevirtual 255, 3) := by decide +kernel
theorem dX9_goOn_95 : decode cX9_goOn 95 = .ok (.if_icmp .lt 32, 3) := by decide +kernel
theorem dX9_goOn_98 : decode cX9_goOn 98 = .ok (.aload_n 0, 1) := by decide +kernel
theorem dX9_goOn_99 : decode cX9_goOn 99 = .ok (.iload_n 3, 1) := by decide +kernel
theorem dX9_goOn_100 : decode cX9_goOn 100 = .ok (.iload 4, 2) := by decide +kernel
theorem dX9_goOn_102 : decode cX9_goOn 102 = .ok (.invokestatic 120, 3) := by decide +kernel
theorem dX9_goOn_105 : decode cX9_goOn 105 = .ok (.aload_n 0, 1) := by decide +kernel
theorem dX9_goOn_106 : decode cX9_goOn 106 = .ok (.getfield 79, 3) := by decide +kernel
theorem dX9_goOn_109 : decode cX9_goOn 109 = .ok (.iload_n 2, 1) := by decide +kernel
theorem dX9_goOn_110 : decode cX9_goOn 110 = .ok (.iaload, 1) := by decide +kernel
theorem dX9_goOn_111 : decode cX9_goOn 111 = .ok (.aload_n 0, 1) := by decide +kernel
theorem dX9_goOn_112 : decode cX9_goOn 112 = .ok (.iload_n 3, 1) := by decide +kernel
theorem dX9_goOn_113 : decode cX9_goOn 113 = .ok (.iload 4, 2) := by decide +kernel
theorem dX9_goOn_115 : decode cX9_goOn 115 = .ok (.invokevirtual 255, 3) := by decide +kernel
theorem dX9_goOn_118 : decode cX9_goOn 118 = .ok (.isub, 1) := by decide +kernel
theorem dX9_goOn_119 : decode cX9_goOn 119 = .ok (.iload_n 2, 1) := by decide +kernel
theorem dX9_goOn_120 : decode cX9_goOn 120 = .ok (.bipush 10, 2) := by decide +kernel
theorem dX9_goOn_122 : decode cX9_goOn 122 = .ok (.irem, 1) := by decide +kernel
theorem dX9_goOn_123 : decode cX9_goOn 123 = .ok (.iload_n 1, 1) := by decide +kernel
theorem dX9_goOn_124 : decode cX9_goOn 124 = .ok (.invokevirtual 316, 3) := by decide +kernel
theorem dX9_goOn_127 : decode cX9_goOn 127 = .ok (.iinc 4 1, 3) := by decide +kernel
theorem dX9_goOn_130 : decode cX9_goOn 130 = .ok (.goto (-63), 3) := by decide +kernel
theorem dX9_goOn_133 : decode cX9_goOn 133 = .ok (.iinc 2 1, 3) := by decide +kernel
theorem dX9_goOn_136 : decode cX9_goOn 136 = .ok (.goto (-112), 3) := by decide +kernel
theorem dX9_goOn_139 : decode cX9_goOn 139 = .ok (.iconst 0, 1) := by decide +kernel
theorem dX9_goOn_140 : decode cX9_goOn 140 = .ok (.istore_n 2, 1) := by decide +kernel
theorem dX9_goOn_141 : decode cX9_goOn 141 = .ok (.iload_n 2, 1) := by decide +kernel
theorem dX9_goOn_142 : decode cX9_goOn 142 = .ok (.sipush 360, 3) := by decide +kernel
theorem dX9_goOn_145 : decode cX9_goOn 145 = .ok (.if_icmp .ge 21, 3) := by decide +kernel
theorem dX9_goOn_148 : decode cX9_goOn 148 = .ok (.aload_n 0, 1) := by decide +kernel
theorem dX9_goOn_149 : decode cX9_goOn 149 = .ok (.getfield 79, 3) := by decide +kernel
theorem dX9_goOn_152 : decode cX9_goOn 152 = .ok (.iload_n 2, 1) := by decide +kernel
theorem dX9_goOn_153 : decode cX9_goOn 153 = .ok (.aload_n 0, 1) := by decide +kernel
theorem dX9_goOn_154 : decode cX9_goOn 154 = .ok (.getfield 82, 3) := by decide +kernel
theorem dX9_goOn_157 : decode cX9_goOn 157 = .ok (.iload_n 2, 1) := by decide +kernel
theorem dX9_goOn_158 : decode cX9_goOn 158 = .ok (.iaload, 1) := by decide +kernel
theorem dX9_goOn_159 : decode cX9_goOn 159 = .ok (.iastore, 1) := by decide +kernel
theorem dX9_goOn_160 : decode cX9_goOn 160 = .ok (.iinc 2 1, 3) := by decide +kernel
theorem dX9_goOn_163 : decode cX9_goOn 163 = .ok (.goto (-22), 3) := by decide +kernel
theorem dX9_goOn_166 : decode cX9_goOn 166 = .ok (.return_, 1) := by decide +kernel
theorem dX9_mostIn_0 : decode cX9_mostIn 0 = .ok (.iconst (-1), 1) := by decide +kernel
theorem dX9_mostIn_1 : decode cX9_mostIn 1 = .ok (.istore_n 2, 1) := by decide +kernel
theorem dX9_mostIn_2 : decode cX9_mostIn 2 = .ok (.iconst 0, 1) := by decide +kernel
theorem dX9_mostIn_3 : decode cX9_mostIn 3 = .ok (.istore_n 3, 1) := by decide +kernel
theorem dX9_mostIn_4 : decode cX9_mostIn 4 = .ok (.iload_n 3, 1) := by decide +kernel
theorem dX9_mostIn_5 : decode cX9_mostIn 5 = .ok (.bipush 10, 2) := by decide +kernel
theorem dX9_mostIn_7 : decode cX9_mostIn 7 = .ok (.if_icmp .ge 36, 3) := by decide +kernel
theorem dX9_mostIn_10 : decode cX9_mostIn 10 = .ok (.aload_n 0, 1) := by decide +kernel
theorem dX9_mostIn_11 : decode cX9_mostIn 11 = .ok (.getfield 79, 3) := by decide +kernel
theorem dX9_mostIn_14 : decode cX9_mostIn 14 = .ok (.bipush 10, 2) := by decide +kernel
theorem dX9_mostIn_16 : decode cX9_mostIn 16 = .ok (.iload_n 1, 1) := by decide +kernel
theorem dX9_mostIn_17 : decode cX9_mostIn 17 = .ok (.imul, 1) := by decide +kernel
theorem dX9_mostIn_18 : decode cX9_mostIn 18 = .ok (.iload_n 3, 1) := by decide +kernel
theorem dX9_mostIn_19 : decode cX9_mostIn 19 = .ok (.iadd, 1) := by decide +kernel
theorem dX9_mostIn_20 : decode cX9_mostIn 20 = .ok (.iaload, 1) := by decide +kernel
theorem dX9_mostIn_21 : decode cX9_mostIn 21 = .ok (.iload_n 2, 1) := by decide +kernel
theorem dX9_mostIn_22 : decode cX9_mostIn 22 = .ok (.if_icmp .le 15, 3) := by decide +kernel
theorem dX9_mostIn_25 : decode cX9_mostIn 25 = .ok (.aload_n 0, 1) := by decide +kernel
theorem dX9_mostIn_26 : decode cX9_mostIn 26 = .ok (.getfield 79, 3) := by decide +kernel
theorem dX9_mostIn_29 : decode cX9_mostIn 29 = .ok (.bipush 10, 2) := by decide +kernel
theorem dX9_mostIn_31 : decode cX9_mostIn 31 = .ok (.iload_n 1, 1) := by decide +kernel
theorem dX9_mostIn_32 : decode cX9_mostIn 32 = .ok (.imul, 1) := by decide +kernel
theorem dX9_mostIn_33 : decode cX9_mostIn 33 = .ok (.iload_n 3, 1) := by decide +kernel
theorem dX9_mostIn_34 : decode cX9_mostIn 34 = .ok (.iadd, 1) := by decide +kernel
theorem dX9_mostIn_35 : decode cX9_mostIn 35 = .ok (.iaload, 1) := by decide +kernel
theorem dX9_mostIn_36 : decode cX9_mostIn 36 = .ok (.istore_n 2, 1) := by decide +kernel
theorem dX9_mostIn_37 : decode cX9_mostIn 37 = .ok (.iinc 3 1, 3) := by decide +kernel
theorem dX9_mostIn_40 : decode cX9_mostIn 40 = .ok (.goto (-36), 3) := by decide +kernel
theorem dX9_mostIn_43 : decode cX9_mostIn 43 = .ok (.iload_n 2, 1) := by decide +kernel
theorem dX9_mostIn_44 : decode cX9_mostIn 44 = .ok (.ireturn, 1) := by decide +kernel
theorem dX9_soonest_0 : decode cX9_soonest 0 = .ok (.iload_n 1, 1) := by decide +kernel
theorem dX9_soonest_1 : decode cX9_soonest 1 = .ok (.invokestatic 141, 3) := by decide +kernel
theorem dX9_soonest_4 : decode cX9_soonest 4 = .ok (.ifCond .eq 12, 3) := by decide +kernel
theorem dX9_soonest_7 : decode cX9_soonest 7 = .ok (.iload_n 2, 1) := by decide +kernel
theorem dX9_soonest_8 : decode cX9_soonest 8 = .ok (.iconst 0, 1) := by decide +kernel
theorem dX9_soonest_9 : decode cX9_soonest 9 = .ok (.iconst 1, 1) := by decide +kernel
theorem dX9_soonest_10 : decode cX9_soonest 10 = .ok (.invokestatic 116, 3) := by decide +kernel
theorem dX9_soonest_13 : decode cX9_soonest 13 = .ok (.ifCond .ne 5, 3) := by decide +kernel
theorem dX9_soonest_16 : decode cX9_soonest 16 = .ok (.iconst (-1), 1) := by decide +kernel
theorem dX9_soonest_17 : decode cX9_soonest 17 = .ok (.ireturn, 1) := by decide +kernel
theorem dX9_soonest_18 : decode cX9_soonest 18 = .ok (.iconst 0, 1) := by decide +kernel
theorem dX9_soonest_19 : decode cX9_soonest 19 = .ok (.istore_n 3, 1) := by decide +kernel
theorem dX9_soonest_20 : decode cX9_soonest 20 = .ok (.iload_n 3, 1) := by decide +kernel
theorem dX9_soonest_21 : decode cX9_soonest 21 = .ok (.sipush 360, 3) := by decide +kernel
theorem dX9_soonest_24 : decode cX9_soonest 24 = .ok (.if_icmp .ge 16, 3) := by decide +kernel
theorem dX9_soonest_27 : decode cX9_soonest 27 = .ok (.aload_n 0, 1) := by decide +kernel
theorem dX9_soonest_28 : decode cX9_soonest 28 = .ok (.getfield 79, 3) := by decide +kernel
theorem dX9_soonest_31 : decode cX9_soonest 31 = .ok (.iload_n 3, 1) := by decide +kernel
theorem dX9_soonest_32 : decode cX9_soonest 32 = .ok (.iconst (-1), 1) := by decide +kernel
theorem dX9_soonest_33 : decode cX9_soonest 33 = .ok (.iastore, 1) := by decide +kernel
theorem dX9_soonest_34 : decode cX9_soonest 34 = .ok (.iinc 3 1, 3) := by decide +kernel
theorem dX9_soonest_37 : decode cX9_soonest 37 = .ok (.goto (-17), 3) := by decide +kernel
theorem dX9_soonest_40 : decode cX9_soonest 40 = .ok (.aload_n 0, 1) := by decide +kernel
theorem dX9_soonest_41 : decode cX9_soonest 41 = .ok (.getfield 79, 3) := by decide +kernel
theorem dX9_soonest_44 : decode cX9_soonest 44 = .ok (.bipush 10, 2) := by decide +kernel
theorem dX9_soonest_46 : decode cX9_soonest 46 = .ok (.aload_n 0, 1) := by decide +kernel
theorem dX9_soonest_47 : decode cX9_soonest 47 = .ok (.getfield 169, 3) := by decide +kernel
theorem dX9_soonest_50 : decode cX9_soonest 50 = .ok (.imul, 1) := by decide +kernel
theorem dX9_soonest_51 : decode cX9_soonest 51 = .ok (.aload_n 0, 1) := by decide +kernel
theorem dX9_soonest_52 : decode cX9_soonest 52 = .ok (.getfield 172, 3) := by decide +kernel
theorem dX9_soonest_55 : decode cX9_soonest 55 = .ok (.iadd, 1) := by decide +kernel
theorem dX9_soonest_56 : decode cX9_soonest 56 = .ok (.aload_n 0, 1) := by decide +kernel
theorem dX9_soonest_57 : decode cX9_soonest 57 = .ok (.getfield 29, 3) := by decide +kernel
theorem dX9_soonest_60 : decode cX9_soonest 60 = .ok (.iastore, 1) := by decide +kernel
theorem dX9_soonest_61 : decode cX9_soonest 61 = .ok (.iconst 0, 1) := by decide +kernel
theorem dX9_soonest_62 : decode cX9_soonest 62 = .ok (.istore_n 3, 1) := by decide +kernel
theorem dX9_soonest_63 : decode cX9_soonest 63 = .ok (.iload_n 3, 1) := by decide +kernel
theorem dX9_soonest_64 : decode cX9_soonest 64 = .ok (.bipush 20, 2) := by decide +kernel
theorem dX9_soonest_66 : decode cX9_soonest 66 = .ok (.if_icmp .gt 55, 3) := by decide +kernel
theorem dX9_soonest_69 : decode cX9_soonest 69 = .ok (.aload_n 0, 1) := by decide +kernel
theorem dX9_soonest_70 : decode cX9_soonest 70 = .ok (.iload_n 1, 1) := by decide +kernel
theorem dX9_soonest_71 : decode cX9_soonest 71 = .ok (.invokevirtual 320, 3) := by decide +kernel
theorem dX9_soonest_74 : decode cX9_soonest 74 = .ok (.ifCond .lt 17, 3) := by decide +kernel
theorem dX9_soonest_77 : decode cX9_soonest 77 = .ok (.iload_n 2, 1) := by decide +kernel
theorem dX9_soonest_78 : decode cX9_soonest 78 = .ok (.ifCond .ne 7, 3) := by decide +kernel
theorem dX9_soonest_81 : decode cX9_soonest 81 = .ok (.iload_n 3, 1) := by decide +kernel
theorem dX9_soonest_82 : decode cX9_soonest 82 = .ok (.goto 8, 3) := by decide +kernel
theorem dX9_soonest_85 : decode cX9_soonest 85 = .ok (.aload_n 0, 1) := by decide +kernel
theorem dX9_soonest_86 : decode cX9_soonest 86 = .ok (.iload_n 1, 1) := by decide +kernel
theorem dX9_soonest_87 : decode cX9_soonest 87 = .ok (.invokevirtual 320, 3) := by decide +kernel
theorem dX9_soonest_90 : decode cX9_soonest 90 = .ok (.ireturn, 1) := by decide +kernel
theorem dX9_soonest_91 : decode cX9_soonest 91 = .ok (.aload_n 0, 1) := by decide +kernel
theorem dX9_soonest_92 : decode cX9_soonest 92 = .ok (.getfield 166, 3) := by decide +kernel
theorem dX9_soonest_95 : decode cX9_soonest 95 = .ok (.iload_n 3, 1) := by decide +kernel
theorem dX9_soonest_96 : decode cX9_soonest 96 = .ok (.iadd, 1) := by decide +kernel
theorem dX9_soonest_97 : decode cX9_soonest 97 = .ok (.bipush 60, 2) := by decide +kernel
theorem dX9_soonest_99 : decode cX9_soonest 99 = .ok (.if_icmp .lt 6, 3) := by decide +kernel
theorem dX9_soonest_102 : decode cX9_soonest 102 = .ok (.bipush (-2), 2) := by decide +kernel
theorem dX9_soonest_104 : decode cX9_soonest 104 = .ok (.ireturn, 1) := by decide +kernel
theorem dX9_soonest_105 : decode cX9_soonest 105 = .ok (.aload_n 0, 1) := by decide +kernel
theorem dX9_soonest_106 : decode cX9_soonest 106 = .ok (.aload_n 0, 1) := by decide +kernel
theorem dX9_soonest_107 : decode cX9_soonest 107 = .ok (.getfield 166, 3) := by decide +kernel
theorem dX9_soonest_110 : decode cX9_soonest 110 = .ok (.iload_n 3, 1) := by decide +kernel
theorem dX9_soonest_111 : decode cX9_soonest 111 = .ok (.iadd, 1) := by decide +kernel
theorem dX9_soonest_112 : decode cX9_soonest 112 = .ok (.invokevirtual 323, 3) := by decide +kernel
theorem dX9_soonest_115 : decode cX9_soonest 115 = .ok (.iinc 3 1, 3) := by decide +kernel
theorem dX9_soonest_118 : decode cX9_soonest 118 = .ok (.goto (-55), 3) := by decide +kernel
theorem dX9_soonest_121 : decode cX9_soonest 121 = .ok (.bipush (-2), 2) := by decide +kernel
theorem dX9_soonest_123 : decode cX9_soonest 123 = .ok (.ireturn, 1) := by decide +kernel
theorem dX9_toNorth_0 : decode cX9_toNorth 0 = .ok (.ldc_w 311, 3) := by decide +kernel
theorem dX9_toNorth_3 : decode cX9_toNorth 3 = .ok (.istore_n 2, 1) := by decide +kernel
theorem dX9_toNorth_4 : decode cX9_toNorth 4 = .ok (.iconst 0, 1) := by decide +kernel
theorem dX9_toNorth_5 : decode cX9_toNorth 5 = .ok (.istore_n 3, 1) := by decide +kernel
theorem dX9_toNorth_6 : decode cX9_toNorth 6 = .ok (.iload_n 3, 1) := by decide +kernel
theorem dX9_toNorth_7 : decode cX9_toNorth 7 = .ok (.bipush 6, 2) := by decide +kernel
theorem dX9_toNorth_9 : decode cX9_toNorth 9 = .ok (.if_icmp .ge 31, 3) := by decide +kernel
theorem dX9_toNorth_12 : decode cX9_toNorth 12 = .ok (.aload_n 0, 1) := by decide +kernel
theorem dX9_toNorth_13 : decode cX9_toNorth 13 = .ok (.iload_n 3, 1) := by decide +kernel
theorem dX9_toNorth_14 : decode cX9_toNorth 14 = .ok (.invokevirtual 312, 3) := by decide +kernel
theorem dX9_toNorth_17 : decode cX9_toNorth 17 = .ok (.aload_n 0, 1) := by decide +kernel
theorem dX9_toNorth_18 : decode cX9_toNorth 18 = .ok (.getfield 76, 3) := by decide +kernel
theorem dX9_toNorth_21 : decode cX9_toNorth 21 = .ok (.iload_n 1, 1) := by decide +kernel
theorem dX9_toNorth_22 : decode cX9_toNorth 22 = .ok (.iaload, 1) := by decide +kernel
theorem dX9_toNorth_23 : decode cX9_toNorth 23 = .ok (.iload_n 2, 1) := by decide +kernel
theorem dX9_toNorth_24 : decode cX9_toNorth 24 = .ok (.if_icmp .ge 10, 3) := by decide +kernel
theorem dX9_toNorth_27 : decode cX9_toNorth 27 = .ok (.aload_n 0, 1) := by decide +kernel
theorem dX9_toNorth_28 : decode cX9_toNorth 28 = .ok (.getfield 76, 3) := by decide +kernel
theorem dX9_toNorth_31 : decode cX9_toNorth 31 = .ok (.iload_n 1, 1) := by decide +kernel
theorem dX9_toNorth_32 : decode cX9_toNorth 32 = .ok (.iaload, 1) := by decide +kernel
theorem dX9_toNorth_33 : decode cX9_toNorth 33 = .ok (.istore_n 2, 1) := by decide +kernel
theorem dX9_toNorth_34 : decode cX9_toNorth 34 = .ok (.iinc 3 1, 3) := by decide +kernel
theorem dX9_toNorth_37 : decode cX9_toNorth 37 = .ok (.goto (-31), 3) := by decide +kernel
theorem dX9_toNorth_40 : decode cX9_toNorth 40 = .ok (.iload_n 2, 1) := by decide +kernel
theorem dX9_toNorth_41 : decode cX9_toNorth 41 = .ok (.ireturn, 1) := by decide +kernel
theorem dX9_goRound_0 : decode cX9_goRound 0 = .ok (.iload_n 2, 1) := by decide +kernel
theorem dX9_goRound_1 : decode cX9_goRound 1 = .ok (.iconst 1, 1) := by decide +kernel
theorem dX9_goRound_2 : decode cX9_goRound 2 = .ok (.iload_n 1, 1) := by decide +kernel
theorem dX9_goRound_3 : decode cX9_goRound 3 = .ok (.ishl, 1) := by decide +kernel
theorem dX9_goRound_4 : decode cX9_goRound 4 = .ok (.iconst 1, 1) := by decide +kernel
theorem dX9_goRound_5 : decode cX9_goRound 5 = .ok (.isub, 1) := by decide +kernel
theorem dX9_goRound_6 : decode cX9_goRound 6 = .ok (.if_icmp .ne 55, 3) := by decide +kernel
theorem dX9_goRound_9 : decode cX9_goRound 9 = .ok (.iload 4, 2) := by decide +kernel
theorem dX9_goRound_11 : decode cX9_goRound 11 = .ok (.aload_n 0, 1) := by decide +kernel
theorem dX9_goRound_12 : decode cX9_goRound 12 = .ok (.getfield 91, 3) := by decide +kernel
theorem dX9_goRound_15 : decode cX9_goRound 15 = .ok (.iload_n 3, 1) := by decide +kernel
theorem dX9_goRound_16 : decode cX9_goRound 16 = .ok (.iaload, 1) := by decide +kernel
theorem dX9_goRound_17 : decode cX9_goRound 17 = .ok (.iadd, 1) := by decide +kernel
theorem dX9_goRound_18 : decode cX9_goRound 18 = .ok (.istore 6, 2) := by decide +kernel
theorem dX9_goRound_20 : decode cX9_goRound 20 = .ok (.iload 6, 2) := by decide +kernel
theorem dX9_goRound_22 : decode cX9_goRound 22 = .ok (.aload_n 0, 1) := by decide +kernel
theorem dX9_goRound_23 : decode cX9_goRound 23 = .ok (.getfield 326, 3) := by decide +kernel
theorem dX9_goRound_26 : decode cX9_goRound 26 = .ok (.if_icmp .gt 21, 3) := by decide +kernel
theorem dX9_goRound_29 : decode cX9_goRound 29 = .ok (.iload 6, 2) := by decide +kernel
theorem dX9_goRound_31 : decode cX9_goRound 31 = .ok (.aload_n 0, 1) := by decide +kernel
theorem dX9_goRound_32 : decode cX9_goRound 32 = .ok (.getfield 326, 3) := by decide +kernel
