theorem dX0_init_0 : decode cX0_init 0 = .ok (.aload_n 0, 1) := by decide +kernel
theorem dX0_init_1 : decode cX0_init 1 = .ok (.invokespecial 3, 3) := by decide +kernel
theorem dX0_init_4 : decode cX0_init 4 = .ok (.aload_n 0, 1) := by decide +kernel
theorem dX0_init_5 : decode cX0_init 5 = .ok (.bipush 50, 2) := by decide +kernel
theorem dX0_init_7 : decode cX0_init 7 = .ok (.putfield 9, 3) := by decide +kernel
theorem dX0_init_10 : decode cX0_init 10 = .ok (.return_, 1) := by decide +kernel
theorem dX0_become_0 : decode cX0_become 0 = .ok (.aload_n 0, 1) := by decide +kernel
theorem dX0_become_1 : decode cX0_become 1 = .ok (.aload_n 1, 1) := by decide +kernel
theorem dX0_become_2 : decode cX0_become 2 = .ok (.getfield 15, 3) := by decide +kernel
theorem dX0_become_5 : decode cX0_become 5 = .ok (.aload_n 1, 1) := by decide +kernel
theorem dX0_become_6 : decode cX0_become 6 = .ok (.getfield 9, 3) := by decide +kernel
theorem dX0_become_9 : decode cX0_become 9 = .ok (.aload_n 1, 1) := by decide +kernel
theorem dX0_become_10 : decode cX0_become 10 = .ok (.getfield 18, 3) := by decide +kernel
theorem dX0_become_13 : decode cX0_become 13 = .ok (.invokevirtual 21, 3) := by decide +kernel
theorem dX0_become_16 : decode cX0_become 16 = .ok (.aload_n 0, 1) := by decide +kernel
theorem dX0_become_17 : decode cX0_become 17 = .ok (.aload_n 1, 1) := by decide +kernel
theorem dX0_become_18 : decode cX0_become 18 = .ok (.getfield 25, 3) := by decide +kernel
theorem dX0_become_21 : decode cX0_become 21 = .ok (.putfield 25, 3) := by decide +kernel
theorem dX0_become_24 : decode cX0_become 24 = .ok (.return_, 1) := by decide +kernel
theorem dX0_place_0 : decode cX0_place 0 = .ok (.aload_n 0, 1) := by decide +kernel
theorem dX0_place_1 : decode cX0_place 1 = .ok (.iload_n 1, 1) := by decide +kernel
theorem dX0_place_2 : decode cX0_place 2 = .ok (.putfield 15, 3) := by decide +kernel
theorem dX0_place_5 : decode cX0_place 5 = .ok (.aload_n 0, 1) := by decide +kernel
theorem dX0_place_6 : decode cX0_place 6 = .ok (.iload_n 2, 1) := by decide +kernel
theorem dX0_place_7 : decode cX0_place 7 = .ok (.putfield 9, 3) := by decide +kernel
theorem dX0_place_10 : decode cX0_place 10 = .ok (.aload_n 0, 1) := by decide +kernel
theorem dX0_place_11 : decode cX0_place 11 = .ok (.iload_n 3, 1) := by decide +kernel
theorem dX0_place_12 : decode cX0_place 12 = .ok (.putfield 18, 3) := by decide +kernel
theorem dX0_place_15 : decode cX0_place 15 = .ok (.return_, 1) := by decide +kernel
theorem dX0_hasLookedAt_0 : decode cX0_hasLookedAt 0 = .ok (.aload_n 0, 1) := by decide +kernel
theorem dX0_hasLookedAt_1 : decode cX0_hasLookedAt 1 = .ok (.getfield 25, 3) := by decide +kernel
theorem dX0_hasLookedAt_4 : decode cX0_hasLookedAt 4 = .ok (.iload_n 1, 1) := by decide +kernel
theorem dX0_hasLookedAt_5 : decode cX0_hasLookedAt 5 = .ok (.lushr, 1) := by decide +kernel
theorem dX0_hasLookedAt_6 : decode cX0_hasLookedAt 6 = .ok (.lconst 1, 1) := by decide +kernel
theorem dX0_hasLookedAt_7 : decode cX0_hasLookedAt 7 = .ok (.land, 1) := by decide +kernel
theorem dX0_hasLookedAt_8 : decode cX0_hasLookedAt 8 = .ok (.lconst 0, 1) := by decide +kernel
theorem dX0_hasLookedAt_9 : decode cX0_hasLookedAt 9 = .ok (.lcmp, 1) := by decide +kernel
theorem dX0_hasLookedAt_10 : decode cX0_hasLookedAt 10 = .ok (.ifCond .eq 7, 3) := by decide +kernel
theorem dX0_hasLookedAt_13 : decode cX0_hasLookedAt 13 = .ok (.iconst 1, 1) := by decide +kernel
theorem dX0_hasLookedAt_14 : decode cX0_hasLookedAt 14 = .ok (.goto 4, 3) := by decide +kernel
theorem dX0_hasLookedAt_17 : decode cX0_hasLookedAt 17 = .ok (.iconst 0, 1) := by decide +kernel
theorem dX0_hasLookedAt_18 : decode cX0_hasLookedAt 18 = .ok (.ireturn, 1) := by decide +kernel
theorem dX0_isOnNewStone_0 : decode cX0_isOnNewStone 0 = .ok (.aload_n 1, 1) := by decide +kernel
theorem dX0_isOnNewStone_1 : decode cX0_isOnNewStone 1 = .ok (.aload_n 0, 1) := by decide +kernel
theorem dX0_isOnNewStone_2 : decode cX0_isOnNewStone 2 = .ok (.getfield 15, 3) := by decide +kernel
theorem dX0_isOnNewStone_5 : decode cX0_isOnNewStone 5 = .ok (.invokevirtual 29, 3) := by decide +kernel
theorem dX0_isOnNewStone_8 : decode cX0_isOnNewStone 8 = .ok (.ifCond .eq 18, 3) := by decide +kernel
theorem dX0_isOnNewStone_11 : decode cX0_isOnNewStone 11 = .ok (.aload_n 0, 1) := by decide +kernel
theorem dX0_isOnNewStone_12 : decode cX0_isOnNewStone 12 = .ok (.aload_n 0, 1) := by decide +kernel
theorem dX0_isOnNewStone_13 : decode cX0_isOnNewStone 13 = .ok (.getfield 15, 3) := by decide +kernel
theorem dX0_isOnNewStone_16 : decode cX0_isOnNewStone 16 = .ok (.invokevirtual 35, 3) := by decide +kernel
theorem dX0_isOnNewStone_19 : decode cX0_isOnNewStone 19 = .ok (.ifCond .ne 7, 3) := by decide +kernel
theorem dX0_isOnNewStone_22 : decode cX0_isOnNewStone 22 = .ok (.iconst 1, 1) := by decide +kernel
theorem dX0_isOnNewStone_23 : decode cX0_isOnNewStone 23 = .ok (.goto 4, 3) := by decide +kernel
theorem dX0_isOnNewStone_26 : decode cX0_isOnNewStone 26 = .ok (.iconst 0, 1) := by decide +kernel
theorem dX0_isOnNewStone_27 : decode cX0_isOnNewStone 27 = .ok (.ireturn, 1) := by decide +kernel
theorem dX0_live_0 : decode cX0_live 0 = .ok (.aload_n 0, 1) := by decide +kernel
theorem dX0_live_1 : decode cX0_live 1 = .ok (.aload_n 1, 1) := by decide +kernel
theorem dX0_live_2 : decode cX0_live 2 = .ok (.iload_n 2, 1) := by decide +kernel
theorem dX0_live_3 : decode cX0_live 3 = .ok (.iload_n 3, 1) := by decide +kernel
theorem dX0_live_4 : decode cX0_live 4 = .ok (.aload_n 1, 1) := by decide +kernel
theorem dX0_live_5 : decode cX0_live 5 = .ok (.iload_n 2, 1) := by decide +kernel
theorem dX0_live_6 : decode cX0_live 6 = .ok (.invokevirtual 38, 3) := by decide +kernel
theorem dX0_live_9 : decode cX0_live 9 = .ok (.aload_n 1, 1) := by decide +kernel
theorem dX0_live_10 : decode cX0_live 10 = .ok (.iload_n 2, 1) := by decide +kernel
theorem dX0_live_11 : decode cX0_live 11 = .ok (.invokevirtual 42, 3) := by decide +kernel
theorem dX0_live_14 : decode cX0_live 14 = .ok (.invokevirtual 45, 3) := by decide +kernel
theorem dX0_live_17 : decode cX0_live 17 = .ok (.ireturn, 1) := by decide +kernel
theorem dX0_liveUnder_0 : decode cX0_liveUnder 0 = .ok (.iload_n 3, 1) := by decide +kernel
theorem dX0_liveUnder_1 : decode cX0_liveUnder 1 = .ok (.iconst 5, 1) := by decide +kernel
theorem dX0_liveUnder_2 : decode cX0_liveUnder 2 = .ok (.if_icmp .ne 11, 3) := by decide +kernel
theorem dX0_liveUnder_5 : decode cX0_liveUnder 5 = .ok (.aload_n 0, 1) := by decide +kernel
theorem dX0_liveUnder_6 : decode cX0_liveUnder 6 = .ok (.aload_n 1, 1) := by decide +kernel
theorem dX0_liveUnder_7 : decode cX0_liveUnder 7 = .ok (.invokevirtual 49, 3) := by decide +kernel
theorem dX0_liveUnder_10 : decode cX0_liveUnder 10 = .ok (.goto 21, 3) := by decide +kernel
theorem dX0_liveUnder_13 : decode cX0_liveUnder 13 = .ok (.iload_n 3, 1) := by decide +kernel
theorem dX0_liveUnder_14 : decode cX0_liveUnder 14 = .ok (.ifCond .eq 12, 3) := by decide +kernel
theorem dX0_liveUnder_17 : decode cX0_liveUnder 17 = .ok (.aload_n 0, 1) := by decide +kernel
theorem dX0_liveUnder_18 : decode cX0_liveUnder 18 = .ok (.aload_n 1, 1) := by decide +kernel
theorem dX0_liveUnder_19 : decode cX0_liveUnder 19 = .ok (.iload_n 3, 1) := by decide +kernel
theorem dX0_liveUnder_20 : decode cX0_liveUnder 20 = .ok (.invokevirtual 53, 3) := by decide +kernel
theorem dX0_liveUnder_23 : decode cX0_liveUnder 23 = .ok (.ifCond .eq 7, 3) := by decide +kernel
theorem dX0_liveUnder_26 : decode cX0_liveUnder 26 = .ok (.iconst 1, 1) := by decide +kernel
theorem dX0_liveUnder_27 : decode cX0_liveUnder 27 = .ok (.goto 4, 3) := by decide +kernel
theorem dX0_liveUnder_30 : decode cX0_liveUnder 30 = .ok (.iconst 0, 1) := by decide +kernel
theorem dX0_liveUnder_31 : decode cX0_liveUnder 31 = .ok (.istore 6, 2) := by decide +kernel
theorem dX0_liveUnder_33 : decode cX0_liveUnder 33 = .ok (.aload_n 1, 1) := by decide +kernel
theorem dX0_liveUnder_34 : decode cX0_liveUnder 34 = .ok (.aload_n 0, 1) := by decide +kernel
theorem dX0_liveUnder_35 : decode cX0_liveUnder 35 = .ok (.getfield 15, 3) := by decide +kernel
theorem dX0_liveUnder_38 : decode cX0_liveUnder 38 = .ok (.invokevirtual 57, 3) := by decide +kernel
theorem dX0_liveUnder_41 : decode cX0_liveUnder 41 = .ok (.istore 7, 2) := by decide +kernel
theorem dX0_liveUnder_43 : decode cX0_liveUnder 43 = .ok (.aload_n 0, 1) := by decide +kernel
theorem dX0_liveUnder_44 : decode cX0_liveUnder 44 = .ok (.dup, 1) := by decide +kernel
theorem dX0_liveUnder_45 : decode cX0_liveUnder 45 = .ok (.getfield 9, 3) := by decide +kernel
theorem dX0_liveUnder_48 : decode cX0_liveUnder 48 = .ok (.iconst 0, 1) := by decide +kernel
theorem dX0_liveUnder_49 : decode cX0_liveUnder 49 = .ok (.iload 4, 2) := by decide +kernel
theorem dX0_liveUnder_51 : decode cX0_liveUnder 51 = .ok (.aload_n 0, 1) := by decide +kernel
theorem dX0_liveUnder_52 : decode cX0_liveUnder 52 = .ok (.getfield 18, 3) := by decide +kernel
theorem dX0_liveUnder_55 : decode cX0_liveUnder 55 = .ok (.iconst 2, 1) := by decide +kernel
theorem dX0_liveUnder_56 : decode cX0_liveUnder 56 = .ok (.idiv, 1) := by decide +kernel
theorem dX0_liveUnder_57 : decode cX0_liveUnder 57 = .ok (.isub, 1) := by decide +kernel
theorem dX0_liveUnder_58 : decode cX0_liveUnder 58 = .ok (.invokestatic 60, 3) := by decide +kernel
theorem dX0_liveUnder_61 : decode cX0_liveUnder 61 = .ok (.iadd, 1) := by decide +kernel
theorem dX0_liveUnder_62 : decode cX0_liveUnder 62 = .ok (.putfield 9, 3) := by decide +kernel
theorem dX0_liveUnder_65 : decode cX0_liveUnder 65 = .ok (.aload_n 0, 1) := by decide +kernel
theorem dX0_liveUnder_66 : decode cX0_liveUnder 66 = .ok (.dup, 1) := by decide +kernel
theorem dX0_liveUnder_67 : decode cX0_liveUnder 67 = .ok (.getfield 9, 3) := by decide +kernel
theorem dX0_liveUnder_70 : decode cX0_liveUnder 70 = .ok (.iload 7, 2) := by decide +kernel
theorem dX0_liveUnder_72 : decode cX0_liveUnder 72 = .ok (.ifCond .eq 7, 3) := by decide +kernel
theorem dX0_liveUnder_75 : decode cX0_liveUnder 75 = .ok (.iconst 2, 1) := by decide +kernel
theorem dX0_liveUnder_76 : decode cX0_liveUnder 76 = .ok (.goto 4, 3) := by decide +kernel
theorem dX0_liveUnder_79 : decode cX0_liveUnder 79 = .ok (.iconst 4, 1) := by decide +kernel
theorem dX0_liveUnder_80 : decode cX0_liveUnder 80 = .ok (.isub, 1) := by decide +kernel
theorem dX0_liveUnder_81 : decode cX0_liveUnder 81 = .ok (.putfield 9, 3) := by decide +kernel
theorem dX0_liveUnder_84 : decode cX0_liveUnder 84 = .ok (.aload_n 0, 1) := by decide +kernel
theorem dX0_liveUnder_85 : decode cX0_liveUnder 85 = .ok (.bipush 99, 2) := by decide +kernel
theorem dX0_liveUnder_87 : decode cX0_liveUnder 87 = .ok (.iconst 0, 1) := by decide +kernel
theorem dX0_liveUnder_88 : decode cX0_liveUnder 88 = .ok (.aload_n 0, 1) := by decide +kernel
theorem dX0_liveUnder_89 : decode cX0_liveUnder 89 = .ok (.getfield 9, 3) := by decide +kernel
theorem dX0_liveUnder_92 : decode cX0_liveUnder 92 = .ok (.invokestatic 60, 3) := by decide +kernel
theorem dX0_liveUnder_95 : decode cX0_liveUnder 95 = .ok (.invokestatic 66, 3) := by decide +kernel
theorem dX0_liveUnder_98 : decode cX0_liveUnder 98 = .ok (.putfield 9, 3) := by decide +kernel
theorem dX0_liveUnder_101 : decode cX0_liveUnder 101 = .ok (.iload_n 2, 1) := by decide +kernel
theorem dX0_liveUnder_102 : decode cX0_liveUnder 102 = .ok (.iconst 3, 1) := by decide +kernel
theorem dX0_liveUnder_103 : decode cX0_liveUnder 103 = .ok (.irem, 1) := by decide +kernel
theorem dX0_liveUnder_104 : decode cX0_liveUnder 104 = .ok (.ifCond .ne 18, 3) := by decide +kernel
theorem dX0_liveUnder_107 : decode cX0_liveUnder 107 = .ok (.aload_n 0, 1) := by decide +kernel
theorem dX0_liveUnder_108 : decode cX0_liveUnder 108 = .ok (.bipush 9, 2) := by decide +kernel
theorem dX0_liveUnder_110 : decode cX0_liveUnder 110 = .ok (.aload_n 0, 1) := by decide +kernel
theorem dX0_liveUnder_111 : decode cX0_liveUnder 111 = .ok (.getfield 18, 3) := by decide +kernel
theorem dX0_liveUnder_114 : decode cX0_liveUnder 114 = .ok (.iconst 1, 1) := by decide +kernel
theorem dX0_liveUnder_115 : decode cX0_liveUnder 115 = .ok (.iadd, 1) := by decide +kernel
theorem dX0_liveUnder_116 : decode cX0_liveUnder 116 = .ok (.invokestatic 66, 3) := by decide +kernel
theorem dX0_liveUnder_119 : decode cX0_liveUnder 119 = .ok (.putfield 18, 3) := by decide +kernel
theorem dX0_liveUnder_122 : decode cX0_liveUnder 122 = .ok (.iload 5, 2) := by decide +kernel
theorem dX0_liveUnder_124 : decode cX0_liveUnder 124 = .ok (.bipush 7, 2) := by decide +kernel
theorem dX0_liveUnder_126 : decode cX0_liveUnder 126 = .ok (.if_icmp .lt 13, 3) := by decide +kernel
theorem dX0_liveUnder_129 : decode cX0_liveUnder 129 = .ok (.iload 7, 2) := by decide +kernel
theorem dX0_liveUnder_131 : decode cX0_liveUnder 131 = .ok (.ifCond .ne 8, 3) := by decide +kernel
theorem dX0_liveUnder_134 : decode cX0_liveUnder 134 = .ok (.aload_n 0, 1) := by decide +kernel
theorem dX0_liveUnder_135 : decode cX0_liveUnder 135 = .ok (.iconst 0, 1) := by decide +kernel
theorem dX0_liveUnder_136 : decode cX0_liveUnder 136 = .ok (.putfield 18, 3) := by decide +kernel
theorem dX0_liveUnder_139 : decode cX0_liveUnder 139 = .ok (.iload 6, 2) := by decide +kernel
theorem dX0_liveUnder_141 : decode cX0_liveUnder 141 = .ok (.ireturn, 1) := by decide +kernel
theorem dX0_move_0 : decode cX0_move 0 = .ok (.aload_n 0, 1) := by decide +kernel
theorem dX0_move_1 : decode cX0_move 1 = .ok (.getfield 15, 3) := by decide +kernel
theorem dX0_move_4 : decode cX0_move 4 = .ok (.iload_n 2, 1) := by decide +kernel
theorem dX0_move_5 : decode cX0_move 5 = .ok (.invokestatic 69, 3) := by decide +kernel
theorem dX0_move_8 : decode cX0_move 8 = .ok (.istore_n 3, 1) := by decide +kernel
theorem dX0_move_9 : decode cX0_move 9 = .ok (.iload_n 3, 1) := by decide +kernel
theorem dX0_move_10 : decode cX0_move 10 = .ok (.ifCond .ge 5, 3) := by decide +kernel
theorem dX0_move_13 : decode cX0_move 13 = .ok (.iconst 0, 1) := by decide +kernel
theorem dX0_move_14 : decode cX0_move 14 = .ok (.ireturn, 1) := by decide +kernel
theorem dX0_move_15 : decode cX0_move 15 = .ok (.aload_n 1, 1) := by decide +kernel
theorem dX0_move_16 : decode cX0_move 16 = .ok (.aload_n 0, 1) := by decide +kernel
theorem dX0_move_17 : decode cX0_move 17 = .ok (.getfield 15, 3) := by decide +kernel
theorem dX0_move_20 : decode cX0_move 20 = .ok (.iload_n 3, 1) := by decide +kernel
theorem dX0_move_21 : decode cX0_move 21 = .ok (.invokevirtual 72, 3) := by decide +kernel
theorem dX0_move_24 : decode cX0_move 24 = .ok (.istore 4, 2) := by decide +kernel
theorem dX0_move_26 : decode cX0_move 26 = .ok (.aload_n 0, 1) := by decide +kernel
theorem dX0_move_27 : decode cX0_move 27 = .ok (.getfield 9, 3) := by decide +kernel
theorem dX0_move_30 : decode cX0_move 30 = .ok (.iload 4, 2) := by decide +kernel
theorem dX0_move_32 : decode cX0_move 32 = .ok (.if_icmp .ge 5, 3) := by decide +kernel
theorem dX0_move_35 : decode cX0_move 35 = .ok (.iconst 0, 1) := by decide +kernel
theorem dX0_move_36 : decode cX0_move 36 = .ok (.ireturn, 1) := by decide +kernel
theorem dX0_move_37 : decode cX0_move 37 = .ok (.aload_n 0, 1) := by decide +kernel
theorem dX0_move_38 : decode cX0_move 38 = .ok (.dup, 1) := by decide +kernel
theorem dX0_move_39 : decode cX0_move 39 = .ok (.getfield 9, 3) := by decide +kernel
theorem dX0_move_42 : decode cX0_move 42 = .ok (.iload 4, 2) := by decide +kernel
theorem dX0_move_44 : decode cX0_move 44 = .ok (.isub, 1) := by decide +kernel
theorem dX0_move_45 : decode cX0_move 45 = .ok (.putfield 9, 3) := by decide +kernel
theorem dX0_move_48 : decode cX0_move 48 = .ok (.aload_n 0, 1) := by decide +kernel
theorem dX0_move_49 : decode cX0_move 49 = .ok (.iload_n 3, 1) := by decide +kernel
theorem dX0_move_50 : decode cX0_move 50 = .ok (.putfield 15, 3) := by decide +kernel
theorem dX0_move_53 : decode cX0_move 53 = .ok (.iconst 1, 1) := by decide +kernel
theorem dX0_move_54 : decode cX0_move 54 = .ok (.ireturn, 1) := by decide +kernel
theorem dX0_lookAround_0 : decode cX0_lookAround 0 = .ok (.aload_n 0, 1) := by decide +kernel
theorem dX0_lookAround_1 : decode cX0_lookAround 1 = .ok (.getfield 9, 3) := by decide +kernel
theorem dX0_lookAround_4 : decode cX0_lookAround 4 = .ok (.iconst 2, 1) := by decide +kernel
theorem dX0_lookAround_5 : decode cX0_lookAround 5 = .ok (.if_icmp .lt 11, 3) := by decide +kernel
theorem dX0_lookAround_8 : decode cX0_lookAround 8 = .ok (.aload_n 0, 1) := by decide +kernel
theorem dX0_lookAround_9 : decode cX0_lookAround 9 = .ok (.aload_n 1, 1) := by decide +kernel
theorem dX0_lookAround_10 : decode cX0_lookAround 10 = .ok (.invokevirtual 75, 3) := by decide +kernel
theorem dX0_lookAround_13 : decode cX0_lookAround 13 = .ok (.ifCond .ne 5, 3) := by decide +kernel
theorem dX0_lookAround_16 : decode cX0_lookAround 16 = .ok (.iconst 0, 1) := by decide +kernel
theorem dX0_lookAround_17 : decode cX0_lookAround 17 = .ok (.ireturn, 1) := by decide +kernel
theorem dX0_lookAround_18 : decode cX0_lookAround 18 = .ok (.aload_n 0, 1) := by decide +kernel
theorem dX0_lookAround_19 : decode cX0_lookAround 19 = .ok (.dup, 1) := by decide +kernel
theorem dX0_lookAround_20 : decode cX0_lookAround 20 = .ok (.getfield 9, 3) := by decide +kernel
theorem dX0_lookAround_23 : decode cX0_lookAround 23 = .ok (.iconst 2, 1) := by decide +kernel
theorem dX0_lookAround_24 : decode cX0_lookAround 24 = .ok (.isub, 1) := by decide +kernel
theorem dX0_lookAround_25 : decode cX0_lookAround 25 = .ok (.putfield 9, 3) := by decide +kernel
theorem dX0_lookAround_28 : decode cX0_lookAround 28 = .ok (.aload_n 0, 1) := by decide +kernel
theorem dX0_lookAround_29 : decode cX0_lookAround 29 = .ok (.dup, 1) := by decide +kernel
theorem dX0_lookAround_30 : decode cX0_lookAround 30 = .ok (.getfield 25, 3) := by decide +kernel
theorem dX0_lookAround_33 : decode cX0_lookAround 33 = .ok (.lconst 1, 1) := by decide +kernel
theorem dX0_lookAround_34 : decode cX0_lookAround 34 = .ok (.aload_n 0, 1) := by decide +kernel
theorem dX0_lookAround_35 : decode cX0_lookAround 35 = .ok (.getfield 15, 3) := by decide +kernel
theorem dX0_lookAround_38 : decode cX0_lookAround 38 = .ok (.lshl, 1) := by decide +kernel
theorem dX0_lookAround_39 : decode cX0_lookAround 39 = .ok (.lor, 1) := by decide +kernel
theorem dX0_lookAround_40 : decode cX0_lookAround 40 = .ok (.putfield 25, 3) := by decide +kernel
theorem dX0_lookAround_43 : decode cX0_lookAround 43 = .ok (.iconst 1, 1) := by decide +kernel
theorem dX0_lookAround_44 : decode cX0_lookAround 44 = .ok (.ireturn, 1) := by decide +kernel
theorem dX1_init_0 : decode cX1_init 0 = .ok (.aload_n 0, 1) := by decide +kernel
theorem dX1_init_1 : decode cX1_init 1 = .ok (.invokespecial 1, 3) := by decide +kernel
theorem dX1_init_4 : decode cX1_init 4 = .ok (.aload_n 0, 1) := by decide +kernel
theorem dX1_init_5 : decode cX1_init 5 = .ok (.bipush 40, 2) := by decide +kernel
theorem dX1_init_7 : decode cX1_init 7 = .ok (.newarray .int, 2) := by decide +kernel
theorem dX1_init_9 : decode cX1_init 9 = .ok (.putfield 9, 3) := by decide +kernel
theorem dX1_init_12 : decode cX1_init 12 = .ok (.aload_n 0, 1) := by decide +kernel
theorem dX1_init_13 : decode cX1_init 13 = .ok (.bipush 40, 2) := by decide +kernel
theorem dX1_init_15 : decode cX1_init 15 = .ok (.newarray .int, 2) := by decide +kernel
theorem dX1_init_17 : decode cX1_init 17 = .ok (.putfield 13, 3) := by decide +kernel
theorem dX1_init_20 : decode cX1_init 20 = .ok (.aload_n 0, 1) := by decide +kernel
theorem dX1_init_21 : decode cX1_init 21 = .ok (.bipush 40, 2) := by decide +kernel
theorem dX1_init_23 : decode cX1_init 23 = .ok (.newarray .int, 2) := by decide +kernel
theorem dX1_init_25 : decode cX1_init 25 = .ok (.putfield 16, 3) := by decide +kernel
theorem dX1_init_28 : decode cX1_init 28 = .ok (.return_, 1) := by decide +kernel
theorem dX1_note_0 : decode cX1_note 0 = .ok (.aload_n 0, 1) := by decide +kernel
theorem dX1_note_1 : decode cX1_note 1 = .ok (.getfield 19, 3) := by decide +kernel
theorem dX1_note_4 : decode cX1_note 4 = .ok (.bipush 40, 2) := by decide +kernel
theorem dX1_note_6 : decode cX1_note 6 = .ok (.if_icmp .lt 7, 3) := by decide +kernel
theorem dX1_note_9 : decode cX1_note 9 = .ok (.aload_n 0, 1) := by decide +kernel
theorem dX1_note_10 : decode cX1_note 10 = .ok (.invokevirtual 23, 3) := by decide +kernel
theorem dX1_note_13 : decode cX1_note 13 = .ok (.aload_n 0, 1) := by decide +kernel
theorem dX1_note_14 : decode cX1_note 14 = .ok (.getfield 9, 3) := by decide +kernel
theorem dX1_note_17 : decode cX1_note 17 = .ok (.aload_n 0, 1) := by decide +kernel
theorem dX1_note_18 : decode cX1_note 18 = .ok (.getfield 19, 3) := by decide +kernel
theorem dX1_note_21 : decode cX1_note 21 = .ok (.iload_n 1, 1) := by decide +kernel
theorem dX1_note_22 : decode cX1_note 22 = .ok (.iastore, 1) := by decide +kernel
theorem dX1_note_23 : decode cX1_note 23 = .ok (.aload_n 0, 1) := by decide +kernel
theorem dX1_note_24 : decode cX1_note 24 = .ok (.getfield 13, 3) := by decide +kernel
theorem dX1_note_27 : decode cX1_note 27 = .ok (.aload_n 0, 1) := by decide +kernel
theorem dX1_note_28 : decode cX1_note 28 = .ok (.getfield 19, 3) := by decide +kernel
theorem dX1_note_31 : decode cX1_note 31 = .ok (.iload_n 2, 1) := by decide +kernel
theorem dX1_note_32 : decode cX1_note 32 = .ok (.iastore, 1) := by decide +kernel
theorem dX1_note_33 : decode cX1_note 33 = .ok (.aload_n 0, 1) := by decide +kernel
theorem dX1_note_34 : decode cX1_note 34 = .ok (.getfield 16, 3) := by decide +kernel
theorem dX1_note_37 : decode cX1_note 37 = .ok (.aload_n 0, 1) := by decide +kernel
theorem dX1_note_38 : decode cX1_note 38 = .ok (.getfield 19, 3) := by decide +kernel
theorem dX1_note_41 : decode cX1_note 41 = .ok (.iload_n 3, 1) := by decide +kernel
theorem dX1_note_42 : decode cX1_note 42 = .ok (.iastore, 1) := by decide +kernel
theorem dX1_note_43 : decode cX1_note 43 = .ok (.aload_n 0, 1) := by decide +kernel
theorem dX1_note_44 : decode cX1_note 44 = .ok (.dup, 1) := by decide +kernel
theorem dX1_note_45 : decode cX1_note 45 = .ok (.getfield 19, 3) := by decide +kernel
theorem dX1_note_48 : decode cX1_note 48 = .ok (.iconst 1, 1) := by decide +kernel
theorem dX1_note_49 : decode cX1_note 49 = .ok (.iadd, 1) := by decide +kernel
theorem dX1_note_50 : decode cX1_note 50 = .ok (.putfield 19, 3) := by decide +kernel
theorem dX1_note_53 : decode cX1_note 53 = .ok (.aload_n 0, 1) := by decide +kernel
theorem dX1_note_54 : decode cX1_note 54 = .ok (.aload_n 0, 1) := by decide +kernel
theorem dX1_note_55 : decode cX1_note 55 = .ok (.getfield 19, 3) := by decide +kernel
theorem dX1_note_58 : decode cX1_note 58 = .ok (.putfield 26, 3) := by decide +kernel
theorem dX1_note_61 : decode cX1_note 61 = .ok (.return_, 1) := by decide +kernel
theorem dX1_dropOldest_0 : decode cX1_dropOldest 0 = .ok (.aload_n 0, 1) := by decide +kernel
theorem dX1_dropOldest_1 : decode cX1_dropOldest 1 = .ok (.bipush 39, 2) := by decide +kernel
theorem dX1_dropOldest_3 : decode cX1_dropOldest 3 = .ok (.putfield 19, 3) := by decide +kernel
theorem dX1_dropOldest_6 : decode cX1_dropOldest 6 = .ok (.aload_n 0, 1) := by decide +kernel
theorem dX1_dropOldest_7 : decode cX1_dropOldest 7 = .ok (.getfield 9, 3) := by decide +kernel
theorem dX1_dropOldest_10 : decode cX1_dropOldest 10 = .ok (.iconst 1, 1) := by decide +kernel
theorem dX1_dropOldest_11 : decode cX1_dropOldest 11 = .ok (.aload_n 0, 1) := by decide +kernel
theorem dX1_dropOldest_12 : decode cX1_dropOldest 12 = .ok (.getfield 9, 3) := by decide +kernel
theorem dX1_dropOldest_15 : decode cX1_dropOldest 15 = .ok (.iconst 0, 1) := by decide +kernel
theorem dX1_dropOldest_16 : decode cX1_dropOldest 16 = .ok (.aload_n 0, 1) := by decide +kernel
theorem dX1_dropOldest_17 : decode cX1_dropOldest 17 = .ok (.getfield 19, 3) := by decide +kernel
theorem dX1_dropOldest_20 : decode cX1_dropOldest 20 = .ok (.invokestatic 29, 3) := by decide +kernel
theorem dX1_dropOldest_23 : decode cX1_dropOldest 23 = .ok (.aload_n 0, 1) := by decide +kernel
theorem dX1_dropOldest_24 : decode cX1_dropOldest 24 = .ok (.getfield 13, 3) := by decide +kernel
theorem dX1_dropOldest_27 : decode cX1_dropOldest 27 = .ok (.iconst 1, 1) := by decide +kernel
theorem dX1_dropOldest_28 : decode cX1_dropOldest 28 = .ok (.aload_n 0, 1) := by decide +kernel
theorem dX1_dropOldest_29 : decode cX1_dropOldest 29 = .ok (.getfield 13, 3) := by decide +kernel
theorem dX1_dropOldest_32 : decode cX1_dropOldest 32 = .ok (.iconst 0, 1) := by decide +kernel
theorem dX1_dropOldest_33 : decode cX1_dropOldest 33 = .ok (.aload_n 0, 1) := by decide +kernel
theorem dX1_dropOldest_34 : decode cX1_dropOldest 34 = .ok (.getfield 19, 3) := by decide +kernel
theorem dX1_dropOldest_37 : decode cX1_dropOldest 37 = .ok (.invokestatic 29, 3) := by decide +kernel
theorem dX1_dropOldest_40 : decode cX1_dropOldest 40 = .ok (.aload_n 0, 1) := by decide +kernel
theorem dX1_dropOldest_41 : decode cX1_dropOldest 41 = .ok (.getfield 16, 3) := by decide +kernel
theorem dX1_dropOldest_44 : decode cX1_dropOldest 44 = .ok (.iconst 1, 1) := by decide +kernel
theorem dX1_dropOldest_45 : decode cX1_dropOldest 45 = .ok (.aload_n 0, 1) := by decide +kernel
theorem dX1_dropOldest_46 : decode cX1_dropOldest 46 = .ok (.getfield 16, 3) := by decide +kernel
theorem dX1_dropOldest_49 : decode cX1_dropOldest 49 = .ok (.iconst 0, 1) := by decide +kernel
theorem dX1_dropOldest_50 : decode cX1_dropOldest 50 = .ok (.aload_n 0, 1) := by decide +kernel
theorem dX1_dropOldest_51 : decode cX1_dropOldest 51 = .ok (.getfield 19, 3) := by decide +kernel
theorem dX1_dropOldest_54 : decode cX1_dropOldest 54 = .ok (.invokestatic 29, 3) := by decide +kernel
theorem dX1_dropOldest_57 : decode cX1_dropOldest 57 = .ok (.return_, 1) := by decide +kernel
theorem dX1_takeBack_0 : decode cX1_takeBack 0 = .ok (.aload_n 0, 1) := by decide +kernel
theorem dX1_takeBack_1 : decode cX1_takeBack 1 = .ok (.getfield 19, 3) := by decide +kernel
theorem dX1_takeBack_4 : decode cX1_takeBack 4 = .ok (.ifCond .gt 5, 3) := by decide +kernel
theorem dX1_takeBack_7 : decode cX1_takeBack 7 = .ok (.iconst 0, 1) := by decide +kernel
theorem dX1_takeBack_8 : decode cX1_takeBack 8 = .ok (.ireturn, 1) := by decide +kernel
theorem dX1_takeBack_9 : decode cX1_takeBack 9 = .ok (.aload_n 0, 1) := by decide +kernel
theorem dX1_takeBack_10 : decode cX1_takeBack 10 = .ok (.dup, 1) := by decide +kernel
theorem dX1_takeBack_11 : decode cX1_takeBack 11 = .ok (.getfield 19, 3) := by decide +kernel
theorem dX1_takeBack_14 : decode cX1_takeBack 14 = .ok (.iconst 1, 1) := by decide +kernel
theorem dX1_takeBack_15 : decode cX1_takeBack 15 = .ok (.isub, 1) := by decide +kernel
theorem dX1_takeBack_16 : decode cX1_takeBack 16 = .ok (.putfield 19, 3) := by decide +kernel
theorem dX1_takeBack_19 : decode cX1_takeBack 19 = .ok (.aload_n 1, 1) := by decide +kernel
theorem dX1_takeBack_20 : decode cX1_takeBack 20 = .ok (.aload_n 0, 1) := by decide +kernel
theorem dX1_takeBack_21 : decode cX1_takeBack 21 = .ok (.getfield 9, 3) := by decide +kernel
theorem dX1_takeBack_24 : decode cX1_takeBack 24 = .ok (.aload_n 0, 1) := by decide +kernel
theorem dX1_takeBack_25 : decode cX1_takeBack 25 = .ok (.getfield 19, 3) := by decide +kernel
theorem dX1_takeBack_28 : decode cX1_takeBack 28 = .ok (.iaload, 1) := by decide +kernel
theorem dX1_takeBack_29 : decode cX1_takeBack 29 = .ok (.aload_n 0, 1) := by decide +kernel
theorem dX1_takeBack_30 : decode cX1_takeBack 30 = .ok (.getfield 13, 3) := by decide +kernel
theorem dX1_takeBack_33 : decode cX1_takeBack 33 = .ok (.aload_n 0, 1) := by decide +kernel
theorem dX1_takeBack_34 : decode cX1_takeBack 34 = .ok (.getfield 19, 3) := by decide +kernel
theorem dX1_takeBack_37 : decode cX1_takeBack 37 = .ok (.iaload, 1) := by decide +kernel
theorem dX1_takeBack_38 : decode cX1_takeBack 38 = .ok (.invokevirtual 35, 3) := by decide +kernel
theorem dX1_takeBack_41 : decode cX1_takeBack 41 = .ok (.iconst 1, 1) := by decide +kernel
theorem dX1_takeBack_42 : decode cX1_takeBack 42 = .ok (.ireturn, 1) := by decide +kernel
theorem dX1_bringBack_0 : decode cX1_bringBack 0 = .ok (.aload_n 0, 1) := by decide +kernel
theorem dX1_bringBack_1 : decode cX1_bringBack 1 = .ok (.getfield 19, 3) := by decide +kernel
theorem dX1_bringBack_4 : decode cX1_bringBack 4 = .ok (.aload_n 0, 1) := by decide +kernel
theorem dX1_bringBack_5 : decode cX1_bringBack 5 = .ok (.getfield 26, 3) := by decide +kernel
theorem dX1_bringBack_8 : decode cX1_bringBack 8 = .ok (.if_icmp .lt 5, 3) := by decide +kernel
theorem dX1_bringBack_11 : decode cX1_bringBack 11 = .ok (.iconst 0, 1) := by decide +kernel
theorem dX1_bringBack_12 : decode cX1_bringBack 12 = .ok (.ireturn, 1) := by decide +kernel
theorem dX1_bringBack_13 : decode cX1_bringBack 13 = .ok (.aload_n 1, 1) := by decide +kernel
theorem dX1_bringBack_14 : decode cX1_bringBack 14 = .ok (.aload_n 0, 1) := by decide +kernel
theorem dX1_bringBack_15 : decode cX1_bringBack 15 = .ok (.getfield 9, 3) := by decide +kernel
theorem dX1_bringBack_18 : decode cX1_bringBack 18 = .ok (.aload_n 0, 1) := by decide +kernel
theorem dX1_bringBack_19 : decode cX1_bringBack 19 = .ok (.getfield 19, 3) := by decide +kernel
theorem dX1_bringBack_22 : decode cX1_bringBack 22 = .ok (.iaload, 1) := by decide +kernel
theorem dX1_bringBack_23 : decode cX1_bringBack 23 = .ok (.aload_n 0, 1) := by decide +kernel
theorem dX1_bringBack_24 : decode cX1_bringBack 24 = .ok (.getfield 16, 3) := by decide +kernel
theorem dX1_bringBack_27 : decode cX1_bringBack 27 = .ok (.aload_n 0, 1) := by decide +kernel
theorem dX1_bringBack_28 : decode cX1_bringBack 28 = .ok (.getfield 19, 3) := by decide +kernel
theorem dX1_bringBack_31 : decode cX1_bringBack 31 = .ok (.iaload, 1) := by decide +kernel
theorem dX1_bringBack_32 : decode cX1_bringBack 32 = .ok (.invokevirtual 35, 3) := by decide +kernel
theorem dX1_bringBack_35 : decode cX1_bringBack 35 = .ok (.aload_n 0, 1) := by decide +kernel
theorem dX1_bringBack_36 : decode cX1_bringBack 36 = .ok (.dup, 1) := by decide +kernel
theorem dX1_bringBack_37 : decode cX1_bringBack 37 = .ok (.getfield 19, 3) := by decide +kernel
theorem dX1_bringBack_40 : decode cX1_bringBack 40 = .ok (.iconst 1, 1) := by decide +kernel
theorem dX1_bringBack_41 : decode cX1_bringBack 41 = .ok (.iadd, 1) := by decide +kernel
theorem dX1_bringBack_42 : decode cX1_bringBack 42 = .ok (.putfield 19, 3) := by decide +kernel
theorem dX1_bringBack_45 : decode cX1_bringBack 45 = .ok (.iconst 1, 1) := by decide +kernel
theorem dX1_bringBack_46 : decode cX1_bringBack 46 = .ok (.ireturn, 1) := by decide +kernel
theorem dX2_init_0 : decode cX2_init 0 = .ok (.aload_n 0, 1) := by decide +kernel
theorem dX2_init_1 : decode cX2_init 1 = .ok (.invokespecial 3, 3) := by decide +kernel
theorem dX2_init_4 : decode cX2_init 4 = .ok (.aload_n 0, 1) := by decide +kernel
theorem dX2_init_5 : decode cX2_init 5 = .ok (.bipush 120, 2) := by decide +kernel
theorem dX2_init_7 : decode cX2_init 7 = .ok (.newarray .int, 2) := by decide +kernel
theorem dX2_init_9 : decode cX2_init 9 = .ok (.putfield 11, 3) := by decide +kernel
theorem dX2_init_12 : decode cX2_init 12 = .ok (.aload_n 0, 1) := by decide +kernel
theorem dX2_init_13 : decode cX2_init 13 = .ok (.bipush 121, 2) := by decide +kernel
theorem dX2_init_15 : decode cX2_init 15 = .ok (.newarray .int, 2) := by decide +kernel
theorem dX2_init_17 : decode cX2_init 17 = .ok (.putfield 15, 3) := by decide +kernel
theorem dX2_init_20 : decode cX2_init 20 = .ok (.aload_n 0, 1) := by decide +kernel
theorem dX2_init_21 : decode cX2_init 21 = .ok (.bipush 121, 2) := by decide +kernel
theorem dX2_init_23 : decode cX2_init 23 = .ok (.newarray .int, 2) := by decide +kernel
theorem dX2_init_25 : decode cX2_init 25 = .ok (.putfield 18, 3) := by decide +kernel
theorem dX2_init_28 : decode cX2_init 28 = .ok (.aload_n 0, 1) := by decide +kernel
theorem dX2_init_29 : decode cX2_init 29 = .ok (.bipush 121, 2) := by decide +kernel
theorem dX2_init_31 : decode cX2_init 31 = .ok (.newarray .int, 2) := by decide +kernel
theorem dX2_init_33 : decode cX2_init 33 = .ok (.putfield 21, 3) := by decide +kernel
theorem dX2_init_36 : decode cX2_init 36 = .ok (.return_, 1) := by decide +kernel
theorem dX2_take_0 : decode cX2_take 0 = .ok (.aload_n 0, 1) := by decide +kernel
theorem dX2_take_1 : decode cX2_take 1 = .ok (.getfield 24, 3) := by decide +kernel
theorem dX2_take_4 : decode cX2_take 4 = .ok (.bipush 120, 2) := by decide +kernel
theorem dX2_take_6 : decode cX2_take 6 = .ok (.if_icmp .lt 5, 3) := by decide +kernel
theorem dX2_take_9 : decode cX2_take 9 = .ok (.iconst 0, 1) := by decide +kernel
theorem dX2_take_10 : decode cX2_take 10 = .ok (.ireturn, 1) := by decide +kernel
theorem dX2_take_11 : decode cX2_take 11 = .ok (.aload_n 0, 1) := by decide +kernel
theorem dX2_take_12 : decode cX2_take 12 = .ok (.getfield 11, 3) := by decide +kernel
theorem dX2_take_15 : decode cX2_take 15 = .ok (.aload_n 0, 1) := by decide +kernel
theorem dX2_take_16 : decode cX2_take 16 = .ok (.getfield 24, 3) := by decide +kernel
theorem dX2_take_19 : decode cX2_take 19 = .ok (.iload_n 1, 1) := by decide +kernel
theorem dX2_take_20 : decode cX2_take 20 = .ok (.iastore, 1) := by decide +kernel
theorem dX2_take_21 : decode cX2_take 21 = .ok (.aload_n 0, 1) := by decide +kernel
theorem dX2_take_22 : decode cX2_take 22 = .ok (.dup, 1) := by decide +kernel
theorem dX2_take_23 : decode cX2_take 23 = .ok (.getfield 24, 3) := by decide +kernel
theorem dX2_take_26 : decode cX2_take 26 = .ok (.iconst 1, 1) := by decide +kernel
theorem dX2_take_27 : decode cX2_take 27 = .ok (.iadd, 1) := by decide +kernel
theorem dX2_take_28 : decode cX2_take 28 = .ok (.putfield 24, 3) := by decide +kernel
theorem dX2_take_31 : decode cX2_take 31 = .ok (.iconst 1, 1) := by decide +kernel
theorem dX2_take_32 : decode cX2_take 32 = .ok (.ireturn, 1) := by decide +kernel
theorem dX2_become_0 : decode cX2_become 0 = .ok (.aload_n 0, 1) := by decide +kernel
theorem dX2_become_1 : decode cX2_become 1 = .ok (.iconst 0, 1) := by decide +kernel
theorem dX2_become_2 : decode cX2_become 2 = .ok (.putfield 28, 3) := by decide +kernel
theorem dX2_become_5 : decode cX2_become 5 = .ok (.aload_n 0, 1) := by decide +kernel
theorem dX2_become_6 : decode cX2_become 6 = .ok (.iconst 0, 1) := by decide +kernel
theorem dX2_become_7 : decode cX2_become 7 = .ok (.putfield 31, 3) := by decide +kernel
theorem dX2_become_10 : decode cX2_become 10 = .ok (.aload_n 0, 1) := by decide +kernel
theorem dX2_become_11 : decode cX2_become 11 = .ok (.iconst (-1), 1) := by decide +kernel
theorem dX2_become_12 : decode cX2_become 12 = .ok (.putfield 34, 3) := by decide +kernel
theorem dX2_become_15 : decode cX2_become 15 = .ok (.aload_n 0, 1) := by decide +kernel
theorem dX2_become_16 : decode cX2_become 16 = .ok (.invokevirtual 37, 3) := by decide +kernel
theorem dX2_become_19 : decode cX2_become 19 = .ok (.aload_n 0, 1) := by decide +kernel
theorem dX2_become_20 : decode cX2_become 20 = .ok (.getfield 34, 3) := by decide +kernel
theorem dX2_become_23 : decode cX2_become 23 = .ok (.iconst (-1), 1) := by decide +kernel
theorem dX2_become_24 : decode cX2_become 24 = .ok (.if_icmp .ne 28, 3) := by decide +kernel
theorem dX2_become_27 : decode cX2_become 27 = .ok (.aload_n 0, 1) := by decide +kernel
theorem dX2_become_28 : decode cX2_become 28 = .ok (.getfield 15, 3) := by decide +kernel
theorem dX2_become_31 : decode cX2_become 31 = .ok (.iconst 0, 1) := by decide +kernel
theorem dX2_become_32 : decode cX2_become 32 = .ok (.aload_n 0, 1) := by decide +kernel
theorem dX2_become_33 : decode cX2_become 33 = .ok (.getfield 18, 3) := by decide +kernel
theorem dX2_become_36 : decode cX2_become 36 = .ok (.iconst 0, 1) := by decide +kernel
theorem dX2_become_37 : decode cX2_become 37 = .ok (.aload_n 0, 1) := by decide +kernel
theorem dX2_become_38 : decode cX2_become 38 = .ok (.getfield 28, 3) := by decide +kernel
theorem dX2_become_41 : decode cX2_become 41 = .ok (.invokestatic 40, 3) := by decide +kernel
theorem dX2_become_44 : decode cX2_become 44 = .ok (.aload_n 0, 1) := by decide +kernel
theorem dX2_become_45 : decode cX2_become 45 = .ok (.aload_n 0, 1) := by decide +kernel
theorem dX2_become_46 : decode cX2_become 46 = .ok (.getfield 28, 3) := by decide +kernel
theorem dX2_become_49 : decode cX2_become 49 = .ok (.putfield 46, 3) := by decide +kernel
theorem dX2_become_52 : decode cX2_become 52 = .ok (.aload_n 0, 1) := by decide +kernel
theorem dX2_become_53 : decode cX2_become 53 = .ok (.iconst 0, 1) := by decide +kernel
theorem dX2_become_54 : decode cX2_become 54 = .ok (.putfield 24, 3) := by decide +kernel
theorem dX2_become_57 : decode cX2_become 57 = .ok (.aload_n 0, 1) := by decide +kernel
theorem dX2_become_58 : decode cX2_become 58 = .ok (.getfield 34, 3) := by decide +kernel
theorem dX2_become_61 : decode cX2_become 61 = .ok (.ireturn, 1) := by decide +kernel
theorem dX2_sign_0 : decode cX2_sign 0 = .ok (.aload_n 0, 1) := by decide +kernel
theorem dX2_sign_1 : decode cX2_sign 1 = .ok (.getfield 34, 3) := by decide +kernel
theorem dX2_sign_4 : decode cX2_sign 4 = .ok (.iconst (-1), 1) := by decide +kernel
theorem dX2_sign_5 : decode cX2_sign 5 = .ok (.if_icmp .ne 26, 3) := by decide +kernel
theorem dX2_sign_8 : decode cX2_sign 8 = .ok (.aload_n 0, 1) := by decide +kernel
theorem dX2_sign_9 : decode cX2_sign 9 = .ok (.getfield 31, 3) := by decide +kernel
theorem dX2_sign_12 : decode cX2_sign 12 = .ok (.aload_n 0, 1) := by decide +kernel
theorem dX2_sign_13 : decode cX2_sign 13 = .ok (.getfield 24, 3) := by decide +kernel
theorem dX2_sign_16 : decode cX2_sign 16 = .ok (.if_icmp .ge 15, 3) := by decide +kernel
theorem dX2_sign_19 : decode cX2_sign 19 = .ok (.aload_n 0, 1) := by decide +kernel
theorem dX2_sign_20 : decode cX2_sign 20 = .ok (.getfield 11, 3) := by decide +kernel
theorem dX2_sign_23 : decode cX2_sign 23 = .ok (.aload_n 0, 1) := by decide +kernel
theorem dX2_sign_24 : decode cX2_sign 24 = .ok (.getfield 31, 3) := by decide +kernel
theorem dX2_sign_27 : decode cX2_sign 27 = .ok (.iaload, 1) := by decide +kernel
theorem dX2_sign_28 : decode cX2_sign 28 = .ok (.goto 4, 3) := by decide +kernel
theorem dX2_sign_31 : decode cX2_sign 31 = .ok (.iconst (-1), 1) := by decide +kernel
theorem dX2_sign_32 : decode cX2_sign 32 = .ok (.ireturn, 1) := by decide +kernel
theorem dX2_pass_0 : decode cX2_pass 0 = .ok (.aload_n 0, 1) := by decide +kernel
theorem dX2_pass_1 : decode cX2_pass 1 = .ok (.invokevirtual 49, 3) := by decide +kernel
theorem dX2_pass_4 : decode cX2_pass 4 = .ok (.iload_n 1, 1) := by decide +kernel
theorem dX2_pass_5 : decode cX2_pass 5 = .ok (.if_icmp .eq 5, 3) := by decide +kernel
theorem dX2_pass_8 : decode cX2_pass 8 = .ok (.iconst 0, 1) := by decide +kernel
theorem dX2_pass_9 : decode cX2_pass 9 = .ok (.ireturn, 1) := by decide +kernel
theorem dX2_pass_10 : decode cX2_pass 10 = .ok (.aload_n 0, 1) := by decide +kernel
theorem dX2_pass_11 : decode cX2_pass 11 = .ok (.dup, 1) := by decide +kernel
theorem dX2_pass_12 : decode cX2_pass 12 = .ok (.getfield 31, 3) := by decide +kernel
theorem dX2_pass_15 : decode cX2_pass 15 = .ok (.iconst 1, 1) := by decide +kernel
theorem dX2_pass_16 : decode cX2_pass 16 = .ok (.iadd, 1) := by decide +kernel
theorem dX2_pass_17 : decode cX2_pass 17 = .ok (.putfield 31, 3) := by decide +kernel
theorem dX2_pass_20 : decode cX2_pass 20 = .ok (.iconst 1, 1) := by decide +kernel
theorem dX2_pass_21 : decode cX2_pass 21 = .ok (.ireturn, 1) := by decide +kernel
theorem dX2_refuse_0 : decode cX2_refuse 0 = .ok (.aload_n 0, 1) := by decide +kernel
theorem dX2_refuse_1 : decode cX2_refuse 1 = .ok (.getfield 34, 3) := by decide +kernel
theorem dX2_refuse_4 : decode cX2_refuse 4 = .ok (.iconst (-1), 1) := by decide +kernel
theorem dX2_refuse_5 : decode cX2_refuse 5 = .ok (.if_icmp .ne 11, 3) := by decide +kernel
theorem dX2_refuse_8 : decode cX2_refuse 8 = .ok (.aload_n 0, 1) := by decide +kernel
theorem dX2_refuse_9 : decode cX2_refuse 9 = .ok (.aload_n 0, 1) := by decide +kernel
theorem dX2_refuse_10 : decode cX2_refuse 10 = .ok (.getfield 31, 3) := by decide +kernel
theorem dX2_refuse_13 : decode cX2_refuse 13 = .ok (.putfield 34, 3) := by decide +kernel
theorem dX2_refuse_16 : decode cX2_refuse 16 = .ok (.return_, 1) := by decide +kernel
theorem dX2_write_0 : decode cX2_write 0 = .ok (.aload_n 0, 1) := by decide +kernel
theorem dX2_write_1 : decode cX2_write 1 = .ok (.getfield 28, 3) := by decide +kernel
theorem dX2_write_4 : decode cX2_write 4 = .ok (.aload_n 0, 1) := by decide +kernel
theorem dX2_write_5 : decode cX2_write 5 = .ok (.getfield 15, 3) := by decide +kernel
theorem dX2_write_8 : decode cX2_write 8 = .ok (.arraylength, 1) := by decide +kernel
theorem dX2_write_9 : decode cX2_write 9 = .ok (.if_icmp .ge 23, 3) := by decide +kernel
theorem dX2_write_12 : decode cX2_write 12 = .ok (.aload_n 0, 1) := by decide +kernel
theorem dX2_write_13 : decode cX2_write 13 = .ok (.getfield 15, 3) := by decide +kernel
theorem dX2_write_16 : decode cX2_write 16 = .ok (.aload_n 0, 1) := by decide +kernel
theorem dX2_write_17 : decode cX2_write 17 = .ok (.getfield 28, 3) := by decide +kernel
theorem dX2_write_20 : decode cX2_write 20 = .ok (.iload_n 1, 1) := by decide +kernel
theorem dX2_write_21 : decode cX2_write 21 = .ok (.iastore, 1) := by decide +kernel
theorem dX2_write_22 : decode cX2_write 22 = .ok (.aload_n 0, 1) := by decide +kernel
theorem dX2_write_23 : decode cX2_write 23 = .ok (.dup, 1) := by decide +kernel
theorem dX2_write_24 : decode cX2_write 24 = .ok (.getfield 28, 3) := by decide +kernel
theorem dX2_write_27 : decode cX2_write 27 = .ok (.iconst 1, 1) := by decide +kernel
theorem dX2_write_28 : decode cX2_write 28 = .ok (.iadd, 1) := by decide +kernel
theorem dX2_write_29 : decode cX2_write 29 = .ok (.putfield 28, 3) := by decide +kernel
theorem dX2_write_32 : decode cX2_write 32 = .ok (.return_, 1) := by decide +kernel
theorem dX2_readLines_0 : decode cX2_readLines 0 = .ok (.iconst 0, 1) := by decide +kernel
theorem dX2_readLines_1 : decode cX2_readLines 1 = .ok (.istore_n 1, 1) := by decide +kernel
theorem dX2_readLines_2 : decode cX2_readLines 2 = .ok (.iload_n 1, 1) := by decide +kernel
theorem dX2_readLines_3 : decode cX2_readLines 3 = .ok (.bipush 120, 2) := by decide +kernel
theorem dX2_readLines_5 : decode cX2_readLines 5 = .ok (.if_icmp .gt 52, 3) := by decide +kernel
theorem dX2_readLines_8 : decode cX2_readLines 8 = .ok (.aload_n 0, 1) := by decide +kernel
theorem dX2_readLines_9 : decode cX2_readLines 9 = .ok (.iconst 0, 1) := by decide +kernel
theorem dX2_readLines_10 : decode cX2_readLines 10 = .ok (.invokevirtual 53, 3) := by decide +kernel
theorem dX2_readLines_13 : decode cX2_readLines 13 = .ok (.aload_n 0, 1) := by decide +kernel
theorem dX2_readLines_14 : decode cX2_readLines 14 = .ok (.bipush 63, 2) := by decide +kernel
theorem dX2_readLines_16 : decode cX2_readLines 16 = .ok (.invokevirtual 57, 3) := by decide +kernel
theorem dX2_readLines_19 : decode cX2_readLines 19 = .ok (.ifCond .eq 14, 3) := by decide +kernel
theorem dX2_readLines_22 : decode cX2_readLines 22 = .ok (.aload_n 0, 1) := by decide +kernel
theorem dX2_readLines_23 : decode cX2_readLines 23 = .ok (.bipush (-63), 2) := by decide +kernel
theorem dX2_readLines_25 : decode cX2_readLines 25 = .ok (.invokevirtual 61, 3) := by decide +kernel
theorem dX2_readLines_28 : decode cX2_readLines 28 = .ok (.aload_n 0, 1) := by decide +kernel
theorem dX2_readLines_29 : decode cX2_readLines 29 = .ok (.iconst 0, 1) := by decide +kernel
theorem dX2_readLines_30 : decode cX2_readLines 30 = .ok (.invokevirtual 53, 3) := by decide +kernel
theorem dX2_readLines_33 : decode cX2_readLines 33 = .ok (.aload_n 0, 1) := by decide +kernel
theorem dX2_readLines_34 : decode cX2_readLines 34 = .ok (.bipush (-59), 2) := by decide +kernel
theorem dX2_readLines_36 : decode cX2_readLines 36 = .ok (.invokevirtual 61, 3) := by decide +kernel
theorem dX2_readLines_39 : decode cX2_readLines 39 = .ok (.aload_n 0, 1) := by decide +kernel
theorem dX2_readLines_40 : decode cX2_readLines 40 = .ok (.bipush 59, 2) := by decide +kernel
theorem dX2_readLines_42 : decode cX2_readLines 42 = .ok (.invokevirtual 57, 3) := by decide +kernel
theorem dX2_readLines_45 : decode cX2_readLines 45 = .ok (.ifCond .ne 6, 3) := by decide +kernel
theorem dX2_readLines_48 : decode cX2_readLines 48 = .ok (.goto 9, 3) := by decide +kernel
theorem dX2_readLines_51 : decode cX2_readLines 51 = .ok (.iinc 1 1, 3) := by decide +kernel
theorem dX2_readLines_54 : decode cX2_readLines 54 = .ok (.goto (-52), 3) := by decide +kernel
theorem dX2_readLines_57 : decode cX2_readLines 57 = .ok (.aload_n 0, 1) := by decide +kernel
theorem dX2_readLines_58 : decode cX2_readLines 58 = .ok (.getfield 31, 3) := by decide +kernel
theorem dX2_readLines_61 : decode cX2_readLines 61 = .ok (.aload_n 0, 1) := by decide +kernel
theorem dX2_readLines_62 : decode cX2_readLines 62 = .ok (.getfield 24, 3) := by decide +kernel
theorem dX2_readLines_65 : decode cX2_readLines 65 = .ok (.if_icmp .ge 7, 3) := by decide +kernel
theorem dX2_readLines_68 : decode cX2_readLines 68 = .ok (.aload_n 0, 1) := by decide +kernel
theorem dX2_readLines_69 : decode cX2_readLines 69 = .ok (.invokevirtual 64, 3) := by decide +kernel
theorem dX2_readLines_72 : decode cX2_readLines 72 = .ok (.return_, 1) := by decide +kernel
theorem dX2_readOr_0 : decode cX2_readOr 0 = .ok (.aload_n 0, 1) := by decide +kernel
theorem dX2_readOr_1 : decode cX2_readOr 1 = .ok (.iload_n 1, 1) := by decide +kernel
theorem dX2_readOr_2 : decode cX2_readOr 2 = .ok (.invokevirtual 67, 3) := by decide +kernel
theorem dX2_readOr_5 : decode cX2_readOr 5 = .ok (.iconst 0, 1) := by decide +kernel
theorem dX2_readOr_6 : decode cX2_readOr 6 = .ok (.istore_n 2, 1) := by decide +kernel
theorem dX2_readOr_7 : decode cX2_readOr 7 = .ok (.iload_n 2, 1) := by decide +kernel
theorem dX2_readOr_8 : decode cX2_readOr 8 = .ok (.bipush 120, 2) := by decide +kernel
theorem dX2_readOr_10 : decode cX2_readOr 10 = .ok (.if_icmp .ge 29, 3) := by decide +kernel
theorem dX2_readOr_13 : decode cX2_readOr 13 = .ok (.aload_n 0, 1) := by decide +kernel
theorem dX2_readOr_14 : decode cX2_readOr 14 = .ok (.bipush 124, 2) := by decide +kernel
theorem dX2_readOr_16 : decode cX2_readOr 16 = .ok (.invokevirtual 57, 3) := by decide +kernel
theorem dX2_readOr_19 : decode cX2_readOr 19 = .ok (.ifCond .eq 20, 3) := by decide +kernel
theorem dX2_readOr_22 : decode cX2_readOr 22 = .ok (.aload_n 0, 1) := by decide +kernel
theorem dX2_readOr_23 : decode cX2_readOr 23 = .ok (.iload_n 1, 1) := by decide +kernel
theorem dX2_readOr_24 : decode cX2_readOr 24 = .ok (.invokevirtual 67, 3) := by decide +kernel
theorem dX2_readOr_27 : decode cX2_readOr 27 = .ok (.aload_n 0, 1) := by decide +kernel
theorem dX2_readOr_28 : decode cX2_readOr 28 = .ok (.bipush (-124), 2) := by decide +kernel
theorem dX2_readOr_30 : decode cX2_readOr 30 = .ok (.invokevirtual 61, 3) := by decide +kernel
theorem dX2_readOr_33 : decode cX2_readOr 33 = .ok (.iinc 2 1, 3) := by decide +kernel
theorem dX2_readOr_36 : decode cX2_readOr 36 = .ok (.goto (-29), 3) := by decide +kernel
theorem dX2_readOr_39 : decode cX2_readOr 39 = .ok (.return_, 1) := by decide +kernel
theorem dX2_readAnd_0 : decode cX2_readAnd 0 = .ok (.aload_n 0, 1) := by decide +kernel
theorem dX2_readAnd_1 : decode cX2_readAnd 1 = .ok (.iload_n 1, 1) := by decide +kernel
theorem dX2_readAnd_2 : decode cX2_readAnd 2 = .ok (.invokevirtual 70, 3) := by decide +kernel
theorem dX2_readAnd_5 : decode cX2_readAnd 5 = .ok (.iconst 0, 1) := by decide +kernel
theorem dX2_readAnd_6 : decode cX2_readAnd 6 = .ok (.istore_n 2, 1) := by decide +kernel
theorem dX2_readAnd_7 : decode cX2_readAnd 7 = .ok (.iload_n 2, 1) := by decide +kernel
theorem dX2_readAnd_8 : decode cX2_readAnd 8 = .ok (.bipush 120, 2) := by decide +kernel
theorem dX2_readAnd_10 : decode cX2_readAnd 10 = .ok (.if_icmp .ge 29, 3) := by decide +kernel
theorem dX2_readAnd_13 : decode cX2_readAnd 13 = .ok (.aload_n 0, 1) := by decide +kernel
theorem dX2_readAnd_14 : decode cX2_readAnd 14 = .ok (.bipush 38, 2) := by decide +kernel
theorem dX2_readAnd_16 : decode cX2_readAnd 16 = .ok (.invokevirtual 57, 3) := by decide +kernel
theorem dX2_readAnd_19 : decode cX2_readAnd 19 = .ok (.ifCond .eq 20, 3) := by decide +kernel
theorem dX2_readAnd_22 : decode cX2_readAnd 22 = .ok (.aload_n 0, 1) := by decide +kernel
theorem dX2_readAnd_23 : decode cX2_readAnd 23 = .ok (.iload_n 1, 1) := by decide +kernel
theorem dX2_readAnd_24 : decode cX2_readAnd 24 = .ok (.invokevirtual 70, 3) := by decide +kernel
theorem dX2_readAnd_27 : decode cX2_readAnd 27 = .ok (.aload_n 0, 1) := by decide +kernel
theorem dX2_readAnd_28 : decode cX2_readAnd 28 = .ok (.bipush (-38), 2) := by decide +kernel
theorem dX2_readAnd_30 : decode cX2_readAnd 30 = .ok (.invokevirtual 61, 3) := by decide +kernel
theorem dX2_readAnd_33 : decode cX2_readAnd 33 = .ok (.iinc 2 1, 3) := by decide +kernel
theorem dX2_readAnd_36 : decode cX2_readAnd 36 = .ok (.goto (-29), 3) := by decide +kernel
theorem dX2_readAnd_39 : decode cX2_readAnd 39 = .ok (.return_, 1) := by decide +kernel
theorem dX2_readCompared_0 : decode cX2_readCompared 0 = .ok (.aload_n 0, 1) := by decide +kernel
theorem dX2_readCompared_1 : decode cX2_readCompared 1 = .ok (.iload_n 1, 1) := by decide +kernel
theorem dX2_readCompared_2 : decode cX2_readCompared 2 = .ok (.invokevirtual 73, 3) := by decide +kernel
theorem dX2_readCompared_5 : decode cX2_readCompared 5 = .ok (.aload_n 0, 1) := by decide +kernel
theorem dX2_readCompared_6 : decode cX2_readCompared 6 = .ok (.invokevirtual 49, 3) := by decide +kernel
theorem dX2_readCompared_9 : decode cX2_readCompared 9 = .ok (.istore_n 2, 1) := by decide +kernel
theorem dX2_readCompared_10 : decode cX2_readCompared 10 = .ok (.iload_n 2, 1) := by decide +kernel
theorem dX2_readCompared_11 : decode cX2_readCompared 11 = .ok (.bipush 60, 2) := by decide +kernel
theorem dX2_readCompared_13 : decode cX2_readCompared 13 = .ok (.if_icmp .eq 15, 3) := by decide +kernel
theorem dX2_readCompared_16 : decode cX2_readCompared 16 = .ok (.iload_n 2, 1) := by decide +kernel
theorem dX2_readCompared_17 : decode cX2_readCompared 17 = .ok (.bipush 61, 2) := by decide +kernel
theorem dX2_readCompared_19 : decode cX2_readCompared 19 = .ok (.if_icmp .eq 9, 3) := by decide +kernel
theorem dX2_readCompared_22 : decode cX2_readCompared 22 = .ok (.iload_n 2, 1) := by decide +kernel
theorem dX2_readCompared_23 : decode cX2_readCompared 23 = .ok (.bipush 62, 2) := by decide +kernel
theorem dX2_readCompared_25 : decode cX2_readCompared 25 = .ok (.if_icmp .ne 24, 3) := by decide +kernel
theorem dX2_readCompared_28 : decode cX2_readCompared 28 = .ok (.aload_n 0, 1) := by decide +kernel
theorem dX2_readCompared_29 : decode cX2_readCompared 29 = .ok (.dup, 1) := by decide +kernel
theorem dX2_readCompared_30 : decode cX2_readCompared 30 = .ok (.getfield 31, 3) := by decide +kernel
theorem dX2_readCompared_33 : decode cX2_readCompared 33 = .ok (.iconst 1, 1) := by decide +kernel
theorem dX2_readCompared_34 : decode cX2_readCompared 34 = .ok (.iadd, 1) := by decide +kernel
theorem dX2_readCompared_35 : decode cX2_readCompared 35 = .ok (.putfield 31, 3) := by decide +kernel
theorem dX2_readCompared_38 : decode cX2_readCompared 38 = .ok (.aload_n 0, 1) := by decide +kernel
theorem dX2_readCompared_39 : decode cX2_readCompared 39 = .ok (.iload_n 1, 1) := by decide +kernel
theorem dX2_readCompared_40 : decode cX2_readCompared 40 = .ok (.invokevirtual 73, 3) := by decide +kernel
theorem dX2_readCompared_43 : decode cX2_readCompared 43 = .ok (.aload_n 0, 1) := by decide +kernel
theorem dX2_readCompared_44 : decode cX2_readCompared 44 = .ok (.iload_n 2, 1) := by decide +kernel
theorem dX2_readCompared_45 : decode cX2_readCompared 45 = .ok (.ineg, 1) := by decide +kernel
theorem dX2_readCompared_46 : decode cX2_readCompared 46 = .ok (.invokevirtual 61, 3) := by decide +kernel
theorem dX2_readCompared_49 : decode cX2_readCompared 49 = .ok (.return_, 1) := by decide +kernel
theorem dX2_readSum_0 : decode cX2_readSum 0 = .ok (.aload_n 0, 1) := by decide +kernel
theorem dX2_readSum_1 : decode cX2_readSum 1 = .ok (.iload_n 1, 1) := by decide +kernel
theorem dX2_readSum_2 : decode cX2_readSum 2 = .ok (.invokevirtual 76, 3) := by decide +kernel
theorem dX2_readSum_5 : decode cX2_readSum 5 = .ok (.iconst 0, 1) := by decide +kernel
theorem dX2_readSum_6 : decode cX2_readSum 6 = .ok (.istore_n 2, 1) := by decide +kernel
theorem dX2_readSum_7 : decode cX2_readSum 7 = .ok (.iload_n 2, 1) := by decide +kernel
theorem dX2_readSum_8 : decode cX2_readSum 8 = .ok (.bipush 120, 2) := by decide +kernel
theorem dX2_readSum_10 : decode cX2_readSum 10 = .ok (.if_icmp .ge 50, 3) := by decide +kernel
theorem dX2_readSum_13 : decode cX2_readSum 13 = .ok (.aload_n 0, 1) := by decide +kernel
theorem dX2_readSum_14 : decode cX2_readSum 14 = .ok (.invokevirtual 49, 3) := by decide +kernel
theorem dX2_readSum_17 : decode cX2_readSum 17 = .ok (.istore_n 3, 1) := by decide +kernel
theorem dX2_readSum_18 : decode cX2_readSum 18 = .ok (.iload_n 3, 1) := by decide +kernel
theorem dX2_readSum_19 : decode cX2_readSum 19 = .ok (.bipush 43, 2) := by decide +kernel
theorem dX2_readSum_21 : decode cX2_readSum 21 = .ok (.if_icmp .eq 12, 3) := by decide +kernel
theorem dX2_readSum_24 : decode cX2_readSum 24 = .ok (.iload_n 3, 1) := by decide +kernel
theorem dX2_readSum_25 : decode cX2_readSum 25 = .ok (.bipush 45, 2) := by decide +kernel
theorem dX2_readSum_27 : decode cX2_readSum 27 = .ok (.if_icmp .eq 6, 3) := by decide +kernel
theorem dX2_readSum_30 : decode cX2_readSum 30 = .ok (.goto 30, 3) := by decide +kernel
theorem dX2_readSum_33 : decode cX2_readSum 33 = .ok (.aload_n 0, 1) := by decide +kernel
theorem dX2_readSum_34 : decode cX2_readSum 34 = .ok (.dup, 1) := by decide +kernel
theorem dX2_readSum_35 : decode cX2_readSum 35 = .ok (.getfield 31, 3) := by decide +kernel
theorem dX2_readSum_38 : decode cX2_readSum 38 = .ok (.iconst 1, 1) := by decide +kernel
theorem dX2_readSum_39 : decode cX2_readSum 39 = .ok (.iadd, 1) := by decide +kernel
theorem dX2_readSum_40 : decode cX2_readSum 40 = .ok (.putfield 31, 3) := by decide +kernel
theorem dX2_readSum_43 : decode cX2_readSum 43 = .ok (.aload_n 0, 1) := by decide +kernel
theorem dX2_readSum_44 : decode cX2_readSum 44 = .ok (.iload_n 1, 1) := by decide +kernel
theorem dX2_readSum_45 : decode cX2_readSum 45 = .ok (.invokevirtual 76, 3) := by decide +kernel
theorem dX2_readSum_48 : decode cX2_readSum 48 = .ok (.aload_n 0, 1) := by decide +kernel
theorem dX2_readSum_49 : decode cX2_readSum 49 = .ok (.iload_n 3, 1) := by decide +kernel
theorem dX2_readSum_50 : decode cX2_readSum 50 = .ok (.ineg, 1) := by decide +kernel
theorem dX2_readSum_51 : decode cX2_readSum 51 = .ok (.invokevirtual 61, 3) := by decide +kernel
theorem dX2_readSum_54 : decode cX2_readSum 54 = .ok (.iinc 2 1, 3) := by decide +kernel
theorem dX2_readSum_57 : decode cX2_readSum 57 = .ok (.goto (-50), 3) := by decide +kernel
theorem dX2_readSum_60 : decode cX2_readSum 60 = .ok (.return_, 1) := by decide +kernel
theorem dX2_readProduct_0 : decode cX2_readProduct 0 = .ok (.aload_n 0, 1) := by decide +kernel
theorem dX2_readProduct_1 : decode cX2_readProduct 1 = .ok (.iload_n 1, 1) := by decide +kernel
theorem dX2_readProduct_2 : decode cX2_readProduct 2 = .ok (.invokevirtual 79, 3) := by decide +kernel
theorem dX2_readProduct_5 : decode cX2_readProduct 5 = .ok (.iconst 0, 1) := by decide +kernel
theorem dX2_readProduct_6 : decode cX2_readProduct 6 = .ok (.istore_n 2, 1) := by decide +kernel
theorem dX2_readProduct_7 : decode cX2_readProduct 7 = .ok (.iload_n 2, 1) := by decide +kernel
theorem dX2_readProduct_8 : decode cX2_readProduct 8 = .ok (.bipush 120, 2) := by decide +kernel
theorem dX2_readProduct_10 : decode cX2_readProduct 10 = .ok (.if_icmp .ge 56, 3) := by decide +kernel
theorem dX2_readProduct_13 : decode cX2_readProduct 13 = .ok (.aload_n 0, 1) := by decide +kernel
theorem dX2_readProduct_14 : decode cX2_readProduct 14 = .ok (.invokevirtual 49, 3) := by decide +kernel
theorem dX2_readProduct_17 : decode cX2_readProduct 17 = .ok (.istore_n 3, 1) := by decide +kernel
theorem dX2_readProduct_18 : decode cX2_readProduct 18 = .ok (.iload_n 3, 1) := by decide +kernel
theorem dX2_readProduct_19 : decode cX2_readProduct 19 = .ok (.bipush 42, 2) := by decide +kernel
theorem dX2_readProduct_21 : decode cX2_readProduct 21 = .ok (.if_icmp .eq 18, 3) := by decide +kernel
theorem dX2_readProduct_24 : decode cX2_readProduct 24 = .ok (.iload_n 3, 1) := by decide +kernel
theorem dX2_readProduct_25 : decode cX2_readProduct 25 = .ok (.bipush 47, 2) := by decide +kernel
theorem dX2_readProduct_27 : decode cX2_readProduct 27 = .ok (.if_icmp .eq 12, 3) := by decide +kernel
theorem dX2_readProduct_30 : decode cX2_readProduct 30 = .ok (.iload_n 3, 1) := by decide +kernel
theorem dX2_readProduct_31 : decode cX2_readProduct 31 = .ok (.bipush 37, 2) := by decide +kernel
theorem dX2_readProduct_33 : decode cX2_readProduct 33 = .ok (.if_icmp .eq 6, 3) := by decide +kernel
theorem dX2_readProduct_36 : decode cX2_readProduct 36 = .ok (.goto 30, 3) := by decide +kernel
theorem dX2_readProduct_39 : decode cX2_readProduct 39 = .ok (.aload_n 0, 1) := by decide +kernel
theorem dX2_readProduct_40 : decode cX2_readProduct 40 = .ok (.dup, 1) := by decide +kernel
theorem dX2_readProduct_41 : decode cX2_readProduct 41 = .ok (.getfield 31, 3) := by decide +kernel
theorem dX2_readProduct_44 : decode cX2_readProduct 44 = .ok (.iconst 1, 1) := by decide +kernel
theorem dX2_readProduct_45 : decode cX2_readProduct 45 = .ok (.iadd, 1) := by decide +kernel
theorem dX2_readProduct_46 : decode cX2_readProduct 46 = .ok (.putfield 31, 3) := by decide +kernel
theorem dX2_readProduct_49 : decode cX2_readProduct 49 = .ok (.aload_n 0, 1) := by decide +kernel
theorem dX2_readProduct_50 : decode cX2_readProduct 50 = .ok (.iload_n 1, 1) := by decide +kernel
theorem dX2_readProduct_51 : decode cX2_readProduct 51 = .ok (.invokevirtual 79, 3) := by decide +kernel
theorem dX2_readProduct_54 : decode cX2_readProduct 54 = .ok (.aload_n 0, 1) := by decide +kernel
theorem dX2_readProduct_55 : decode cX2_readProduct 55 = .ok (.iload_n 3, 1) := by decide +kernel
theorem dX2_readProduct_56 : decode cX2_readProduct 56 = .ok (.ineg, 1) := by decide +kernel
theorem dX2_readProduct_57 : decode cX2_readProduct 57 = .ok (.invokevirtual 61, 3) := by decide +kernel
theorem dX2_readProduct_60 : decode cX2_readProduct 60 = .ok (.iinc 2 1, 3) := by decide +kernel
theorem dX2_readProduct_63 : decode cX2_readProduct 63 = .ok (.goto (-56), 3) := by decide +kernel
theorem dX2_readProduct_66 : decode cX2_readProduct 66 = .ok (.return_, 1) := by decide +kernel
theorem dX2_readOperand_0 : decode cX2_readOperand 0 = .ok (.aload_n 0, 1) := by decide +kernel
theorem dX2_readOperand_1 : decode cX2_readOperand 1 = .ok (.invokevirtual 49, 3) := by decide +kernel
theorem dX2_readOperand_4 : decode cX2_readOperand 4 = .ok (.istore_n 2, 1) := by decide +kernel
theorem dX2_readOperand_5 : decode cX2_readOperand 5 = .ok (.iload_n 2, 1) := by decide +kernel
theorem dX2_readOperand_6 : decode cX2_readOperand 6 = .ok (.invokestatic 82, 3) := by decide +kernel
theorem dX2_readOperand_9 : decode cX2_readOperand 9 = .ok (.ifCond .eq 10, 3) := by decide +kernel
theorem dX2_readOperand_12 : decode cX2_readOperand 12 = .ok (.aload_n 0, 1) := by decide +kernel
theorem dX2_readOperand_13 : decode cX2_readOperand 13 = .ok (.invokevirtual 85, 3) := by decide +kernel
theorem dX2_readOperand_16 : decode cX2_readOperand 16 = .ok (.goto 78, 3) := by decide +kernel
theorem dX2_readOperand_19 : decode cX2_readOperand 19 = .ok (.iload_n 2, 1) := by decide +kernel
theorem dX2_readOperand_20 : decode cX2_readOperand 20 = .ok (.invokestatic 88, 3) := by decide +kernel
theorem dX2_readOperand_23 : decode cX2_readOperand 23 = .ok (.ifCond .eq 22, 3) := by decide +kernel
theorem dX2_readOperand_26 : decode cX2_readOperand 26 = .ok (.aload_n 0, 1) := by decide +kernel
theorem dX2_readOperand_27 : decode cX2_readOperand 27 = .ok (.dup, 1) := by decide +kernel
theorem dX2_readOperand_28 : decode cX2_readOperand 28 = .ok (.getfield 31, 3) := by decide +kernel
theorem dX2_readOperand_31 : decode cX2_readOperand 31 = .ok (.iconst 1, 1) := by decide +kernel
theorem dX2_readOperand_32 : decode cX2_readOperand 32 = .ok (.iadd, 1) := by decide +kernel
theorem dX2_readOperand_33 : decode cX2_readOperand 33 = .ok (.putfield 31, 3) := by decide +kernel
theorem dX2_readOperand_36 : decode cX2_readOperand 36 = .ok (.aload_n 0, 1) := by decide +kernel
theorem dX2_readOperand_37 : decode cX2_readOperand 37 = .ok (.iload_n 2, 1) := by decide +kernel
theorem dX2_readOperand_38 : decode cX2_readOperand 38 = .ok (.ineg, 1) := by decide +kernel
theorem dX2_readOperand_39 : decode cX2_readOperand 39 = .ok (.invokevirtual 61, 3) := by decide +kernel
theorem dX2_readOperand_42 : decode cX2_readOperand 42 = .ok (.goto 52, 3) := by decide +kernel
theorem dX2_readOperand_45 : decode cX2_readOperand 45 = .ok (.iload_n 1, 1) := by decide +kernel
theorem dX2_readOperand_46 : decode cX2_readOperand 46 = .ok (.bipush 6, 2) := by decide +kernel
theorem dX2_readOperand_48 : decode cX2_readOperand 48 = .ok (.if_icmp .ge 42, 3) := by decide +kernel
theorem dX2_readOperand_51 : decode cX2_readOperand 51 = .ok (.iload_n 2, 1) := by decide +kernel
theorem dX2_readOperand_52 : decode cX2_readOperand 52 = .ok (.bipush 40, 2) := by decide +kernel
theorem dX2_readOperand_54 : decode cX2_readOperand 54 = .ok (.if_icmp .eq 15, 3) := by decide +kernel
theorem dX2_readOperand_57 : decode cX2_readOperand 57 = .ok (.iload_n 2, 1) := by decide +kernel
theorem dX2_readOperand_58 : decode cX2_readOperand 58 = .ok (.bipush 33, 2) := by decide +kernel
theorem dX2_readOperand_60 : decode cX2_readOperand 60 = .ok (.if_icmp .eq 9, 3) := by decide +kernel
theorem dX2_readOperand_63 : decode cX2_readOperand 63 = .ok (.iload_n 2, 1) := by decide +kernel
theorem dX2_readOperand_64 : decode cX2_readOperand 64 = .ok (.bipush 45, 2) := by decide +kernel
theorem dX2_readOperand_66 : decode cX2_readOperand 66 = .ok (.if_icmp .ne 24, 3) := by decide +kernel
theorem dX2_readOperand_69 : decode cX2_readOperand 69 = .ok (.aload_n 0, 1) := by decide +kernel
theorem dX2_readOperand_70 : decode cX2_readOperand 70 = .ok (.dup, 1) := by decide +kernel
theorem dX2_readOperand_71 : decode cX2_readOperand 71 = .ok (.getfield 31, 3) := by decide +kernel
theorem dX2_readOperand_74 : decode cX2_readOperand 74 = .ok (.iconst 1, 1) := by decide +kernel
theorem dX2_readOperand_75 : decode cX2_readOperand 75 = .ok (.iadd, 1) := by decide +kernel
theorem dX2_readOperand_76 : decode cX2_readOperand 76 = .ok (.putfield 31, 3) := by decide +kernel
theorem dX2_readOperand_79 : decode cX2_readOperand 79 = .ok (.aload_n 0, 1) := by decide +kernel
theorem dX2_readOperand_80 : decode cX2_readOperand 80 = .ok (.iload_n 2, 1) := by decide +kernel
theorem dX2_readOperand_81 : decode cX2_readOperand 81 = .ok (.iload_n 1, 1) := by decide +kernel
theorem dX2_readOperand_82 : decode cX2_readOperand 82 = .ok (.iconst 1, 1) := by decide +kernel
theorem dX2_readOperand_83 : decode cX2_readOperand 83 = .ok (.iadd, 1) := by decide +kernel
theorem dX2_readOperand_84 : decode cX2_readOperand 84 = .ok (.invokevirtual 91, 3) := by decide +kernel
theorem dX2_readOperand_87 : decode cX2_readOperand 87 = .ok (.goto 7, 3) := by decide +kernel
theorem dX2_readOperand_90 : decode cX2_readOperand 90 = .ok (.aload_n 0, 1) := by decide +kernel
theorem dX2_readOperand_91 : decode cX2_readOperand 91 = .ok (.invokevirtual 64, 3) := by decide +kernel
theorem dX2_readOperand_94 : decode cX2_readOperand 94 = .ok (.return_, 1) := by decide +kernel
theorem dX2_readOpened_0 : decode cX2_readOpened 0 = .ok (.iload_n 1, 1) := by decide +kernel
theorem dX2_readOpened_1 : decode cX2_readOpened 1 = .ok (.bipush 40, 2) := by decide +kernel
theorem dX2_readOpened_3 : decode cX2_readOpened 3 = .ok (.if_icmp .ne 24, 3) := by decide +kernel
theorem dX2_readOpened_6 : decode cX2_readOpened 6 = .ok (.aload_n 0, 1) := by decide +kernel
theorem dX2_readOpened_7 : decode cX2_readOpened 7 = .ok (.iload_n 2, 1) := by decide +kernel
theorem dX2_readOpened_8 : decode cX2_readOpened 8 = .ok (.invokevirtual 53, 3) := by decide +kernel
theorem dX2_readOpened_11 : decode cX2_readOpened 11 = .ok (.aload_n 0, 1) := by decide +kernel
theorem dX2_readOpened_12 : decode cX2_readOpened 12 = .ok (.bipush 41, 2) := by decide +kernel
theorem dX2_readOpened_14 : decode cX2_readOpened 14 = .ok (.invokevirtual 57, 3) := by decide +kernel
theorem dX2_readOpened_17 : decode cX2_readOpened 17 = .ok (.ifCond .ne 32, 3) := by decide +kernel
theorem dX2_readOpened_20 : decode cX2_readOpened 20 = .ok (.aload_n 0, 1) := by decide +kernel
theorem dX2_readOpened_21 : decode cX2_readOpened 21 = .ok (.invokevirtual 64, 3) := by decide +kernel
theorem dX2_readOpened_24 : decode cX2_readOpened 24 = .ok (.goto 25, 3) := by decide +kernel
theorem dX2_readOpened_27 : decode cX2_readOpened 27 = .ok (.aload_n 0, 1) := by decide +kernel
theorem dX2_readOpened_28 : decode cX2_readOpened 28 = .ok (.iload_n 2, 1) := by decide +kernel
theorem dX2_readOpened_29 : decode cX2_readOpened 29 = .ok (.invokevirtual 79, 3) := by decide +kernel
theorem dX2_readOpened_32 : decode cX2_readOpened 32 = .ok (.aload_n 0, 1) := by decide +kernel
theorem dX2_readOpened_33 : decode cX2_readOpened 33 = .ok (.iload_n 1, 1) := by decide +kernel
theorem dX2_readOpened_34 : decode cX2_readOpened 34 = .ok (.bipush 33, 2) := by decide +kernel
theorem dX2_readOpened_36 : decode cX2_readOpened 36 = .ok (.if_icmp .ne 8, 3) := by decide +kernel
theorem dX2_readOpened_39 : decode cX2_readOpened 39 = .ok (.bipush (-33), 2) := by decide +kernel
theorem dX2_readOpened_41 : decode cX2_readOpened 41 = .ok (.goto 5, 3) := by decide +kernel
theorem dX2_readOpened_44 : decode cX2_readOpened 44 = .ok (.bipush (-126), 2) := by decide +kernel
theorem dX2_readOpened_46 : decode cX2_readOpened 46 = .ok (.invokevirtual 61, 3) := by decide +kernel
theorem dX2_readOpened_49 : decode cX2_readOpened 49 = .ok (.return_, 1) := by decide +kernel
theorem dX2_readNumber_0 : decode cX2_readNumber 0 = .ok (.iconst 0, 1) := by decide +kernel
theorem dX2_readNumber_1 : decode cX2_readNumber 1 = .ok (.istore_n 1, 1) := by decide +kernel
theorem dX2_readNumber_2 : decode cX2_readNumber 2 = .ok (.iconst 0, 1) := by decide +kernel
theorem dX2_readNumber_3 : decode cX2_readNumber 3 = .ok (.istore_n 2, 1) := by decide +kernel
theorem dX2_readNumber_4 : decode cX2_readNumber 4 = .ok (.iload_n 2, 1) := by decide +kernel
theorem dX2_readNumber_5 : decode cX2_readNumber 5 = .ok (.iconst 4, 1) := by decide +kernel
theorem dX2_readNumber_6 : decode cX2_readNumber 6 = .ok (.if_icmp .ge 42, 3) := by decide +kernel
theorem dX2_readNumber_9 : decode cX2_readNumber 9 = .ok (.aload_n 0, 1) := by decide +kernel
theorem dX2_readNumber_10 : decode cX2_readNumber 10 = .ok (.invokevirtual 49, 3) := by decide +kernel
theorem dX2_readNumber_13 : decode cX2_readNumber 13 = .ok (.invokestatic 82, 3) := by decide +kernel
theorem dX2_readNumber_16 : decode cX2_readNumber 16 = .ok (.ifCond .eq 32, 3) := by decide +kernel
theorem dX2_readNumber_19 : decode cX2_readNumber 19 = .ok (.iload_n 1, 1) := by decide +kernel
theorem dX2_readNumber_20 : decode cX2_readNumber 20 = .ok (.bipush 10, 2) := by decide +kernel
theorem dX2_readNumber_22 : decode cX2_readNumber 22 = .ok (.imul, 1) := by decide +kernel
theorem dX2_readNumber_23 : decode cX2_readNumber 23 = .ok (.aload_n 0, 1) := by decide +kernel
theorem dX2_readNumber_24 : decode cX2_readNumber 24 = .ok (.invokevirtual 49, 3) := by decide +kernel
theorem dX2_readNumber_27 : decode cX2_readNumber 27 = .ok (.iadd, 1) := by decide +kernel
theorem dX2_readNumber_28 : decode cX2_readNumber 28 = .ok (.bipush 48, 2) := by decide +kernel
theorem dX2_readNumber_30 : decode cX2_readNumber 30 = .ok (.isub, 1) := by decide +kernel
theorem dX2_readNumber_31 : decode cX2_readNumber 31 = .ok (.istore_n 1, 1) := by decide +kernel
theorem dX2_readNumber_32 : decode cX2_readNumber 32 = .ok (.aload_n 0, 1) := by decide +kernel
theorem dX2_readNumber_33 : decode cX2_readNumber 33 = .ok (.dup, 1) := by decide +kernel
theorem dX2_readNumber_34 : decode cX2_readNumber 34 = .ok (.getfield 31, 3) := by decide +kernel
theorem dX2_readNumber_37 : decode cX2_readNumber 37 = .ok (.iconst 1, 1) := by decide +kernel
theorem dX2_readNumber_38 : decode cX2_readNumber 38 = .ok (.iadd, 1) := by decide +kernel
theorem dX2_readNumber_39 : decode cX2_readNumber 39 = .ok (.putfield 31, 3) := by decide +kernel
theorem dX2_readNumber_42 : decode cX2_readNumber 42 = .ok (.iinc 2 1, 3) := by decide +kernel
theorem dX2_readNumber_45 : decode cX2_readNumber 45 = .ok (.goto (-41), 3) := by decide +kernel
theorem dX2_readNumber_48 : decode cX2_readNumber 48 = .ok (.aload_n 0, 1) := by decide +kernel
theorem dX2_readNumber_49 : decode cX2_readNumber 49 = .ok (.iload_n 1, 1) := by decide +kernel
theorem dX2_readNumber_50 : decode cX2_readNumber 50 = .ok (.invokevirtual 61, 3) := by decide +kernel
theorem dX2_readNumber_53 : decode cX2_readNumber 53 = .ok (.return_, 1) := by decide +kernel
theorem dX2_isDigit_0 : decode cX2_isDigit 0 = .ok (.iload_n 0, 1) := by decide +kernel
theorem dX2_isDigit_1 : decode cX2_isDigit 1 = .ok (.bipush 48, 2) := by decide +kernel
theorem dX2_isDigit_3 : decode cX2_isDigit 3 = .ok (.if_icmp .lt 13, 3) := by decide +kernel
theorem dX2_isDigit_6 : decode cX2_isDigit 6 = .ok (.iload_n 0, 1) := by decide +kernel
theorem dX2_isDigit_7 : decode cX2_isDigit 7 = .ok (.bipush 57, 2) := by decide +kernel
theorem dX2_isDigit_9 : decode cX2_isDigit 9 = .ok (.if_icmp .gt 7, 3) := by decide +kernel
theorem dX2_isDigit_12 : decode cX2_isDigit 12 = .ok (.iconst 1, 1) := by decide +kernel
theorem dX2_isDigit_13 : decode cX2_isDigit 13 = .ok (.goto 4, 3) := by decide +kernel
theorem dX2_isDigit_16 : decode cX2_isDigit 16 = .ok (.iconst 0, 1) := by decide +kernel
theorem dX2_isDigit_17 : decode cX2_isDigit 17 = .ok (.ireturn, 1) := by decide +kernel
theorem dX2_isName_0 : decode cX2_isName 0 = .ok (.iload_n 0, 1) := by decide +kernel
theorem dX2_isName_1 : decode cX2_isName 1 = .ok (.tableswitch 101 99 119 #[99, 99, 101, 101, 101, 99, 101, 101, 101, 101, 101, 101, 99, 101, 101, 101, 99, 101, 99, 101, 99], 99) := by decide +kernel
theorem dX2_isName_100 : decode cX2_isName 100 = .ok (.iconst 1, 1) := by decide +kernel
theorem dX2_isName_101 : decode cX2_isName 101 = .ok (.ireturn, 1) := by decide +kernel
theorem dX2_isName_102 : decode cX2_isName 102 = .ok (.iconst 0, 1) := by decide +kernel
theorem dX2_isName_103 : decode cX2_isName 103 = .ok (.ireturn, 1) := by decide +kernel
theorem dX2_orderFor_0 : decode cX2_orderFor 0 = .ok (.aload_n 0, 1) := by decide +kernel
theorem dX2_orderFor_1 : decode cX2_orderFor 1 = .ok (.getfield 46, 3) := by decide +kernel
theorem dX2_orderFor_4 : decode cX2_orderFor 4 = .ok (.ifCond .ne 17, 3) := by decide +kernel
theorem dX2_orderFor_7 : decode cX2_orderFor 7 = .ok (.aload_n 2, 1) := by decide +kernel
theorem dX2_orderFor_8 : decode cX2_orderFor 8 = .ok (.aload_n 1, 1) := by decide +kernel
theorem dX2_orderFor_9 : decode cX2_orderFor 9 = .ok (.invokevirtual 95, 3) := by decide +kernel
theorem dX2_orderFor_12 : decode cX2_orderFor 12 = .ok (.ifCond .eq 7, 3) := by decide +kernel
theorem dX2_orderFor_15 : decode cX2_orderFor 15 = .ok (.iconst 5, 1) := by decide +kernel
theorem dX2_orderFor_16 : decode cX2_orderFor 16 = .ok (.goto 4, 3) := by decide +kernel
theorem dX2_orderFor_19 : decode cX2_orderFor 19 = .ok (.iconst 0, 1) := by decide +kernel
theorem dX2_orderFor_20 : decode cX2_orderFor 20 = .ok (.ireturn, 1) := by decide +kernel
theorem dX2_orderFor_21 : decode cX2_orderFor 21 = .ok (.aload_n 0, 1) := by decide +kernel
theorem dX2_orderFor_22 : decode cX2_orderFor 22 = .ok (.aload_n 1, 1) := by decide +kernel
theorem dX2_orderFor_23 : decode cX2_orderFor 23 = .ok (.aload_n 2, 1) := by decide +kernel
theorem dX2_orderFor_24 : decode cX2_orderFor 24 = .ok (.iload_n 3, 1) := by decide +kernel
theorem dX2_orderFor_25 : decode cX2_orderFor 25 = .ok (.invokevirtual 101, 3) := by decide +kernel
theorem dX2_orderFor_28 : decode cX2_orderFor 28 = .ok (.istore 4, 2) := by decide +kernel
theorem dX2_orderFor_30 : decode cX2_orderFor 30 = .ok (.iload 4, 2) := by decide +kernel
theorem dX2_orderFor_32 : decode cX2_orderFor 32 = .ok (.ifCond .ge 7, 3) := by decide +kernel
theorem dX2_orderFor_35 : decode cX2_orderFor 35 = .ok (.iconst 0, 1) := by decide +kernel
theorem dX2_orderFor_36 : decode cX2_orderFor 36 = .ok (.goto 8, 3) := by decide +kernel
theorem dX2_orderFor_39 : decode cX2_orderFor 39 = .ok (.iload 4, 2) := by decide +kernel
theorem dX2_orderFor_41 : decode cX2_orderFor 41 = .ok (.bipush 6, 2) := by decide +kernel
theorem dX2_orderFor_43 : decode cX2_orderFor 43 = .ok (.irem, 1) := by decide +kernel
theorem dX2_orderFor_44 : decode cX2_orderFor 44 = .ok (.ireturn, 1) := by decide +kernel
theorem dX2_workOut_0 : decode cX2_workOut 0 = .ok (.iconst 0, 1) := by decide +kernel
theorem dX2_workOut_1 : decode cX2_workOut 1 = .ok (.istore 4, 2) := by decide +kernel
theorem dX2_workOut_3 : decode cX2_workOut 3 = .ok (.aload_n 0, 1) := by decide +kernel
theorem dX2_workOut_4 : decode cX2_workOut 4 = .ok (.iconst 0, 1) := by decide +kernel
theorem dX2_workOut_5 : decode cX2_workOut 5 = .ok (.putfield 105, 3) := by decide +kernel
theorem dX2_workOut_8 : decode cX2_workOut 8 = .ok (.iconst 0, 1) := by decide +kernel
theorem dX2_workOut_9 : decode cX2_workOut 9 = .ok (.istore 5, 2) := by decide +kernel
theorem dX2_workOut_11 : decode cX2_workOut 11 = .ok (.iload 5, 2) := by decide +kernel
theorem dX2_workOut_13 : decode cX2_workOut 13 = .ok (.aload_n 0, 1) := by decide +kernel
theorem dX2_workOut_14 : decode cX2_workOut 14 = .ok (.getfield 46, 3) := by decide +kernel
theorem dX2_workOut_17 : decode cX2_workOut 17 = .ok (.if_icmp .ge 79, 3) := by decide +kernel
theorem dX2_workOut_20 : decode cX2_workOut 20 = .ok (.aload_n 0, 1) := by decide +kernel
theorem dX2_workOut_21 : decode cX2_workOut 21 = .ok (.getfield 18, 3) := by decide +kernel
theorem dX2_workOut_24 : decode cX2_workOut 24 = .ok (.iload 5, 2) := by decide +kernel
theorem dX2_workOut_26 : decode cX2_workOut 26 = .ok (.iaload, 1) := by decide +kernel
theorem dX2_workOut_27 : decode cX2_workOut 27 = .ok (.istore 6, 2) := by decide +kernel
theorem dX2_workOut_29 : decode cX2_workOut 29 = .ok (.iload 6, 2) := by decide +kernel
theorem dX2_workOut_31 : decode cX2_workOut 31 = .ok (.bipush (-59), 2) := by decide +kernel
theorem dX2_workOut_33 : decode cX2_workOut 33 = .ok (.if_icmp .ne 19, 3) := by decide +kernel
theorem dX2_workOut_36 : decode cX2_workOut 36 = .ok (.iload 4, 2) := by decide +kernel
theorem dX2_workOut_38 : decode cX2_workOut 38 = .ok (.ifCond .ne 8, 3) := by decide +kernel
theorem dX2_workOut_41 : decode cX2_workOut 41 = .ok (.aload_n 0, 1) := by decide +kernel
theorem dX2_workOut_42 : decode cX2_workOut 42 = .ok (.invokevirtual 108, 3) := by decide +kernel
theorem dX2_workOut_45 : decode cX2_workOut 45 = .ok (.ireturn, 1) := by decide +kernel
theorem dX2_workOut_46 : decode cX2_workOut 46 = .ok (.iconst 0, 1) := by decide +kernel
theorem dX2_workOut_47 : decode cX2_workOut 47 = .ok (.istore 4, 2) := by decide +kernel
theorem dX2_workOut_49 : decode cX2_workOut 49 = .ok (.goto 41, 3) := by decide +kernel
theorem dX2_workOut_52 : decode cX2_workOut 52 = .ok (.iload 4, 2) := by decide +kernel
theorem dX2_workOut_54 : decode cX2_workOut 54 = .ok (.ifCond .ne 36, 3) := by decide +kernel
theorem dX2_workOut_57 : decode cX2_workOut 57 = .ok (.iload 6, 2) := by decide +kernel
theorem dX2_workOut_59 : decode cX2_workOut 59 = .ok (.bipush (-63), 2) := by decide +kernel
theorem dX2_workOut_61 : decode cX2_workOut 61 = .ok (.if_icmp .ne 20, 3) := by decide +kernel
theorem dX2_workOut_64 : decode cX2_workOut 64 = .ok (.aload_n 0, 1) := by decide +kernel
theorem dX2_workOut_65 : decode cX2_workOut 65 = .ok (.invokevirtual 108, 3) := by decide +kernel
theorem dX2_workOut_68 : decode cX2_workOut 68 = .ok (.ifCond .ne 7, 3) := by decide +kernel
theorem dX2_workOut_71 : decode cX2_workOut 71 = .ok (.iconst 1, 1) := by decide +kernel
theorem dX2_workOut_72 : decode cX2_workOut 72 = .ok (.goto 4, 3) := by decide +kernel
theorem dX2_workOut_75 : decode cX2_workOut 75 = .ok (.iconst 0, 1) := by decide +kernel
theorem dX2_workOut_76 : decode cX2_workOut 76 = .ok (.istore 4, 2) := by decide +kernel
theorem dX2_workOut_78 : decode cX2_workOut 78 = .ok (.goto 12, 3) := by decide +kernel
theorem dX2_workOut_81 : decode cX2_workOut 81 = .ok (.aload_n 0, 1) := by decide +kernel
theorem dX2_workOut_82 : decode cX2_workOut 82 = .ok (.iload 6, 2) := by decide +kernel
theorem dX2_workOut_84 : decode cX2_workOut 84 = .ok (.aload_n 1, 1) := by decide +kernel
theorem dX2_workOut_85 : decode cX2_workOut 85 = .ok (.aload_n 2, 1) := by decide +kernel
theorem dX2_workOut_86 : decode cX2_workOut 86 = .ok (.iload_n 3, 1) := by decide +kernel
theorem dX2_workOut_87 : decode cX2_workOut 87 = .ok (.invokevirtual 111, 3) := by decide +kernel
theorem dX2_workOut_90 : decode cX2_workOut 90 = .ok (.iinc 5 1, 3) := by decide +kernel
theorem dX2_workOut_93 : decode cX2_workOut 93 = .ok (.goto (-82), 3) := by decide +kernel
theorem dX2_workOut_96 : decode cX2_workOut 96 = .ok (.iconst 0, 1) := by decide +kernel
theorem dX2_workOut_97 : decode cX2_workOut 97 = .ok (.ireturn, 1) := by decide +kernel
theorem dX2_step_0 : decode cX2_step 0 = .ok (.iload_n 1, 1) := by decide +kernel
theorem dX2_step_1 : decode cX2_step 1 = .ok (.ifCond .lt 11, 3) := by decide +kernel
theorem dX2_step_4 : decode cX2_step 4 = .ok (.aload_n 0, 1) := by decide +kernel
theorem dX2_step_5 : decode cX2_step 5 = .ok (.iload_n 1, 1) := by decide +kernel
theorem dX2_step_6 : decode cX2_step 6 = .ok (.invokevirtual 115, 3) := by decide +kernel
theorem dX2_step_9 : decode cX2_step 9 = .ok (.goto 91, 3) := by decide +kernel
theorem dX2_step_12 : decode cX2_step 12 = .ok (.iload_n 1, 1) := by decide +kernel
theorem dX2_step_13 : decode cX2_step 13 = .ok (.ineg, 1) := by decide +kernel
theorem dX2_step_14 : decode cX2_step 14 = .ok (.invokestatic 88, 3) := by decide +kernel
theorem dX2_step_17 : decode cX2_step 17 = .ok (.ifCond .eq 19, 3) := by decide +kernel
theorem dX2_step_20 : decode cX2_step 20 = .ok (.aload_n 0, 1) := by decide +kernel
theorem dX2_step_21 : decode cX2_step 21 = .ok (.iload_n 1, 1) := by decide +kernel
theorem dX2_step_22 : decode cX2_step 22 = .ok (.ineg, 1) := by decide +kernel
theorem dX2_step_23 : decode cX2_step 23 = .ok (.aload_n 2, 1) := by decide +kernel
theorem dX2_step_24 : decode cX2_step 24 = .ok (.aload_n 3, 1) := by decide +kernel
theorem dX2_step_25 : decode cX2_step 25 = .ok (.iload 4, 2) := by decide +kernel
theorem dX2_step_27 : decode cX2_step 27 = .ok (.invokestatic 118, 3) := by decide +kernel
theorem dX2_step_30 : decode cX2_step 30 = .ok (.invokevirtual 115, 3) := by decide +kernel
theorem dX2_step_33 : decode cX2_step 33 = .ok (.goto 67, 3) := by decide +kernel
theorem dX2_step_36 : decode cX2_step 36 = .ok (.iload_n 1, 1) := by decide +kernel
theorem dX2_step_37 : decode cX2_step 37 = .ok (.bipush (-126), 2) := by decide +kernel
theorem dX2_step_39 : decode cX2_step 39 = .ok (.if_icmp .ne 15, 3) := by decide +kernel
theorem dX2_step_42 : decode cX2_step 42 = .ok (.aload_n 0, 1) := by decide +kernel
theorem dX2_step_43 : decode cX2_step 43 = .ok (.aload_n 0, 1) := by decide +kernel
theorem dX2_step_44 : decode cX2_step 44 = .ok (.invokevirtual 108, 3) := by decide +kernel
theorem dX2_step_47 : decode cX2_step 47 = .ok (.ineg, 1) := by decide +kernel
theorem dX2_step_48 : decode cX2_step 48 = .ok (.invokevirtual 115, 3) := by decide +kernel
theorem dX2_step_51 : decode cX2_step 51 = .ok (.goto 49, 3) := by decide +kernel
theorem dX2_step_54 : decode cX2_step 54 = .ok (.iload_n 1, 1) := by decide +kernel
theorem dX2_step_55 : decode cX2_step 55 = .ok (.bipush (-33), 2) := by decide +kernel
theorem dX2_step_57 : decode cX2_step 57 = .ok (.if_icmp .ne 22, 3) := by decide +kernel
theorem dX2_step_60 : decode cX2_step 60 = .ok (.aload_n 0, 1) := by decide +kernel
theorem dX2_step_61 : decode cX2_step 61 = .ok (.aload_n 0, 1) := by decide +kernel
theorem dX2_step_62 : decode cX2_step 62 = .ok (.invokevirtual 108, 3) := by decide +kernel
theorem dX2_step_65 : decode cX2_step 65 = .ok (.ifCond .ne 7, 3) := by decide +kernel
theorem dX2_step_68 : decode cX2_step 68 = .ok (.iconst 1, 1) := by decide +kernel
theorem dX2_step_69 : decode cX2_step 69 = .ok (.goto 4, 3) := by decide +kernel
theorem dX2_step_72 : decode cX2_step 72 = .ok (.iconst 0, 1) := by decide +kernel
theorem dX2_step_73 : decode cX2_step 73 = .ok (.invokevirtual 115, 3) := by decide +kernel
theorem dX2_step_76 : decode cX2_step 76 = .ok (.goto 24, 3) := by decide +kernel
theorem dX2_step_79 : decode cX2_step 79 = .ok (.aload_n 0, 1) := by decide +kernel
theorem dX2_step_80 : decode cX2_step 80 = .ok (.invokevirtual 108, 3) := by decide +kernel
theorem dX2_step_83 : decode cX2_step 83 = .ok (.istore 5, 2) := by decide +kernel
theorem dX2_step_85 : decode cX2_step 85 = .ok (.aload_n 0, 1) := by decide +kernel
theorem dX2_step_86 : decode cX2_step 86 = .ok (.iload_n 1, 1) := by decide +kernel
theorem dX2_step_87 : decode cX2_step 87 = .ok (.ineg, 1) := by decide +kernel
theorem dX2_step_88 : decode cX2_step 88 = .ok (.aload_n 0, 1) := by decide +kernel
theorem dX2_step_89 : decode cX2_step 89 = .ok (.invokevirtual 108, 3) := by decide +kernel
theorem dX2_step_92 : decode cX2_step 92 = .ok (.iload 5, 2) := by decide +kernel
theorem dX2_step_94 : decode cX2_step 94 = .ok (.invokestatic 122, 3) := by decide +kernel
theorem dX2_step_97 : decode cX2_step 97 = .ok (.invokevirtual 115, 3) := by decide +kernel
theorem dX2_step_100 : decode cX2_step 100 = .ok (.return_, 1) := by decide +kernel
theorem dX2_named_0 : decode cX2_named 0 = .ok (.iload_n 0, 1) := by decide +kernel
theorem dX2_named_1 : decode cX2_named 1 = .ok (.tableswitch 136 100 119 #[105, 136, 136, 136, 107, 136, 136, 136, 136, 136, 136, 116, 136, 136, 136, 95, 136, 100, 136, 130], 95) := by decide +kernel
theorem dX2_named_96 : decode cX2_named 96 = .ok (.aload_n 2, 1) := by decide +kernel
theorem dX2_named_97 : decode cX2_named 97 = .ok (.getfield 126, 3) := by decide +kernel
theorem dX2_named_100 : decode cX2_named 100 = .ok (.ireturn, 1) := by decide +kernel
theorem dX2_named_101 : decode cX2_named 101 = .ok (.aload_n 2, 1) := by decide +kernel
theorem dX2_named_102 : decode cX2_named 102 = .ok (.getfield 129, 3) := by decide +kernel
theorem dX2_named_105 : decode cX2_named 105 = .ok (.ireturn, 1) := by decide +kernel
theorem dX2_named_106 : decode cX2_named 106 = .ok (.iload_n 3, 1) := by decide +kernel
theorem dX2_named_107 : decode cX2_named 107 = .ok (.ireturn, 1) := by decide +kernel
theorem dX2_named_108 : decode cX2_named 108 = .ok (.aload_n 1, 1) := by decide +kernel
theorem dX2_named_109 : decode cX2_named 109 = .ok (.aload_n 2, 1) := by decide +kernel
theorem dX2_named_110 : decode cX2_named 110 = .ok (.getfield 132, 3) := by decide +kernel
theorem dX2_named_113 : decode cX2_named 113 = .ok (.invokevirtual 135, 3) := by decide +kernel
theorem dX2_named_116 : decode cX2_named 116 = .ok (.ireturn, 1) := by decide +kernel
theorem dX2_named_117 : decode cX2_named 117 = .ok (.aload_n 2, 1) := by decide +kernel
theorem dX2_named_118 : decode cX2_named 118 = .ok (.aload_n 1, 1) := by decide +kernel
theorem dX2_named_119 : decode cX2_named 119 = .ok (.invokevirtual 95, 3) := by decide +kernel
theorem dX2_named_122 : decode cX2_named 122 = .ok (.ifCond .eq 7, 3) := by decide +kernel
theorem dX2_named_125 : decode cX2_named 125 = .ok (.iconst 1, 1) := by decide +kernel
theorem dX2_named_126 : decode cX2_named 126 = .ok (.goto 4, 3) := by decide +kernel
theorem dX2_named_129 : decode cX2_named 129 = .ok (.iconst 0, 1) := by decide +kernel
theorem dX2_named_130 : decode cX2_named 130 = .ok (.ireturn, 1) := by decide +kernel
theorem dX2_named_131 : decode cX2_named 131 = .ok (.aload_n 1, 1) := by decide +kernel
theorem dX2_named_132 : decode cX2_named 132 = .ok (.iload_n 3, 1) := by decide +kernel
theorem dX2_named_133 : decode cX2_named 133 = .ok (.invokevirtual 140, 3) := by decide +kernel
theorem dX2_named_136 : decode cX2_named 136 = .ok (.ireturn, 1) := by decide +kernel
theorem dX2_named_137 : decode cX2_named 137 = .ok (.aload_n 2, 1) := by decide +kernel
theorem dX2_named_138 : decode cX2_named 138 = .ok (.getfield 132, 3) := by decide +kernel
theorem dX2_named_141 : decode cX2_named 141 = .ok (.ireturn, 1) := by decide +kernel
theorem dX2_joined_0 : decode cX2_joined 0 = .ok (.iload_n 0, 1) := by decide +kernel
theorem dX2_joined_1 : decode cX2_joined 1 = .ok (.tableswitch 202 37 62 #[143, 188, 202, 202, 202, 127, 119, 202, 123, 202, 131, 202, 202, 202, 202, 202, 202, 202, 202, 202, 202, 202, 202, 155, 166, 177], 119) := by decide +kernel
theorem dX2_joined_120 : decode cX2_joined 120 = .ok (.iload_n 1, 1) := by decide +kernel
theorem dX2_joined_121 : decode cX2_joined 121 = .ok (.iload_n 2, 1) := by decide +kernel
theorem dX2_joined_122 : decode cX2_joined 122 = .ok (.iadd, 1) := by decide +kernel
theorem dX2_joined_123 : decode cX2_joined 123 = .ok (.ireturn, 1) := by decide +kernel
theorem dX2_joined_124 : decode cX2_joined 124 = .ok (.iload_n 1, 1) := by decide +kernel
theorem dX2_joined_125 : decode cX2_joined 125 = .ok (.iload_n 2, 1) := by decide +kernel
theorem dX2_joined_126 : decode cX2_joined 126 = .ok (.isub, 1) := by decide +kernel
theorem dX2_joined_127 : decode cX2_joined 127 = .ok (.ireturn, 1) := by decide +kernel
theorem dX2_joined_128 : decode cX2_joined 128 = .ok (.iload_n 1, 1) := by decide +kernel
theorem dX2_joined_129 : decode cX2_joined 129 = .ok (.iload_n 2, 1) := by decide +kernel
theorem dX2_joined_130 : decode cX2_joined 130 = .ok (.imul, 1) := by decide +kernel
theorem dX2_joined_131 : decode cX2_joined 131 = .ok (.ireturn, 1) := by decide +kernel
theorem dX2_joined_132 : decode cX2_joined 132 = .ok (.iload_n 2, 1) := by decide +kernel
theorem dX2_joined_133 : decode cX2_joined 133 = .ok (.ifCond .ne 7, 3) := by decide +kernel
theorem dX2_joined_136 : decode cX2_joined 136 = .ok (.iconst 0, 1) := by decide +kernel
theorem dX2_joined_137 : decode cX2_joined 137 = .ok (.goto 6, 3) := by decide +kernel
theorem dX2_joined_140 : decode cX2_joined 140 = .ok (.iload_n 1, 1) := by decide +kernel
theorem dX2_joined_141 : decode cX2_joined 141 = .ok (.iload_n 2, 1) := by decide +kernel
theorem dX2_joined_142 : decode cX2_joined 142 = .ok (.idiv, 1) := by decide +kernel
theorem dX2_joined_143 : decode cX2_joined 143 = .ok (.ireturn, 1) := by decide +kernel
theorem dX2_joined_144 : decode cX2_joined 144 = .ok (.iload_n 2, 1) := by decide +kernel
theorem dX2_joined_145 : decode cX2_joined 145 = .ok (.ifCond .ne 7, 3) := by decide +kernel
theorem dX2_joined_148 : decode cX2_joined 148 = .ok (.iconst 0, 1) := by decide +kernel
theorem dX2_joined_149 : decode cX2_joined 149 = .ok (.goto 6, 3) := by decide +kernel
theorem dX2_joined_152 : decode cX2_joined 152 = .ok (.iload_n 1, 1) := by decide +kernel
theorem dX2_joined_153 : decode cX2_joined 153 = .ok (.iload_n 2, 1) := by decide +kernel
theorem dX2_joined_154 : decode cX2_joined 154 = .ok (.irem, 1) := by decide +kernel
theorem dX2_joined_155 : decode cX2_joined 155 = .ok (.ireturn, 1) := by decide +kernel
theorem dX2_joined_156 : decode cX2_joined 156 = .ok (.iload_n 1, 1) := by decide +kernel
theorem dX2_joined_157 : decode cX2_joined 157 = .ok (.iload_n 2, 1) := by decide +kernel
theorem dX2_joined_158 : decode cX2_joined 158 = .ok (.if_icmp .ge 7, 3) := by decide +kernel
theorem dX2_joined_161 : decode cX2_joined 161 = .ok (.iconst 1, 1) := by decide +kernel
theorem dX2_joined_162 : decode cX2_joined 162 = .ok (.goto 4, 3) := by decide +kernel
theorem dX2_joined_165 : decode cX2_joined 165 = .ok (.iconst 0, 1) := by decide +kernel
theorem dX2_joined_166 : decode cX2_joined 166 = .ok (.ireturn, 1) := by decide +kernel
theorem dX2_joined_167 : decode cX2_joined 167 = .ok (.iload_n 1, 1) := by decide +kernel
theorem dX2_joined_168 : decode cX2_joined 168 = .ok (.iload_n 2, 1) := by decide +kernel
theorem dX2_joined_169 : decode cX2_joined 169 = .ok (.if_icmp .ne 7, 3) := by decide +kernel
theorem dX2_joined_172 : decode cX2_joined 172 = .ok (.iconst 1, 1) := by decide +kernel
theorem dX2_joined_173 : decode cX2_joined 173 = .ok (.goto 4, 3) := by decide +kernel
theorem dX2_joined_176 : decode cX2_joined 176 = .ok (.iconst 0, 1) := by decide +kernel
theorem dX2_joined_177 : decode cX2_joined 177 = .ok (.ireturn, 1) := by decide +kernel
theorem dX2_joined_178 : decode cX2_joined 178 = .ok (.iload_n 1, 1) := by decide +kernel
theorem dX2_joined_179 : decode cX2_joined 179 = .ok (.iload_n 2, 1) := by decide +kernel
theorem dX2_joined_180 : decode cX2_joined 180 = .ok (.if_icmp .le 7, 3) := by decide +kernel
theorem dX2_joined_183 : decode cX2_joined 183 = .ok (.iconst 1, 1) := by decide +kernel
theorem dX2_joined_184 : decode cX2_joined 184 = .ok (.goto 4, 3) := by decide +kernel
theorem dX2_joined_187 : decode cX2_joined 187 = .ok (.iconst 0, 1) := by decide +kernel
theorem dX2_joined_188 : decode cX2_joined 188 = .ok (.ireturn, 1) := by decide +kernel
theorem dX2_joined_189 : decode cX2_joined 189 = .ok (.iload_n 1, 1) := by decide +kernel
theorem dX2_joined_190 : decode cX2_joined 190 = .ok (.ifCond .eq 11, 3) := by decide +kernel
theorem dX2_joined_193 : decode cX2_joined 193 = .ok (.iload_n 2, 1) := by decide +kernel
theorem dX2_joined_194 : decode cX2_joined 194 = .ok (.ifCond .eq 7, 3) := by decide +kernel
theorem dX2_joined_197 : decode cX2_joined 197 = .ok (.iconst 1, 1) := by decide +kernel
theorem dX2_joined_198 : decode cX2_joined 198 = .ok (.goto 4, 3) := by decide +kernel
theorem dX2_joined_201 : decode cX2_joined 201 = .ok (.iconst 0, 1) := by decide +kernel
theorem dX2_joined_202 : decode cX2_joined 202 = .ok (.ireturn, 1) := by decide +kernel
theorem dX2_joined_203 : decode cX2_joined 203 = .ok (.iload_n 1, 1) := by decide +kernel
theorem dX2_joined_204 : decode cX2_joined 204 = .ok (.ifCond .ne 7, 3) := by decide +kernel
theorem dX2_joined_207 : decode cX2_joined 207 = .ok (.iload_n 2, 1) := by decide +kernel
theorem dX2_joined_208 : decode cX2_joined 208 = .ok (.ifCond .eq 7, 3) := by decide +kernel
theorem dX2_joined_211 : decode cX2_joined 211 = .ok (.iconst 1, 1) := by decide +kernel
theorem dX2_joined_212 : decode cX2_joined 212 = .ok (.goto 4, 3) := by decide +kernel
theorem dX2_joined_215 : decode cX2_joined 215 = .ok (.iconst 0, 1) := by decide +kernel
theorem dX2_joined_216 : decode cX2_joined 216 = .ok (.ireturn, 1) := by decide +kernel
theorem dX2_push_0 : decode cX2_push 0 = .ok (.aload_n 0, 1) := by decide +kernel
theorem dX2_push_1 : decode cX2_push 1 = .ok (.getfield 105, 3) := by decide +kernel
theorem dX2_push_4 : decode cX2_push 4 = .ok (.aload_n 0, 1) := by decide +kernel
theorem dX2_push_5 : decode cX2_push 5 = .ok (.getfield 21, 3) := by decide +kernel
theorem dX2_push_8 : decode cX2_push 8 = .ok (.arraylength, 1) := by decide +kernel
theorem dX2_push_9 : decode cX2_push 9 = .ok (.if_icmp .ge 23, 3) := by decide +kernel
theorem dX2_push_12 : decode cX2_push 12 = .ok (.aload_n 0, 1) := by decide +kernel
theorem dX2_push_13 : decode cX2_push 13 = .ok (.getfield 21, 3) := by decide +kernel
theorem dX2_push_16 : decode cX2_push 16 = .ok (.aload_n 0, 1) := by decide +kernel
theorem dX2_push_17 : decode cX2_push 17 = .ok (.getfield 105, 3) := by decide +kernel
theorem dX2_push_20 : decode cX2_push 20 = .ok (.iload_n 1, 1) := by decide +kernel
theorem dX2_push_21 : decode cX2_push 21 = .ok (.iastore, 1) := by decide +kernel
theorem dX2_push_22 : decode cX2_push 22 = .ok (.aload_n 0, 1) := by decide +kernel
theorem dX2_push_23 : decode cX2_push 23 = .ok (.dup, 1) := by decide +kernel
theorem dX2_push_24 : decode cX2_push 24 = .ok (.getfield 105, 3) := by decide +kernel
theorem dX2_push_27 : decode cX2_push 27 = .ok (.iconst 1, 1) := by decide +kernel
theorem dX2_push_28 : decode cX2_push 28 = .ok (.iadd, 1) := by decide +kernel
theorem dX2_push_29 : decode cX2_push 29 = .ok (.putfield 105, 3) := by decide +kernel
theorem dX2_push_32 : decode cX2_push 32 = .ok (.return_, 1) := by decide +kernel
theorem dX2_pop_0 : decode cX2_pop 0 = .ok (.aload_n 0, 1) := by decide +kernel
theorem dX2_pop_1 : decode cX2_pop 1 = .ok (.getfield 105, 3) := by decide +kernel
theorem dX2_pop_4 : decode cX2_pop 4 = .ok (.ifCond .gt 5, 3) := by decide +kernel
theorem dX2_pop_7 : decode cX2_pop 7 = .ok (.iconst 0, 1) := by decide +kernel
theorem dX2_pop_8 : decode cX2_pop 8 = .ok (.ireturn, 1) := by decide +kernel
theorem dX2_pop_9 : decode cX2_pop 9 = .ok (.aload_n 0, 1) := by decide +kernel
theorem dX2_pop_10 : decode cX2_pop 10 = .ok (.dup, 1) := by decide +kernel
theorem dX2_pop_11 : decode cX2_pop 11 = .ok (.getfield 105, 3) := by decide +kernel
theorem dX2_pop_14 : decode cX2_pop 14 = .ok (.iconst 1, 1) := by decide +kernel
theorem dX2_pop_15 : decode cX2_pop 15 = .ok (.isub, 1) := by decide +kernel
theorem dX2_pop_16 : decode cX2_pop 16 = .ok (.putfield 105, 3) := by decide +kernel
theorem dX2_pop_19 : decode cX2_pop 19 = .ok (.aload_n 0, 1) := by decide +kernel
theorem dX2_pop_20 : decode cX2_pop 20 = .ok (.getfield 21, 3) := by decide +kernel
theorem dX2_pop_23 : decode cX2_pop 23 = .ok (.aload_n 0, 1) := by decide +kernel
theorem dX2_pop_24 : decode cX2_pop 24 = .ok (.getfield 105, 3) := by decide +kernel
theorem dX2_pop_27 : decode cX2_pop 27 = .ok (.iaload, 1) := by decide +kernel
theorem dX2_pop_28 : decode cX2_pop 28 = .ok (.ireturn, 1) := by decide +kernel
theorem dX3_init_0 : decode cX3_init 0 = .ok (.aload_n 0, 1) := by decide +kernel
theorem dX3_init_1 : decode cX3_init 1 = .ok (.invokespecial 3, 3) := by decide +kernel
theorem dX3_init_4 : decode cX3_init 4 = .ok (.aload_n 0, 1) := by decide +kernel
theorem dX3_init_5 : decode cX3_init 5 = .ok (.sipush 194, 3) := by decide +kernel
theorem dX3_init_8 : decode cX3_init 8 = .ok (.newarray .int, 2) := by decide +kernel
theorem dX3_init_10 : decode cX3_init 10 = .ok (.putfield 9, 3) := by decide +kernel
theorem dX3_init_13 : decode cX3_init 13 = .ok (.iconst 0, 1) := by decide +kernel
theorem dX3_init_14 : decode cX3_init 14 = .ok (.istore_n 1, 1) := by decide +kernel
theorem dX3_init_15 : decode cX3_init 15 = .ok (.iload_n 1, 1) := by decide +kernel
theorem dX3_init_16 : decode cX3_init 16 = .ok (.bipush 60, 2) := by decide +kernel
theorem dX3_init_18 : decode cX3_init 18 = .ok (.if_icmp .ge 31, 3) := by decide +kernel
theorem dX3_init_21 : decode cX3_init 21 = .ok (.aload_n 0, 1) := by decide +kernel
theorem dX3_init_22 : decode cX3_init 22 = .ok (.getfield 9, 3) := by decide +kernel
theorem dX3_init_25 : decode cX3_init 25 = .ok (.bipush 72, 2) := by decide +kernel
theorem dX3_init_27 : decode cX3_init 27 = .ok (.iload_n 1, 1) := by decide +kernel
theorem dX3_init_28 : decode cX3_init 28 = .ok (.iadd, 1) := by decide +kernel
theorem dX3_init_29 : decode cX3_init 29 = .ok (.bipush 8, 2) := by decide +kernel
theorem dX3_init_31 : decode cX3_init 31 = .ok (.iastore, 1) := by decide +kernel
theorem dX3_init_32 : decode cX3_init 32 = .ok (.aload_n 0, 1) := by decide +kernel
theorem dX3_init_33 : decode cX3_init 33 = .ok (.getfield 9, 3) := by decide +kernel
theorem dX3_init_36 : decode cX3_init 36 = .ok (.sipush 132, 3) := by decide +kernel
theorem dX3_init_39 : decode cX3_init 39 = .ok (.iload_n 1, 1) := by decide +kernel
theorem dX3_init_40 : decode cX3_init 40 = .ok (.iadd, 1) := by decide +kernel
theorem dX3_init_41 : decode cX3_init 41 = .ok (.iconst 3, 1) := by decide +kernel
theorem dX3_init_42 : decode cX3_init 42 = .ok (.iastore, 1) := by decide +kernel
theorem dX3_init_43 : decode cX3_init 43 = .ok (.iinc 1 1, 3) := by decide +kernel
theorem dX3_init_46 : decode cX3_init 46 = .ok (.goto (-31), 3) := by decide +kernel
theorem dX3_init_49 : decode cX3_init 49 = .ok (.aload_n 0, 1) := by decide +kernel
theorem dX3_init_50 : decode cX3_init 50 = .ok (.getfield 9, 3) := by decide +kernel
theorem dX3_init_53 : decode cX3_init 53 = .ok (.sipush 192, 3) := by decide +kernel
theorem dX3_init_56 : decode cX3_init 56 = .ok (.bipush 6, 2) := by decide +kernel
theorem dX3_init_58 : decode cX3_init 58 = .ok (.iastore, 1) := by decide +kernel
theorem dX3_init_59 : decode cX3_init 59 = .ok (.aload_n 0, 1) := by decide +kernel
theorem dX3_init_60 : decode cX3_init 60 = .ok (.getfield 9, 3) := by decide +kernel
theorem dX3_init_63 : decode cX3_init 63 = .ok (.sipush 193, 3) := by decide +kernel
theorem dX3_init_66 : decode cX3_init 66 = .ok (.iconst 2, 1) := by decide +kernel
theorem dX3_init_67 : decode cX3_init 67 = .ok (.iastore, 1) := by decide +kernel
theorem dX3_init_68 : decode cX3_init 68 = .ok (.return_, 1) := by decide +kernel
theorem dX3_isCell_0 : decode cX3_isCell 0 = .ok (.iload_n 0, 1) := by decide +kernel
theorem dX3_isCell_1 : decode cX3_isCell 1 = .ok (.ifCond .lt 13, 3) := by decide +kernel
theorem dX3_isCell_4 : decode cX3_isCell 4 = .ok (.iload_n 0, 1) := by decide +kernel
theorem dX3_isCell_5 : decode cX3_isCell 5 = .ok (.bipush 36, 2) := by decide +kernel
theorem dX3_isCell_7 : decode cX3_isCell 7 = .ok (.if_icmp .ge 7, 3) := by decide +kernel
theorem dX3_isCell_10 : decode cX3_isCell 10 = .ok (.iconst 1, 1) := by decide +kernel
theorem dX3_isCell_11 : decode cX3_isCell 11 = .ok (.goto 4, 3) := by decide +kernel
theorem dX3_isCell_14 : decode cX3_isCell 14 = .ok (.iconst 0, 1) := by decide +kernel
theorem dX3_isCell_15 : decode cX3_isCell 15 = .ok (.ireturn, 1) := by decide +kernel
theorem dX3_place_0 : decode cX3_place 0 = .ok (.iload_n 1, 1) := by decide +kernel
theorem dX3_place_1 : decode cX3_place 1 = .ok (.ifCond .lt 24, 3) := by decide +kernel
theorem dX3_place_4 : decode cX3_place 4 = .ok (.iload_n 1, 1) := by decide +kernel
theorem dX3_place_5 : decode cX3_place 5 = .ok (.getstatic 15, 3) := by decide +kernel
theorem dX3_place_8 : decode cX3_place 8 = .ok (.arraylength, 1) := by decide +kernel
theorem dX3_place_9 : decode cX3_place 9 = .ok (.if_icmp .ge 16, 3) := by decide +kernel
theorem dX3_place_12 : decode cX3_place 12 = .ok (.iload_n 0, 1) := by decide +kernel
theorem dX3_place_13 : decode cX3_place 13 = .ok (.ifCond .lt 12, 3) := by decide +kernel
theorem dX3_place_16 : decode cX3_place 16 = .ok (.iload_n 0, 1) := by decide +kernel
theorem dX3_place_17 : decode cX3_place 17 = .ok (.getstatic 15, 3) := by decide +kernel
theorem dX3_place_20 : decode cX3_place 20 = .ok (.iload_n 1, 1) := by decide +kernel
theorem dX3_place_21 : decode cX3_place 21 = .ok (.iaload, 1) := by decide +kernel
theorem dX3_place_22 : decode cX3_place 22 = .ok (.if_icmp .lt 5, 3) := by decide +kernel
theorem dX3_place_25 : decode cX3_place 25 = .ok (.iconst (-1), 1) := by decide +kernel
theorem dX3_place_26 : decode cX3_place 26 = .ok (.ireturn, 1) := by decide +kernel
theorem dX3_place_27 : decode cX3_place 27 = .ok (.getstatic 18, 3) := by decide +kernel
theorem dX3_place_30 : decode cX3_place 30 = .ok (.iload_n 1, 1) := by decide +kernel
theorem dX3_place_31 : decode cX3_place 31 = .ok (.iaload, 1) := by decide +kernel
theorem dX3_place_32 : decode cX3_place 32 = .ok (.iload_n 0, 1) := by decide +kernel
theorem dX3_place_33 : decode cX3_place 33 = .ok (.iadd, 1) := by decide +kernel
theorem dX3_place_34 : decode cX3_place 34 = .ok (.ireturn, 1) := by decide +kernel
theorem dX3_mayBe_0 : decode cX3_mayBe 0 = .ok (.iload_n 0, 1) := by decide +kernel
theorem dX3_mayBe_1 : decode cX3_mayBe 1 = .ok (.ifCond .lt 33, 3) := by decide +kernel
theorem dX3_mayBe_4 : decode cX3_mayBe 4 = .ok (.iload_n 0, 1) := by decide +kernel
theorem dX3_mayBe_5 : decode cX3_mayBe 5 = .ok (.getstatic 21, 3) := by decide +kernel
theorem dX3_mayBe_8 : decode cX3_mayBe 8 = .ok (.arraylength, 1) := by decide +kernel
theorem dX3_mayBe_9 : decode cX3_mayBe 9 = .ok (.if_icmp .ge 25, 3) := by decide +kernel
theorem dX3_mayBe_12 : decode cX3_mayBe 12 = .ok (.iload_n 1, 1) := by decide +kernel
theorem dX3_mayBe_13 : decode cX3_mayBe 13 = .ok (.getstatic 21, 3) := by decide +kernel
theorem dX3_mayBe_16 : decode cX3_mayBe 16 = .ok (.iload_n 0, 1) := by decide +kernel
theorem dX3_mayBe_17 : decode cX3_mayBe 17 = .ok (.iaload, 1) := by decide +kernel
theorem dX3_mayBe_18 : decode cX3_mayBe 18 = .ok (.if_icmp .lt 16, 3) := by decide +kernel
theorem dX3_mayBe_21 : decode cX3_mayBe 21 = .ok (.iload_n 1, 1) := by decide +kernel
theorem dX3_mayBe_22 : decode cX3_mayBe 22 = .ok (.getstatic 24, 3) := by decide +kernel
theorem dX3_mayBe_25 : decode cX3_mayBe 25 = .ok (.iload_n 0, 1) := by decide +kernel
theorem dX3_mayBe_26 : decode cX3_mayBe 26 = .ok (.iaload, 1) := by decide +kernel
theorem dX3_mayBe_27 : decode cX3_mayBe 27 = .ok (.if_icmp .gt 7, 3) := by decide +kernel
theorem dX3_mayBe_30 : decode cX3_mayBe 30 = .ok (.iconst 1, 1) := by decide +kernel
theorem dX3_mayBe_31 : decode cX3_mayBe 31 = .ok (.goto 4, 3) := by decide +kernel
theorem dX3_mayBe_34 : decode cX3_mayBe 34 = .ok (.iconst 0, 1) := by decide +kernel
theorem dX3_mayBe_35 : decode cX3_mayBe 35 = .ok (.ireturn, 1) := by decide +kernel
theorem dX3_neighbour_0 : decode cX3_neighbour 0 = .ok (.iload_n 1, 1) := by decide +kernel
theorem dX3_neighbour_1 : decode cX3_neighbour 1 = .ok (.tableswitch 92 1 4 #[31, 46, 62, 77], 31) := by decide +kernel
theorem dX3_neighbour_32 : decode cX3_neighbour 32 = .ok (.iload_n 0, 1) := by decide +kernel
theorem dX3_neighbour_33 : decode cX3_neighbour 33 = .ok (.bipush 6, 2) := by decide +kernel
theorem dX3_neighbour_35 : decode cX3_neighbour 35 = .ok (.if_icmp .lt 10, 3) := by decide +kernel
theorem dX3_neighbour_38 : decode cX3_neighbour 38 = .ok (.iload_n 0, 1) := by decide +kernel
theorem dX3_neighbour_39 : decode cX3_neighbour 39 = .ok (.bipush 6, 2) := by decide +kernel
theorem dX3_neighbour_41 : decode cX3_neighbour 41 = .ok (.isub, 1) := by decide +kernel
theorem dX3_neighbour_42 : decode cX3_neighbour 42 = .ok (.goto 4, 3) := by decide +kernel
theorem dX3_neighbour_45 : decode cX3_neighbour 45 = .ok (.iconst (-1), 1) := by decide +kernel
theorem dX3_neighbour_46 : decode cX3_neighbour 46 = .ok (.ireturn, 1) := by decide +kernel
theorem dX3_neighbour_47 : decode cX3_neighbour 47 = .ok (.iload_n 0, 1) := by decide +kernel
theorem dX3_neighbour_48 : decode cX3_neighbour 48 = .ok (.bipush 6, 2) := by decide +kernel
theorem dX3_neighbour_50 : decode cX3_neighbour 50 = .ok (.irem, 1) := by decide +kernel
theorem dX3_neighbour_51 : decode cX3_neighbour 51 = .ok (.iconst 5, 1) := by decide +kernel
theorem dX3_neighbour_52 : decode cX3_neighbour 52 = .ok (.if_icmp .ge 9, 3) := by decide +kernel
theorem dX3_neighbour_55 : decode cX3_neighbour 55 = .ok (.iload_n 0, 1) := by decide +kernel
theorem dX3_neighbour_56 : decode cX3_neighbour 56 = .ok (.iconst 1, 1) := by decide +kernel
theorem dX3_neighbour_57 : decode cX3_neighbour 57 = .ok (.iadd, 1) := by decide +kernel
theorem dX3_neighbour_58 : decode cX3_neighbour 58 = .ok (.goto 4, 3) := by decide +kernel
theorem dX3_neighbour_61 : decode cX3_neighbour 61 = .ok (.iconst (-1), 1) := by decide +kernel
theorem dX3_neighbour_62 : decode cX3_neighbour 62 = .ok (.ireturn, 1) := by decide +kernel
theorem dX3_neighbour_63 : decode cX3_neighbour 63 = .ok (.iload_n 0, 1) := by decide +kernel
theorem dX3_neighbour_64 : decode cX3_neighbour 64 = .ok (.bipush 30, 2) := by decide +kernel
theorem dX3_neighbour_66 : decode cX3_neighbour 66 = .ok (.if_icmp .ge 10, 3) := by decide +kernel
theorem dX3_neighbour_69 : decode cX3_neighbour 69 = .ok (.iload_n 0, 1) := by decide +kernel
theorem dX3_neighbour_70 : decode cX3_neighbour 70 = .ok (.bipush 6, 2) := by decide +kernel
theorem dX3_neighbour_72 : decode cX3_neighbour 72 = .ok (.iadd, 1) := by decide +kernel
theorem dX3_neighbour_73 : decode cX3_neighbour 73 = .ok (.goto 4, 3) := by decide +kernel
theorem dX3_neighbour_76 : decode cX3_neighbour 76 = .ok (.iconst (-1), 1) := by decide +kernel
theorem dX3_neighbour_77 : decode cX3_neighbour 77 = .ok (.ireturn, 1) := by decide +kernel
theorem dX3_neighbour_78 : decode cX3_neighbour 78 = .ok (.iload_n 0, 1) := by decide +kernel
theorem dX3_neighbour_79 : decode cX3_neighbour 79 = .ok (.bipush 6, 2) := by decide +kernel
theorem dX3_neighbour_81 : decode cX3_neighbour 81 = .ok (.irem, 1) := by decide +kernel
theorem dX3_neighbour_82 : decode cX3_neighbour 82 = .ok (.ifCond .le 9, 3) := by decide +kernel
theorem dX3_neighbour_85 : decode cX3_neighbour 85 = .ok (.iload_n 0, 1) := by decide +kernel
theorem dX3_neighbour_86 : decode cX3_neighbour 86 = .ok (.iconst 1, 1) := by decide +kernel
theorem dX3_neighbour_87 : decode cX3_neighbour 87 = .ok (.isub, 1) := by decide +kernel
theorem dX3_neighbour_88 : decode cX3_neighbour 88 = .ok (.goto 4, 3) := by decide +kernel
theorem dX3_neighbour_91 : decode cX3_neighbour 91 = .ok (.iconst (-1), 1) := by decide +kernel
theorem dX3_neighbour_92 : decode cX3_neighbour 92 = .ok (.ireturn, 1) := by decide +kernel
theorem dX3_neighbour_93 : decode cX3_neighbour 93 = .ok (.iconst (-1), 1) := by decide +kernel
theorem dX3_neighbour_94 : decode cX3_neighbour 94 = .ok (.ireturn, 1) := by decide +kernel
theorem dX3_told_0 : decode cX3_told 0 = .ok (.iload_n 1, 1) := by decide +kernel
theorem dX3_told_1 : decode cX3_told 1 = .ok (.ifCond .lt 21, 3) := by decide +kernel
theorem dX3_told_4 : decode cX3_told 4 = .ok (.iload_n 1, 1) := by decide +kernel
theorem dX3_told_5 : decode cX3_told 5 = .ok (.aload_n 0, 1) := by decide +kernel
theorem dX3_told_6 : decode cX3_told 6 = .ok (.getfield 9, 3) := by decide +kernel
theorem dX3_told_9 : decode cX3_told 9 = .ok (.arraylength, 1) := by decide +kernel
theorem dX3_told_10 : decode cX3_told 10 = .ok (.if_icmp .ge 12, 3) := by decide +kernel
theorem dX3_told_13 : decode cX3_told 13 = .ok (.aload_n 0, 1) := by decide +kernel
theorem dX3_told_14 : decode cX3_told 14 = .ok (.getfield 9, 3) := by decide +kernel
theorem dX3_told_17 : decode cX3_told 17 = .ok (.iload_n 1, 1) := by decide +kernel
theorem dX3_told_18 : decode cX3_told 18 = .ok (.iaload, 1) := by decide +kernel
theorem dX3_told_19 : decode cX3_told 19 = .ok (.goto 4, 3) := by decide +kernel
theorem dX3_told_22 : decode cX3_told 22 = .ok (.iconst 0, 1) := by decide +kernel
theorem dX3_told_23 : decode cX3_told 23 = .ok (.ireturn, 1) := by decide +kernel
theorem dX3_tell_0 : decode cX3_tell 0 = .ok (.iload_n 1, 1) := by decide +kernel
theorem dX3_tell_1 : decode cX3_tell 1 = .ok (.ifCond .lt 19, 3) := by decide +kernel
theorem dX3_tell_4 : decode cX3_tell 4 = .ok (.iload_n 1, 1) := by decide +kernel
theorem dX3_tell_5 : decode cX3_tell 5 = .ok (.aload_n 0, 1) := by decide +kernel
theorem dX3_tell_6 : decode cX3_tell 6 = .ok (.getfield 9, 3) := by decide +kernel
theorem dX3_tell_9 : decode cX3_tell 9 = .ok (.arraylength, 1) := by decide +kernel
theorem dX3_tell_10 : decode cX3_tell 10 = .ok (.if_icmp .ge 10, 3) := by decide +kernel
theorem dX3_tell_13 : decode cX3_tell 13 = .ok (.aload_n 0, 1) := by decide +kernel
theorem dX3_tell_14 : decode cX3_tell 14 = .ok (.getfield 9, 3) := by decide +kernel
theorem dX3_tell_17 : decode cX3_tell 17 = .ok (.iload_n 1, 1) := by decide +kernel
theorem dX3_tell_18 : decode cX3_tell 18 = .ok (.iload_n 2, 1) := by decide +kernel
theorem dX3_tell_19 : decode cX3_tell 19 = .ok (.iastore, 1) := by decide +kernel
theorem dX3_tell_20 : decode cX3_tell 20 = .ok (.return_, 1) := by decide +kernel
theorem dX3_high_0 : decode cX3_high 0 = .ok (.iload_n 1, 1) := by decide +kernel
theorem dX3_high_1 : decode cX3_high 1 = .ok (.ifCond .lt 18, 3) := by decide +kernel
theorem dX3_high_4 : decode cX3_high 4 = .ok (.iload_n 1, 1) := by decide +kernel
theorem dX3_high_5 : decode cX3_high 5 = .ok (.bipush 36, 2) := by decide +kernel
theorem dX3_high_7 : decode cX3_high 7 = .ok (.if_icmp .ge 12, 3) := by decide +kernel
theorem dX3_high_10 : decode cX3_high 10 = .ok (.aload_n 0, 1) := by decide +kernel
theorem dX3_high_11 : decode cX3_high 11 = .ok (.getfield 9, 3) := by decide +kernel
theorem dX3_high_14 : decode cX3_high 14 = .ok (.iload_n 1, 1) := by decide +kernel
theorem dX3_high_15 : decode cX3_high 15 = .ok (.iaload, 1) := by decide +kernel
theorem dX3_high_16 : decode cX3_high 16 = .ok (.goto 4, 3) := by decide +kernel
theorem dX3_high_19 : decode cX3_high 19 = .ok (.iconst 0, 1) := by decide +kernel
theorem dX3_high_20 : decode cX3_high 20 = .ok (.ireturn, 1) := by decide +kernel
theorem dX3_isStone_0 : decode cX3_isStone 0 = .ok (.iload_n 1, 1) := by decide +kernel
theorem dX3_isStone_1 : decode cX3_isStone 1 = .ok (.ifCond .lt 26, 3) := by decide +kernel
theorem dX3_isStone_4 : decode cX3_isStone 4 = .ok (.iload_n 1, 1) := by decide +kernel
theorem dX3_isStone_5 : decode cX3_isStone 5 = .ok (.bipush 36, 2) := by decide +kernel
theorem dX3_isStone_7 : decode cX3_isStone 7 = .ok (.if_icmp .ge 20, 3) := by decide +kernel
theorem dX3_isStone_10 : decode cX3_isStone 10 = .ok (.aload_n 0, 1) := by decide +kernel
theorem dX3_isStone_11 : decode cX3_isStone 11 = .ok (.getfield 9, 3) := by decide +kernel
theorem dX3_isStone_14 : decode cX3_isStone 14 = .ok (.bipush 36, 2) := by decide +kernel
theorem dX3_isStone_16 : decode cX3_isStone 16 = .ok (.iload_n 1, 1) := by decide +kernel
theorem dX3_isStone_17 : decode cX3_isStone 17 = .ok (.iadd, 1) := by decide +kernel
theorem dX3_isStone_18 : decode cX3_isStone 18 = .ok (.iaload, 1) := by decide +kernel
theorem dX3_isStone_19 : decode cX3_isStone 19 = .ok (.iconst 1, 1) := by decide +kernel
theorem dX3_isStone_20 : decode cX3_isStone 20 = .ok (.if_icmp .ne 7, 3) := by decide +kernel
theorem dX3_isStone_23 : decode cX3_isStone 23 = .ok (.iconst 1, 1) := by decide +kernel
theorem dX3_isStone_24 : decode cX3_isStone 24 = .ok (.goto 4, 3) := by decide +kernel
theorem dX3_isStone_27 : decode cX3_isStone 27 = .ok (.iconst 0, 1) := by decide +kernel
theorem dX3_isStone_28 : decode cX3_isStone 28 = .ok (.ireturn, 1) := by decide +kernel
theorem dX3_sun_0 : decode cX3_sun 0 = .ok (.iload_n 1, 1) := by decide +kernel
theorem dX3_sun_1 : decode cX3_sun 1 = .ok (.ifCond .lt 21, 3) := by decide +kernel
theorem dX3_sun_4 : decode cX3_sun 4 = .ok (.iload_n 1, 1) := by decide +kernel
theorem dX3_sun_5 : decode cX3_sun 5 = .ok (.bipush 60, 2) := by decide +kernel
theorem dX3_sun_7 : decode cX3_sun 7 = .ok (.if_icmp .ge 15, 3) := by decide +kernel
theorem dX3_sun_10 : decode cX3_sun 10 = .ok (.aload_n 0, 1) := by decide +kernel
theorem dX3_sun_11 : decode cX3_sun 11 = .ok (.getfield 9, 3) := by decide +kernel
theorem dX3_sun_14 : decode cX3_sun 14 = .ok (.bipush 72, 2) := by decide +kernel
theorem dX3_sun_16 : decode cX3_sun 16 = .ok (.iload_n 1, 1) := by decide +kernel
theorem dX3_sun_17 : decode cX3_sun 17 = .ok (.iadd, 1) := by decide +kernel
theorem dX3_sun_18 : decode cX3_sun 18 = .ok (.iaload, 1) := by decide +kernel
theorem dX3_sun_19 : decode cX3_sun 19 = .ok (.goto 4, 3) := by decide +kernel
theorem dX3_sun_22 : decode cX3_sun 22 = .ok (.iconst 0, 1) := by decide +kernel
theorem dX3_sun_23 : decode cX3_sun 23 = .ok (.ireturn, 1) := by decide +kernel
theorem dX3_wind_0 : decode cX3_wind 0 = .ok (.iload_n 1, 1) := by decide +kernel
theorem dX3_wind_1 : decode cX3_wind 1 = .ok (.ifCond .lt 22, 3) := by decide +kernel
theorem dX3_wind_4 : decode cX3_wind 4 = .ok (.iload_n 1, 1) := by decide +kernel
theorem dX3_wind_5 : decode cX3_wind 5 = .ok (.bipush 60, 2) := by decide +kernel
theorem dX3_wind_7 : decode cX3_wind 7 = .ok (.if_icmp .ge 16, 3) := by decide +kernel
theorem dX3_wind_10 : decode cX3_wind 10 = .ok (.aload_n 0, 1) := by decide +kernel
theorem dX3_wind_11 : decode cX3_wind 11 = .ok (.getfield 9, 3) := by decide +kernel
theorem dX3_wind_14 : decode cX3_wind 14 = .ok (.sipush 132, 3) := by decide +kernel
theorem dX3_wind_17 : decode cX3_wind 17 = .ok (.iload_n 1, 1) := by decide +kernel
theorem dX3_wind_18 : decode cX3_wind 18 = .ok (.iadd, 1) := by decide +kernel
theorem dX3_wind_19 : decode cX3_wind 19 = .ok (.iaload, 1) := by decide +kernel
theorem dX3_wind_20 : decode cX3_wind 20 = .ok (.goto 4, 3) := by decide +kernel
theorem dX3_wind_23 : decode cX3_wind 23 = .ok (.iconst 0, 1) := by decide +kernel
theorem dX3_wind_24 : decode cX3_wind 24 = .ok (.ireturn, 1) := by decide +kernel
theorem dX3_odds_0 : decode cX3_odds 0 = .ok (.aload_n 0, 1) := by decide +kernel
theorem dX3_odds_1 : decode cX3_odds 1 = .ok (.getfield 9, 3) := by decide +kernel
theorem dX3_odds_4 : decode cX3_odds 4 = .ok (.sipush 193, 3) := by decide +kernel
theorem dX3_odds_7 : decode cX3_odds 7 = .ok (.iaload, 1) := by decide +kernel
theorem dX3_odds_8 : decode cX3_odds 8 = .ok (.ireturn, 1) := by decide +kernel
theorem dX3_price_0 : decode cX3_price 0 = .ok (.iconst 3, 1) := by decide +kernel
theorem dX3_price_1 : decode cX3_price 1 = .ok (.iconst 2, 1) := by decide +kernel
theorem dX3_price_2 : decode cX3_price 2 = .ok (.iconst 0, 1) := by decide +kernel
theorem dX3_price_3 : decode cX3_price 3 = .ok (.aload_n 0, 1) := by decide +kernel
theorem dX3_price_4 : decode cX3_price 4 = .ok (.iload_n 2, 1) := by decide +kernel
theorem dX3_price_5 : decode cX3_price 5 = .ok (.invokevirtual 27, 3) := by decide +kernel
theorem dX3_price_8 : decode cX3_price 8 = .ok (.aload_n 0, 1) := by decide +kernel
theorem dX3_price_9 : decode cX3_price 9 = .ok (.iload_n 1, 1) := by decide +kernel
theorem dX3_price_10 : decode cX3_price 10 = .ok (.invokevirtual 27, 3) := by decide +kernel
theorem dX3_price_13 : decode cX3_price 13 = .ok (.isub, 1) := by decide +kernel
theorem dX3_price_14 : decode cX3_price 14 = .ok (.invokestatic 31, 3) := by decide +kernel
theorem dX3_price_17 : decode cX3_price 17 = .ok (.imul, 1) := by decide +kernel
theorem dX3_price_18 : decode cX3_price 18 = .ok (.iadd, 1) := by decide +kernel
theorem dX3_price_19 : decode cX3_price 19 = .ok (.bipush 6, 2) := by decide +kernel
theorem dX3_price_21 : decode cX3_price 21 = .ok (.iadd, 1) := by decide +kernel
theorem dX3_price_22 : decode cX3_price 22 = .ok (.aload_n 0, 1) := by decide +kernel
theorem dX3_price_23 : decode cX3_price 23 = .ok (.getfield 9, 3) := by decide +kernel
theorem dX3_price_26 : decode cX3_price 26 = .ok (.sipush 192, 3) := by decide +kernel
theorem dX3_price_29 : decode cX3_price 29 = .ok (.iaload, 1) := by decide +kernel
theorem dX3_price_30 : decode cX3_price 30 = .ok (.isub, 1) := by decide +kernel
theorem dX3_price_31 : decode cX3_price 31 = .ok (.ireturn, 1) := by decide +kernel
theorem dX3_isHollow_0 : decode cX3_isHollow 0 = .ok (.iconst 1, 1) := by decide +kernel
theorem dX3_isHollow_1 : decode cX3_isHollow 1 = .ok (.istore_n 2, 1) := by decide +kernel
theorem dX3_isHollow_2 : decode cX3_isHollow 2 = .ok (.iload_n 2, 1) := by decide +kernel
theorem dX3_isHollow_3 : decode cX3_isHollow 3 = .ok (.iconst 4, 1) := by decide +kernel
theorem dX3_isHollow_4 : decode cX3_isHollow 4 = .ok (.if_icmp .gt 34, 3) := by decide +kernel
theorem dX3_isHollow_7 : decode cX3_isHollow 7 = .ok (.iload_n 1, 1) := by decide +kernel
theorem dX3_isHollow_8 : decode cX3_isHollow 8 = .ok (.iload_n 2, 1) := by decide +kernel
theorem dX3_isHollow_9 : decode cX3_isHollow 9 = .ok (.invokestatic 37, 3) := by decide +kernel
theorem dX3_isHollow_12 : decode cX3_isHollow 12 = .ok (.istore_n 3, 1) := by decide +kernel
theorem dX3_isHollow_13 : decode cX3_isHollow 13 = .ok (.iload_n 3, 1) := by decide +kernel
theorem dX3_isHollow_14 : decode cX3_isHollow 14 = .ok (.ifCond .lt 18, 3) := by decide +kernel
theorem dX3_isHollow_17 : decode cX3_isHollow 17 = .ok (.aload_n 0, 1) := by decide +kernel
theorem dX3_isHollow_18 : decode cX3_isHollow 18 = .ok (.iload_n 3, 1) := by decide +kernel
theorem dX3_isHollow_19 : decode cX3_isHollow 19 = .ok (.invokevirtual 27, 3) := by decide +kernel
theorem dX3_isHollow_22 : decode cX3_isHollow 22 = .ok (.aload_n 0, 1) := by decide +kernel
theorem dX3_isHollow_23 : decode cX3_isHollow 23 = .ok (.iload_n 1, 1) := by decide +kernel
theorem dX3_isHollow_24 : decode cX3_isHollow 24 = .ok (.invokevirtual 27, 3) := by decide +kernel
theorem dX3_isHollow_27 : decode cX3_isHollow 27 = .ok (.if_icmp .gt 5, 3) := by decide +kernel
theorem dX3_isHollow_30 : decode cX3_isHollow 30 = .ok (.iconst 0, 1) := by decide +kernel
theorem dX3_isHollow_31 : decode cX3_isHollow 31 = .ok (.ireturn, 1) := by decide +kernel
theorem dX3_isHollow_32 : decode cX3_isHollow 32 = .ok (.iinc 2 1, 3) := by decide +kernel
theorem dX3_isHollow_35 : decode cX3_isHollow 35 = .ok (.goto (-33), 3) := by decide +kernel
theorem dX3_isHollow_38 : decode cX3_isHollow 38 = .ok (.iconst 1, 1) := by decide +kernel
theorem dX3_isHollow_39 : decode cX3_isHollow 39 = .ok (.ireturn, 1) := by decide +kernel
theorem dX3_stones_0 : decode cX3_stones 0 = .ok (.iconst 0, 1) := by decide +kernel
theorem dX3_stones_1 : decode cX3_stones 1 = .ok (.istore_n 1, 1) := by decide +kernel
theorem dX3_stones_2 : decode cX3_stones 2 = .ok (.iconst 0, 1) := by decide +kernel
theorem dX3_stones_3 : decode cX3_stones 3 = .ok (.istore_n 2, 1) := by decide +kernel
theorem dX3_stones_4 : decode cX3_stones 4 = .ok (.iload_n 2, 1) := by decide +kernel
theorem dX3_stones_5 : decode cX3_stones 5 = .ok (.bipush 36, 2) := by decide +kernel
theorem dX3_stones_7 : decode cX3_stones 7 = .ok (.if_icmp .ge 20, 3) := by decide +kernel
theorem dX3_stones_10 : decode cX3_stones 10 = .ok (.aload_n 0, 1) := by decide +kernel
theorem dX3_stones_11 : decode cX3_stones 11 = .ok (.iload_n 2, 1) := by decide +kernel
theorem dX3_stones_12 : decode cX3_stones 12 = .ok (.invokevirtual 40, 3) := by decide +kernel
theorem dX3_stones_15 : decode cX3_stones 15 = .ok (.ifCond .eq 6, 3) := by decide +kernel
theorem dX3_stones_18 : decode cX3_stones 18 = .ok (.iinc 1 1, 3) := by decide +kernel
theorem dX3_stones_21 : decode cX3_stones 21 = .ok (.iinc 2 1, 3) := by decide +kernel
theorem dX3_stones_24 : decode cX3_stones 24 = .ok (.goto (-20), 3) := by decide +kernel
theorem dX3_stones_27 : decode cX3_stones 27 = .ok (.iload_n 1, 1) := by decide +kernel
theorem dX3_stones_28 : decode cX3_stones 28 = .ok (.ireturn, 1) := by decide +kernel
theorem dX3_hollows_0 : decode cX3_hollows 0 = .ok (.iconst 0, 1) := by decide +kernel
theorem dX3_hollows_1 : decode cX3_hollows 1 = .ok (.istore_n 1, 1) := by decide +kernel
theorem dX3_hollows_2 : decode cX3_hollows 2 = .ok (.iconst 0, 1) := by decide +kernel
theorem dX3_hollows_3 : decode cX3_hollows 3 = .ok (.istore_n 2, 1) := by decide +kernel
theorem dX3_hollows_4 : decode cX3_hollows 4 = .ok (.iload_n 2, 1) := by decide +kernel
theorem dX3_hollows_5 : decode cX3_hollows 5 = .ok (.bipush 36, 2) := by decide +kernel
theorem dX3_hollows_7 : decode cX3_hollows 7 = .ok (.if_icmp .ge 20, 3) := by decide +kernel
theorem dX3_hollows_10 : decode cX3_hollows 10 = .ok (.aload_n 0, 1) := by decide +kernel
theorem dX3_hollows_11 : decode cX3_hollows 11 = .ok (.iload_n 2, 1) := by decide +kernel
theorem dX3_hollows_12 : decode cX3_hollows 12 = .ok (.invokevirtual 44, 3) := by decide +kernel
theorem dX3_hollows_15 : decode cX3_hollows 15 = .ok (.ifCond .eq 6, 3) := by decide +kernel
theorem dX3_hollows_18 : decode cX3_hollows 18 = .ok (.iinc 1 1, 3) := by decide +kernel
theorem dX3_hollows_21 : decode cX3_hollows 21 = .ok (.iinc 2 1, 3) := by decide +kernel
theorem dX3_hollows_24 : decode cX3_hollows 24 = .ok (.goto (-20), 3) := by decide +kernel
theorem dX3_hollows_27 : decode cX3_hollows 27 = .ok (.iload_n 1, 1) := by decide +kernel
theorem dX3_hollows_28 : decode cX3_hollows 28 = .ok (.ireturn, 1) := by decide +kernel
theorem dX4_init_0 : decode cX4_init 0 = .ok (.aload_n 0, 1) := by decide +kernel
theorem dX4_init_1 : decode cX4_init 1 = .ok (.invokespecial 3, 3) := by decide +kernel
theorem dX4_init_4 : decode cX4_init 4 = .ok (.aload_n 0, 1) := by decide +kernel
theorem dX4_init_5 : decode cX4_init 5 = .ok (.sipush 360, 3) := by decide +kernel
theorem dX4_init_8 : decode cX4_init 8 = .ok (.newarray .int, 2) := by decide +kernel
theorem dX4_init_10 : decode cX4_init 10 = .ok (.putfield 13, 3) := by decide +kernel
theorem dX4_init_13 : decode cX4_init 13 = .ok (.aload_n 0, 1) := by decide +kernel
theorem dX4_init_14 : decode cX4_init 14 = .ok (.sipush 360, 3) := by decide +kernel
theorem dX4_init_17 : decode cX4_init 17 = .ok (.newarray .int, 2) := by decide +kernel
theorem dX4_init_19 : decode cX4_init 19 = .ok (.putfield 17, 3) := by decide +kernel
theorem dX4_init_22 : decode cX4_init 22 = .ok (.aload_n 0, 1) := by decide +kernel
theorem dX4_init_23 : decode cX4_init 23 = .ok (.new 20, 3) := by decide +kernel
theorem dX4_init_26 : decode cX4_init 26 = .ok (.dup, 1) := by decide +kernel
theorem dX4_init_27 : decode cX4_init 27 = .ok (.invokespecial 22, 3) := by decide +kernel
theorem dX4_init_30 : decode cX4_init 30 = .ok (.putfield 23, 3) := by decide +kernel
theorem dX4_init_33 : decode cX4_init 33 = .ok (.return_, 1) := by decide +kernel
theorem dX4_find_0 : decode cX4_find 0 = .ok (.aload_n 0, 1) := by decide +kernel
theorem dX4_find_1 : decode cX4_find 1 = .ok (.getfield 13, 3) := by decide +kernel
theorem dX4_find_4 : decode cX4_find 4 = .ok (.iconst (-1), 1) := by decide +kernel
theorem dX4_find_5 : decode cX4_find 5 = .ok (.invokestatic 27, 3) := by decide +kernel
theorem dX4_find_8 : decode cX4_find 8 = .ok (.aload_n 0, 1) := by decide +kernel
theorem dX4_find_9 : decode cX4_find 9 = .ok (.getfield 13, 3) := by decide +kernel
theorem dX4_find_12 : decode cX4_find 12 = .ok (.aload_n 2, 1) := by decide +kernel
theorem dX4_find_13 : decode cX4_find 13 = .ok (.invokestatic 33, 3) := by decide +kernel
theorem dX4_find_16 : decode cX4_find 16 = .ok (.bipush 20, 2) := by decide +kernel
theorem dX4_find_18 : decode cX4_find 18 = .ok (.bipush 60, 2) := by decide +kernel
theorem dX4_find_20 : decode cX4_find 20 = .ok (.iload_n 3, 1) := by decide +kernel
theorem dX4_find_21 : decode cX4_find 21 = .ok (.isub, 1) := by decide +kernel
theorem dX4_find_22 : decode cX4_find 22 = .ok (.invokestatic 37, 3) := by decide +kernel
theorem dX4_find_25 : decode cX4_find 25 = .ok (.istore 5, 2) := by decide +kernel
theorem dX4_find_27 : decode cX4_find 27 = .ok (.iconst 0, 1) := by decide +kernel
theorem dX4_find_28 : decode cX4_find 28 = .ok (.istore 6, 2) := by decide +kernel
theorem dX4_find_30 : decode cX4_find 30 = .ok (.iload 6, 2) := by decide +kernel
theorem dX4_find_32 : decode cX4_find 32 = .ok (.iload 5, 2) := by decide +kernel
theorem dX4_find_34 : decode cX4_find 34 = .ok (.if_icmp .gt 50, 3) := by decide +kernel
theorem dX4_find_37 : decode cX4_find 37 = .ok (.aload_n 0, 1) := by decide +kernel
theorem dX4_find_38 : decode cX4_find 38 = .ok (.aload_n 0, 1) := by decide +kernel
theorem dX4_find_39 : decode cX4_find 39 = .ok (.iload 4, 2) := by decide +kernel
theorem dX4_find_41 : decode cX4_find 41 = .ok (.invokevirtual 43, 3) := by decide +kernel
theorem dX4_find_44 : decode cX4_find 44 = .ok (.putfield 47, 3) := by decide +kernel
theorem dX4_find_47 : decode cX4_find 47 = .ok (.aload_n 0, 1) := by decide +kernel
theorem dX4_find_48 : decode cX4_find 48 = .ok (.iload 6, 2) := by decide +kernel
theorem dX4_find_50 : decode cX4_find 50 = .ok (.putfield 51, 3) := by decide +kernel
theorem dX4_find_53 : decode cX4_find 53 = .ok (.aload_n 0, 1) := by decide +kernel
theorem dX4_find_54 : decode cX4_find 54 = .ok (.getfield 47, 3) := by decide +kernel
theorem dX4_find_57 : decode cX4_find 57 = .ok (.ifCond .lt 5, 3) := by decide +kernel
theorem dX4_find_60 : decode cX4_find 60 = .ok (.iconst 1, 1) := by decide +kernel
theorem dX4_find_61 : decode cX4_find 61 = .ok (.ireturn, 1) := by decide +kernel
theorem dX4_find_62 : decode cX4_find 62 = .ok (.iload 6, 2) := by decide +kernel
theorem dX4_find_64 : decode cX4_find 64 = .ok (.iload 5, 2) := by decide +kernel
theorem dX4_find_66 : decode cX4_find 66 = .ok (.if_icmp .ge 12, 3) := by decide +kernel
theorem dX4_find_69 : decode cX4_find 69 = .ok (.aload_n 0, 1) := by decide +kernel
theorem dX4_find_70 : decode cX4_find 70 = .ok (.aload_n 1, 1) := by decide +kernel
theorem dX4_find_71 : decode cX4_find 71 = .ok (.iload_n 3, 1) := by decide +kernel
theorem dX4_find_72 : decode cX4_find 72 = .ok (.iload 6, 2) := by decide +kernel
theorem dX4_find_74 : decode cX4_find 74 = .ok (.iadd, 1) := by decide +kernel
theorem dX4_find_75 : decode cX4_find 75 = .ok (.invokevirtual 54, 3) := by decide +kernel
theorem dX4_find_78 : decode cX4_find 78 = .ok (.iinc 6 1, 3) := by decide +kernel
theorem dX4_find_81 : decode cX4_find 81 = .ok (.goto (-51), 3) := by decide +kernel
theorem dX4_find_84 : decode cX4_find 84 = .ok (.iconst 0, 1) := by decide +kernel
theorem dX4_find_85 : decode cX4_find 85 = .ok (.ireturn, 1) := by decide +kernel
theorem dX4_arrive_0 : decode cX4_arrive 0 = .ok (.aload_n 1, 1) := by decide +kernel
theorem dX4_arrive_1 : decode cX4_arrive 1 = .ok (.getfield 58, 3) := by decide +kernel
theorem dX4_arrive_4 : decode cX4_arrive 4 = .ok (.bipush 10, 2) := by decide +kernel
theorem dX4_arrive_6 : decode cX4_arrive 6 = .ok (.imul, 1) := by decide +kernel
theorem dX4_arrive_7 : decode cX4_arrive 7 = .ok (.aload_n 1, 1) := by decide +kernel
theorem dX4_arrive_8 : decode cX4_arrive 8 = .ok (.getfield 61, 3) := by decide +kernel
theorem dX4_arrive_11 : decode cX4_arrive 11 = .ok (.iadd, 1) := by decide +kernel
theorem dX4_arrive_12 : decode cX4_arrive 12 = .ok (.istore_n 2, 1) := by decide +kernel
theorem dX4_arrive_13 : decode cX4_arrive 13 = .ok (.iload_n 2, 1) := by decide +kernel
theorem dX4_arrive_14 : decode cX4_arrive 14 = .ok (.ifCond .lt 22, 3) := by decide +kernel
theorem dX4_arrive_17 : decode cX4_arrive 17 = .ok (.iload_n 2, 1) := by decide +kernel
theorem dX4_arrive_18 : decode cX4_arrive 18 = .ok (.aload_n 0, 1) := by decide +kernel
theorem dX4_arrive_19 : decode cX4_arrive 19 = .ok (.arraylength, 1) := by decide +kernel
theorem dX4_arrive_20 : decode cX4_arrive 20 = .ok (.if_icmp .ge 16, 3) := by decide +kernel
theorem dX4_arrive_23 : decode cX4_arrive 23 = .ok (.aload_n 0, 1) := by decide +kernel
theorem dX4_arrive_24 : decode cX4_arrive 24 = .ok (.iload_n 2, 1) := by decide +kernel
theorem dX4_arrive_25 : decode cX4_arrive 25 = .ok (.aload_n 0, 1) := by decide +kernel
theorem dX4_arrive_26 : decode cX4_arrive 26 = .ok (.iload_n 2, 1) := by decide +kernel
theorem dX4_arrive_27 : decode cX4_arrive 27 = .ok (.iaload, 1) := by decide +kernel
theorem dX4_arrive_28 : decode cX4_arrive 28 = .ok (.aload_n 1, 1) := by decide +kernel
theorem dX4_arrive_29 : decode cX4_arrive 29 = .ok (.getfield 64, 3) := by decide +kernel
theorem dX4_arrive_32 : decode cX4_arrive 32 = .ok (.invokestatic 67, 3) := by decide +kernel
theorem dX4_arrive_35 : decode cX4_arrive 35 = .ok (.iastore, 1) := by decide +kernel
theorem dX4_arrive_36 : decode cX4_arrive 36 = .ok (.return_, 1) := by decide +kernel
theorem dX4_mostIn_0 : decode cX4_mostIn 0 = .ok (.iconst (-1), 1) := by decide +kernel
theorem dX4_mostIn_1 : decode cX4_mostIn 1 = .ok (.istore_n 2, 1) := by decide +kernel
theorem dX4_mostIn_2 : decode cX4_mostIn 2 = .ok (.iconst 0, 1) := by decide +kernel
theorem dX4_mostIn_3 : decode cX4_mostIn 3 = .ok (.istore_n 3, 1) := by decide +kernel
theorem dX4_mostIn_4 : decode cX4_mostIn 4 = .ok (.iload_n 3, 1) := by decide +kernel
theorem dX4_mostIn_5 : decode cX4_mostIn 5 = .ok (.bipush 10, 2) := by decide +kernel
theorem dX4_mostIn_7 : decode cX4_mostIn 7 = .ok (.if_icmp .ge 25, 3) := by decide +kernel
theorem dX4_mostIn_10 : decode cX4_mostIn 10 = .ok (.iload_n 2, 1) := by decide +kernel
theorem dX4_mostIn_11 : decode cX4_mostIn 11 = .ok (.aload_n 0, 1) := by decide +kernel
theorem dX4_mostIn_12 : decode cX4_mostIn 12 = .ok (.getfield 13, 3) := by decide +kernel
theorem dX4_mostIn_15 : decode cX4_mostIn 15 = .ok (.iload_n 1, 1) := by decide +kernel
theorem dX4_mostIn_16 : decode cX4_mostIn 16 = .ok (.bipush 10, 2) := by decide +kernel
theorem dX4_mostIn_18 : decode cX4_mostIn 18 = .ok (.imul, 1) := by decide +kernel
theorem dX4_mostIn_19 : decode cX4_mostIn 19 = .ok (.iload_n 3, 1) := by decide +kernel
theorem dX4_mostIn_20 : decode cX4_mostIn 20 = .ok (.iadd, 1) := by decide +kernel
theorem dX4_mostIn_21 : decode cX4_mostIn 21 = .ok (.iaload, 1) := by decide +kernel
theorem dX4_mostIn_22 : decode cX4_mostIn 22 = .ok (.invokestatic 67, 3) := by decide +kernel
theorem dX4_mostIn_25 : decode cX4_mostIn 25 = .ok (.istore_n 2, 1) := by decide +kernel
theorem dX4_mostIn_26 : decode cX4_mostIn 26 = .ok (.iinc 3 1, 3) := by decide +kernel
theorem dX4_mostIn_29 : decode cX4_mostIn 29 = .ok (.goto (-25), 3) := by decide +kernel
theorem dX4_mostIn_32 : decode cX4_mostIn 32 = .ok (.iload_n 2, 1) := by decide +kernel
theorem dX4_mostIn_33 : decode cX4_mostIn 33 = .ok (.ireturn, 1) := by decide +kernel
theorem dX4_goOn_0 : decode cX4_goOn 0 = .ok (.aload_n 0, 1) := by decide +kernel
theorem dX4_goOn_1 : decode cX4_goOn 1 = .ok (.getfield 17, 3) := by decide +kernel
theorem dX4_goOn_4 : decode cX4_goOn 4 = .ok (.iconst (-1), 1) := by decide +kernel
theorem dX4_goOn_5 : decode cX4_goOn 5 = .ok (.invokestatic 27, 3) := by decide +kernel
theorem dX4_goOn_8 : decode cX4_goOn 8 = .ok (.aload_n 1, 1) := by decide +kernel
theorem dX4_goOn_9 : decode cX4_goOn 9 = .ok (.iload_n 2, 1) := by decide +kernel
theorem dX4_goOn_10 : decode cX4_goOn 10 = .ok (.invokevirtual 70, 3) := by decide +kernel
theorem dX4_goOn_13 : decode cX4_goOn 13 = .ok (.istore_n 3, 1) := by decide +kernel
theorem dX4_goOn_14 : decode cX4_goOn 14 = .ok (.aload_n 1, 1) := by decide +kernel
theorem dX4_goOn_15 : decode cX4_goOn 15 = .ok (.iload_n 2, 1) := by decide +kernel
theorem dX4_goOn_16 : decode cX4_goOn 16 = .ok (.invokevirtual 73, 3) := by decide +kernel
theorem dX4_goOn_19 : decode cX4_goOn 19 = .ok (.istore 4, 2) := by decide +kernel
theorem dX4_goOn_21 : decode cX4_goOn 21 = .ok (.iconst 0, 1) := by decide +kernel
theorem dX4_goOn_22 : decode cX4_goOn 22 = .ok (.istore 5, 2) := by decide +kernel
theorem dX4_goOn_24 : decode cX4_goOn 24 = .ok (.iload 5, 2) := by decide +kernel
theorem dX4_goOn_26 : decode cX4_goOn 26 = .ok (.aload_n 0, 1) := by decide +kernel
theorem dX4_goOn_27 : decode cX4_goOn 27 = .ok (.getfield 13, 3) := by decide +kernel
theorem dX4_goOn_30 : decode cX4_goOn 30 = .ok (.arraylength, 1) := by decide +kernel
theorem dX4_goOn_31 : decode cX4_goOn 31 = .ok (.if_icmp .ge 89, 3) := by decide +kernel
theorem dX4_goOn_34 : decode cX4_goOn 34 = .ok (.aload_n 0, 1) := by decide +kernel
theorem dX4_goOn_35 : decode cX4_goOn 35 = .ok (.getfield 13, 3) := by decide +kernel
theorem dX4_goOn_38 : decode cX4_goOn 38 = .ok (.iload 5, 2) := by decide +kernel
theorem dX4_goOn_40 : decode cX4_goOn 40 = .ok (.iaload, 1) := by decide +kernel
theorem dX4_goOn_41 : decode cX4_goOn 41 = .ok (.ifCond .ge 6, 3) := by decide +kernel
theorem dX4_goOn_44 : decode cX4_goOn 44 = .ok (.goto 70, 3) := by decide +kernel
theorem dX4_goOn_47 : decode cX4_goOn 47 = .ok (.iconst 0, 1) := by decide +kernel
theorem dX4_goOn_48 : decode cX4_goOn 48 = .ok (.istore 6, 2) := by decide +kernel
theorem dX4_goOn_50 : decode cX4_goOn 50 = .ok (.iload 6, 2) := by decide +kernel
theorem dX4_goOn_52 : decode cX4_goOn 52 = .ok (.iconst 4, 1) := by decide +kernel
theorem dX4_goOn_53 : decode cX4_goOn 53 = .ok (.if_icmp .gt 61, 3) := by decide +kernel
theorem dX4_goOn_56 : decode cX4_goOn 56 = .ok (.aload_n 0, 1) := by decide +kernel
theorem dX4_goOn_57 : decode cX4_goOn 57 = .ok (.getfield 23, 3) := by decide +kernel
theorem dX4_goOn_60 : decode cX4_goOn 60 = .ok (.iload 5, 2) := by decide +kernel
theorem dX4_goOn_62 : decode cX4_goOn 62 = .ok (.bipush 10, 2) := by decide +kernel
theorem dX4_goOn_64 : decode cX4_goOn 64 = .ok (.idiv, 1) := by decide +kernel
theorem dX4_goOn_65 : decode cX4_goOn 65 = .ok (.aload_n 0, 1) := by decide +kernel
theorem dX4_goOn_66 : decode cX4_goOn 66 = .ok (.getfield 13, 3) := by decide +kernel
theorem dX4_goOn_69 : decode cX4_goOn 69 = .ok (.iload 5, 2) := by decide +kernel
theorem dX4_goOn_71 : decode cX4_goOn 71 = .ok (.iaload, 1) := by decide +kernel
theorem dX4_goOn_72 : decode cX4_goOn 72 = .ok (.iload 5, 2) := by decide +kernel
theorem dX4_goOn_74 : decode cX4_goOn 74 = .ok (.bipush 10, 2) := by decide +kernel
theorem dX4_goOn_76 : decode cX4_goOn 76 = .ok (.irem, 1) := by decide +kernel
theorem dX4_goOn_77 : decode cX4_goOn 77 = .ok (.invokevirtual 76, 3) := by decide +kernel
theorem dX4_goOn_80 : decode cX4_goOn 80 = .ok (.aload_n 0, 1) := by decide +kernel
theorem dX4_goOn_81 : decode cX4_goOn 81 = .ok (.getfield 23, 3) := by decide +kernel
theorem dX4_goOn_84 : decode cX4_goOn 84 = .ok (.aload_n 1, 1) := by decide +kernel
theorem dX4_goOn_85 : decode cX4_goOn 85 = .ok (.iload_n 2, 1) := by decide +kernel
theorem dX4_goOn_86 : decode cX4_goOn 86 = .ok (.iload 6, 2) := by decide +kernel
theorem dX4_goOn_88 : decode cX4_goOn 88 = .ok (.iload_n 3, 1) := by decide +kernel
theorem dX4_goOn_89 : decode cX4_goOn 89 = .ok (.iload 4, 2) := by decide +kernel
theorem dX4_goOn_91 : decode cX4_goOn 91 = .ok (.invokevirtual 80, 3) := by decide +kernel
theorem dX4_goOn_94 : decode cX4_goOn 94 = .ok (.ifCond .eq 14, 3) := by decide +kernel
theorem dX4_goOn_97 : decode cX4_goOn 97 = .ok (.aload_n 0, 1) := by decide +kernel
theorem dX4_goOn_98 : decode cX4_goOn 98 = .ok (.getfield 17, 3) := by decide +kernel
theorem dX4_goOn_101 : decode cX4_goOn 101 = .ok (.aload_n 0, 1) := by decide +kernel
theorem dX4_goOn_102 : decode cX4_goOn 102 = .ok (.getfield 23, 3) := by decide +kernel
theorem dX4_goOn_105 : decode cX4_goOn 105 = .ok (.invokestatic 33, 3) := by decide +kernel
theorem dX4_goOn_108 : decode cX4_goOn 108 = .ok (.iinc 6 1, 3) := by decide +kernel
theorem dX4_goOn_111 : decode cX4_goOn 111 = .ok (.goto (-61), 3) := by decide +kernel
theorem dX4_goOn_114 : decode cX4_goOn 114 = .ok (.iinc 5 1, 3) := by decide +kernel
theorem dX4_goOn_117 : decode cX4_goOn 117 = .ok (.goto (-93), 3) := by decide +kernel
theorem dX4_goOn_120 : decode cX4_goOn 120 = .ok (.aload_n 0, 1) := by decide +kernel
theorem dX4_goOn_121 : decode cX4_goOn 121 = .ok (.getfield 17, 3) := by decide +kernel
theorem dX4_goOn_124 : decode cX4_goOn 124 = .ok (.iconst 0, 1) := by decide +kernel
theorem dX4_goOn_125 : decode cX4_goOn 125 = .ok (.aload_n 0, 1) := by decide +kernel
theorem dX4_goOn_126 : decode cX4_goOn 126 = .ok (.getfield 13, 3) := by decide +kernel
theorem dX4_goOn_129 : decode cX4_goOn 129 = .ok (.iconst 0, 1) := by decide +kernel
theorem dX4_goOn_130 : decode cX4_goOn 130 = .ok (.aload_n 0, 1) := by decide +kernel
theorem dX4_goOn_131 : decode cX4_goOn 131 = .ok (.getfield 13, 3) := by decide +kernel
theorem dX4_goOn_134 : decode cX4_goOn 134 = .ok (.arraylength, 1) := by decide +kernel
theorem dX4_goOn_135 : decode cX4_goOn 135 = .ok (.invokestatic 84, 3) := by decide +kernel
theorem dX4_goOn_138 : decode cX4_goOn 138 = .ok (.return_, 1) := by decide +kernel
theorem dX5_init_0 : decode cX5_init 0 = .ok (.aload_n 0, 1) := by decide +kernel
theorem dX5_init_1 : decode cX5_init 1 = .ok (.invokespecial 1, 3) := by decide +kernel
theorem dX5_init_4 : decode cX5_init 4 = .ok (.aload_n 0, 1) := by decide +kernel
theorem dX5_init_5 : decode cX5_init 5 = .ok (.bipush 60, 2) := by decide +kernel
theorem dX5_init_7 : decode cX5_init 7 = .ok (.newarray .long, 2) := by decide +kernel
theorem dX5_init_9 : decode cX5_init 9 = .ok (.putfield 9, 3) := by decide +kernel
theorem dX5_init_12 : decode cX5_init 12 = .ok (.return_, 1) := by decide +kernel
theorem dX5_isEmpty_0 : decode cX5_isEmpty 0 = .ok (.aload_n 0, 1) := by decide +kernel
theorem dX5_isEmpty_1 : decode cX5_isEmpty 1 = .ok (.getfield 13, 3) := by decide +kernel
theorem dX5_isEmpty_4 : decode cX5_isEmpty 4 = .ok (.ifCond .ne 7, 3) := by decide +kernel
theorem dX5_isEmpty_7 : decode cX5_isEmpty 7 = .ok (.iconst 1, 1) := by decide +kernel
theorem dX5_isEmpty_8 : decode cX5_isEmpty 8 = .ok (.goto 4, 3) := by decide +kernel
theorem dX5_isEmpty_11 : decode cX5_isEmpty 11 = .ok (.iconst 0, 1) := by decide +kernel
theorem dX5_isEmpty_12 : decode cX5_isEmpty 12 = .ok (.ireturn, 1) := by decide +kernel
theorem dX5_isRow_0 : decode cX5_isRow 0 = .ok (.aload_n 0, 1) := by decide +kernel
theorem dX5_isRow_1 : decode cX5_isRow 1 = .ok (.getfield 13, 3) := by decide +kernel
theorem dX5_isRow_4 : decode cX5_isRow 4 = .ok (.iconst 2, 1) := by decide +kernel
theorem dX5_isRow_5 : decode cX5_isRow 5 = .ok (.if_icmp .ne 7, 3) := by decide +kernel
theorem dX5_isRow_8 : decode cX5_isRow 8 = .ok (.iconst 1, 1) := by decide +kernel
theorem dX5_isRow_9 : decode cX5_isRow 9 = .ok (.goto 4, 3) := by decide +kernel
theorem dX5_isRow_12 : decode cX5_isRow 12 = .ok (.iconst 0, 1) := by decide +kernel
theorem dX5_isRow_13 : decode cX5_isRow 13 = .ok (.ireturn, 1) := by decide +kernel
theorem dX5_isBytes_0 : decode cX5_isBytes 0 = .ok (.aload_n 0, 1) := by decide +kernel
theorem dX5_isBytes_1 : decode cX5_isBytes 1 = .ok (.getfield 13, 3) := by decide +kernel
theorem dX5_isBytes_4 : decode cX5_isBytes 4 = .ok (.iconst 2, 1) := by decide +kernel
theorem dX5_isBytes_5 : decode cX5_isBytes 5 = .ok (.if_icmp .ne 14, 3) := by decide +kernel
theorem dX5_isBytes_8 : decode cX5_isBytes 8 = .ok (.aload_n 0, 1) := by decide +kernel
theorem dX5_isBytes_9 : decode cX5_isBytes 9 = .ok (.getfield 17, 3) := by decide +kernel
theorem dX5_isBytes_12 : decode cX5_isBytes 12 = .ok (.ifCond .ne 7, 3) := by decide +kernel
theorem dX5_isBytes_15 : decode cX5_isBytes 15 = .ok (.iconst 1, 1) := by decide +kernel
theorem dX5_isBytes_16 : decode cX5_isBytes 16 = .ok (.goto 4, 3) := by decide +kernel
theorem dX5_isBytes_19 : decode cX5_isBytes 19 = .ok (.iconst 0, 1) := by decide +kernel
theorem dX5_isBytes_20 : decode cX5_isBytes 20 = .ok (.ireturn, 1) := by decide +kernel
theorem dX5_holdNothing_0 : decode cX5_holdNothing 0 = .ok (.aload_n 0, 1) := by decide +kernel
theorem dX5_holdNothing_1 : decode cX5_holdNothing 1 = .ok (.iconst 0, 1) := by decide +kernel
theorem dX5_holdNothing_2 : decode cX5_holdNothing 2 = .ok (.putfield 13, 3) := by decide +kernel
theorem dX5_holdNothing_5 : decode cX5_holdNothing 5 = .ok (.return_, 1) := by decide +kernel
theorem dX5_holdBody_0 : decode cX5_holdBody 0 = .ok (.aload_n 0, 1) := by decide +kernel
theorem dX5_holdBody_1 : decode cX5_holdBody 1 = .ok (.iconst 1, 1) := by decide +kernel
theorem dX5_holdBody_2 : decode cX5_holdBody 2 = .ok (.putfield 13, 3) := by decide +kernel
theorem dX5_holdBody_5 : decode cX5_holdBody 5 = .ok (.aload_n 0, 1) := by decide +kernel
theorem dX5_holdBody_6 : decode cX5_holdBody 6 = .ok (.iload_n 1, 1) := by decide +kernel
theorem dX5_holdBody_7 : decode cX5_holdBody 7 = .ok (.putfield 20, 3) := by decide +kernel
theorem dX5_holdBody_10 : decode cX5_holdBody 10 = .ok (.return_, 1) := by decide +kernel
theorem dX5_holdRow_0 : decode cX5_holdRow 0 = .ok (.aload_n 0, 1) := by decide +kernel
theorem dX5_holdRow_1 : decode cX5_holdRow 1 = .ok (.iconst 2, 1) := by decide +kernel
theorem dX5_holdRow_2 : decode cX5_holdRow 2 = .ok (.putfield 13, 3) := by decide +kernel
theorem dX5_holdRow_5 : decode cX5_holdRow 5 = .ok (.aload_n 0, 1) := by decide +kernel
theorem dX5_holdRow_6 : decode cX5_holdRow 6 = .ok (.iload_n 1, 1) := by decide +kernel
theorem dX5_holdRow_7 : decode cX5_holdRow 7 = .ok (.putfield 17, 3) := by decide +kernel
theorem dX5_holdRow_10 : decode cX5_holdRow 10 = .ok (.aload_n 0, 1) := by decide +kernel
theorem dX5_holdRow_11 : decode cX5_holdRow 11 = .ok (.bipush 60, 2) := by decide +kernel
theorem dX5_holdRow_13 : decode cX5_holdRow 13 = .ok (.iconst 0, 1) := by decide +kernel
theorem dX5_holdRow_14 : decode cX5_holdRow 14 = .ok (.iload_n 2, 1) := by decide +kernel
theorem dX5_holdRow_15 : decode cX5_holdRow 15 = .ok (.invokestatic 23, 3) := by decide +kernel
theorem dX5_holdRow_18 : decode cX5_holdRow 18 = .ok (.invokestatic 29, 3) := by decide +kernel
theorem dX5_holdRow_21 : decode cX5_holdRow 21 = .ok (.putfield 32, 3) := by decide +kernel
theorem dX5_holdRow_24 : decode cX5_holdRow 24 = .ok (.aload_n 0, 1) := by decide +kernel
theorem dX5_holdRow_25 : decode cX5_holdRow 25 = .ok (.getfield 9, 3) := by decide +kernel
theorem dX5_holdRow_28 : decode cX5_holdRow 28 = .ok (.lconst 0, 1) := by decide +kernel
theorem dX5_holdRow_29 : decode cX5_holdRow 29 = .ok (.invokestatic 35, 3) := by decide +kernel
theorem dX5_holdRow_32 : decode cX5_holdRow 32 = .ok (.return_, 1) := by decide +kernel
theorem dX5_hasPlaces_0 : decode cX5_hasPlaces 0 = .ok (.iload_n 1, 1) := by decide +kernel
theorem dX5_hasPlaces_1 : decode cX5_hasPlaces 1 = .ok (.ifCond .lt 29, 3) := by decide +kernel
theorem dX5_hasPlaces_4 : decode cX5_hasPlaces 4 = .ok (.iload_n 2, 1) := by decide +kernel
theorem dX5_hasPlaces_5 : decode cX5_hasPlaces 5 = .ok (.ifCond .lt 25, 3) := by decide +kernel
theorem dX5_hasPlaces_8 : decode cX5_hasPlaces 8 = .ok (.iload_n 1, 1) := by decide +kernel
theorem dX5_hasPlaces_9 : decode cX5_hasPlaces 9 = .ok (.aload_n 0, 1) := by decide +kernel
theorem dX5_hasPlaces_10 : decode cX5_hasPlaces 10 = .ok (.getfield 32, 3) := by decide +kernel
theorem dX5_hasPlaces_13 : decode cX5_hasPlaces 13 = .ok (.if_icmp .gt 17, 3) := by decide +kernel
theorem dX5_hasPlaces_16 : decode cX5_hasPlaces 16 = .ok (.iload_n 2, 1) := by decide +kernel
theorem dX5_hasPlaces_17 : decode cX5_hasPlaces 17 = .ok (.aload_n 0, 1) := by decide +kernel
theorem dX5_hasPlaces_18 : decode cX5_hasPlaces 18 = .ok (.getfield 32, 3) := by decide +kernel
theorem dX5_hasPlaces_21 : decode cX5_hasPlaces 21 = .ok (.iload_n 1, 1) := by decide +kernel
theorem dX5_hasPlaces_22 : decode cX5_hasPlaces 22 = .ok (.isub, 1) := by decide +kernel
theorem dX5_hasPlaces_23 : decode cX5_hasPlaces 23 = .ok (.if_icmp .gt 7, 3) := by decide +kernel
theorem dX5_hasPlaces_26 : decode cX5_hasPlaces 26 = .ok (.iconst 1, 1) := by decide +kernel
theorem dX5_hasPlaces_27 : decode cX5_hasPlaces 27 = .ok (.goto 4, 3) := by decide +kernel
theorem dX5_hasPlaces_30 : decode cX5_hasPlaces 30 = .ok (.iconst 0, 1) := by decide +kernel
theorem dX5_hasPlaces_31 : decode cX5_hasPlaces 31 = .ok (.ireturn, 1) := by decide +kernel
theorem dX5_at_0 : decode cX5_at 0 = .ok (.aload_n 0, 1) := by decide +kernel
theorem dX5_at_1 : decode cX5_at 1 = .ok (.iload_n 1, 1) := by decide +kernel
theorem dX5_at_2 : decode cX5_at 2 = .ok (.iconst 1, 1) := by decide +kernel
theorem dX5_at_3 : decode cX5_at 3 = .ok (.invokevirtual 41, 3) := by decide +kernel
theorem dX5_at_6 : decode cX5_at 6 = .ok (.ifCond .eq 12, 3) := by decide +kernel
theorem dX5_at_9 : decode cX5_at 9 = .ok (.aload_n 0, 1) := by decide +kernel
theorem dX5_at_10 : decode cX5_at 10 = .ok (.getfield 9, 3) := by decide +kernel
theorem dX5_at_13 : decode cX5_at 13 = .ok (.iload_n 1, 1) := by decide +kernel
theorem dX5_at_14 : decode cX5_at 14 = .ok (.laload, 1) := by decide +kernel
theorem dX5_at_15 : decode cX5_at 15 = .ok (.goto 4, 3) := by decide +kernel
theorem dX5_at_18 : decode cX5_at 18 = .ok (.lconst 0, 1) := by decide +kernel
theorem dX5_at_19 : decode cX5_at 19 = .ok (.lreturn, 1) := by decide +kernel
theorem dX5_set_0 : decode cX5_set 0 = .ok (.aload_n 0, 1) := by decide +kernel
theorem dX5_set_1 : decode cX5_set 1 = .ok (.iload_n 1, 1) := by decide +kernel
theorem dX5_set_2 : decode cX5_set 2 = .ok (.iconst 1, 1) := by decide +kernel
theorem dX5_set_3 : decode cX5_set 3 = .ok (.invokevirtual 41, 3) := by decide +kernel
theorem dX5_set_6 : decode cX5_set 6 = .ok (.ifCond .eq 14, 3) := by decide +kernel
theorem dX5_set_9 : decode cX5_set 9 = .ok (.aload_n 0, 1) := by decide +kernel
theorem dX5_set_10 : decode cX5_set 10 = .ok (.getfield 9, 3) := by decide +kernel
theorem dX5_set_13 : decode cX5_set 13 = .ok (.iload_n 1, 1) := by decide +kernel
theorem dX5_set_14 : decode cX5_set 14 = .ok (.aload_n 0, 1) := by decide +kernel
theorem dX5_set_15 : decode cX5_set 15 = .ok (.lload_n 2, 1) := by decide +kernel
theorem dX5_set_16 : decode cX5_set 16 = .ok (.invokevirtual 45, 3) := by decide +kernel
theorem dX5_set_19 : decode cX5_set 19 = .ok (.lastore, 1) := by decide +kernel
theorem dX5_set_20 : decode cX5_set 20 = .ok (.return_, 1) := by decide +kernel
theorem dX5_narrowed_0 : decode cX5_narrowed 0 = .ok (.aload_n 0, 1) := by decide +kernel
theorem dX5_narrowed_1 : decode cX5_narrowed 1 = .ok (.getfield 17, 3) := by decide +kernel
theorem dX5_narrowed_4 : decode cX5_narrowed 4 = .ok (.tableswitch 48 0 3 #[32, 37, 42, 46], 32) := by decide +kernel
theorem dX5_narrowed_36 : decode cX5_narrowed 36 = .ok (.lload_n 1, 1) := by decide +kernel
theorem dX5_narrowed_37 : decode cX5_narrowed 37 = .ok (.l2i, 1) := by decide +kernel
theorem dX5_narrowed_38 : decode cX5_narrowed 38 = .ok (.i2b, 1) := by decide +kernel
theorem dX5_narrowed_39 : decode cX5_narrowed 39 = .ok (.i2l, 1) := by decide +kernel
theorem dX5_narrowed_40 : decode cX5_narrowed 40 = .ok (.lreturn, 1) := by decide +kernel
theorem dX5_narrowed_41 : decode cX5_narrowed 41 = .ok (.lload_n 1, 1) := by decide +kernel
theorem dX5_narrowed_42 : decode cX5_narrowed 42 = .ok (.l2i, 1) := by decide +kernel
theorem dX5_narrowed_43 : decode cX5_narrowed 43 = .ok (.i2s, 1) := by decide +kernel
theorem dX5_narrowed_44 : decode cX5_narrowed 44 = .ok (.i2l, 1) := by decide +kernel
theorem dX5_narrowed_45 : decode cX5_narrowed 45 = .ok (.lreturn, 1) := by decide +kernel
theorem dX5_narrowed_46 : decode cX5_narrowed 46 = .ok (.lload_n 1, 1) := by decide +kernel
theorem dX5_narrowed_47 : decode cX5_narrowed 47 = .ok (.l2i, 1) := by decide +kernel
theorem dX5_narrowed_48 : decode cX5_narrowed 48 = .ok (.i2l, 1) := by decide +kernel
theorem dX5_narrowed_49 : decode cX5_narrowed 49 = .ok (.lreturn, 1) := by decide +kernel
theorem dX5_narrowed_50 : decode cX5_narrowed 50 = .ok (.lload_n 1, 1) := by decide +kernel
theorem dX5_narrowed_51 : decode cX5_narrowed 51 = .ok (.lreturn, 1) := by decide +kernel
theorem dX5_narrowed_52 : decode cX5_narrowed 52 = .ok (.lload_n 1, 1) := by decide +kernel
theorem dX5_narrowed_53 : decode cX5_narrowed 53 = .ok (.lconst 0, 1) := by decide +kernel
theorem dX5_narrowed_54 : decode cX5_narrowed 54 = .ok (.lcmp, 1) := by decide +kernel
theorem dX5_narrowed_55 : decode cX5_narrowed 55 = .ok (.ifCond .eq 7, 3) := by decide +kernel
theorem dX5_narrowed_58 : decode cX5_narrowed 58 = .ok (.lconst 1, 1) := by decide +kernel
theorem dX5_narrowed_59 : decode cX5_narrowed 59 = .ok (.goto 4, 3) := by decide +kernel
theorem dX5_narrowed_62 : decode cX5_narrowed 62 = .ok (.lconst 0, 1) := by decide +kernel
theorem dX5_narrowed_63 : decode cX5_narrowed 63 = .ok (.lreturn, 1) := by decide +kernel
theorem dX6_init_0 : decode cX6_init 0 = .ok (.aload_n 0, 1) := by decide +kernel
theorem dX6_init_1 : decode cX6_init 1 = .ok (.invokespecial 1, 3) := by decide +kernel
theorem dX6_init_4 : decode cX6_init 4 = .ok (.aload_n 0, 1) := by decide +kernel
theorem dX6_init_5 : decode cX6_init 5 = .ok (.bipush 36, 2) := by decide +kernel
theorem dX6_init_7 : decode cX6_init 7 = .ok (.newarray .int, 2) := by decide +kernel
theorem dX6_init_9 : decode cX6_init 9 = .ok (.putfield 9, 3) := by decide +kernel
theorem dX6_init_12 : decode cX6_init 12 = .ok (.aload_n 0, 1) := by decide +kernel
theorem dX6_init_13 : decode cX6_init 13 = .ok (.iconst 5, 1) := by decide +kernel
theorem dX6_init_14 : decode cX6_init 14 = .ok (.newarray .int, 2) := by decide +kernel
theorem dX6_init_16 : decode cX6_init 16 = .ok (.putfield 15, 3) := by decide +kernel
theorem dX6_init_19 : decode cX6_init 19 = .ok (.aload_n 0, 1) := by decide +kernel
theorem dX6_init_20 : decode cX6_init 20 = .ok (.iconst 5, 1) := by decide +kernel
theorem dX6_init_21 : decode cX6_init 21 = .ok (.newarray .int, 2) := by decide +kernel
theorem dX6_init_23 : decode cX6_init 23 = .ok (.putfield 18, 3) := by decide +kernel
theorem dX6_init_26 : decode cX6_init 26 = .ok (.aload_n 0, 1) := by decide +kernel
theorem dX6_init_27 : decode cX6_init 27 = .ok (.bipush 25, 2) := by decide +kernel
theorem dX6_init_29 : decode cX6_init 29 = .ok (.newarray .int, 2) := by decide +kernel
theorem dX6_init_31 : decode cX6_init 31 = .ok (.putfield 21, 3) := by decide +kernel
theorem dX6_init_34 : decode cX6_init 34 = .ok (.aload_n 0, 1) := by decide +kernel
theorem dX6_init_35 : decode cX6_init 35 = .ok (.sipush 160, 3) := by decide +kernel
theorem dX6_init_38 : decode cX6_init 38 = .ok (.newarray .int, 2) := by decide +kernel
theorem dX6_init_40 : decode cX6_init 40 = .ok (.putfield 24, 3) := by decide +kernel
theorem dX6_init_43 : decode cX6_init 43 = .ok (.return_, 1) := by decide +kernel
theorem dX6_spreadTo_0 : decode cX6_spreadTo 0 = .ok (.iconst 0, 1) := by decide +kernel
theorem dX6_spreadTo_1 : decode cX6_spreadTo 1 = .ok (.istore_n 3, 1) := by decide +kernel
theorem dX6_spreadTo_2 : decode cX6_spreadTo 2 = .ok (.iload_n 3, 1) := by decide +kernel
theorem dX6_spreadTo_3 : decode cX6_spreadTo 3 = .ok (.bipush 36, 2) := by decide +kernel
theorem dX6_spreadTo_5 : decode cX6_spreadTo 5 = .ok (.if_icmp .ge 57, 3) := by decide +kernel
theorem dX6_spreadTo_8 : decode cX6_spreadTo 8 = .ok (.iload_n 2, 1) := by decide +kernel
theorem dX6_spreadTo_9 : decode cX6_spreadTo 9 = .ok (.iconst (-1), 1) := by decide +kernel
theorem dX6_spreadTo_10 : decode cX6_spreadTo 10 = .ok (.if_icmp .ne 17, 3) := by decide +kernel
theorem dX6_spreadTo_13 : decode cX6_spreadTo 13 = .ok (.iload_n 3, 1) := by decide +kernel
theorem dX6_spreadTo_14 : decode cX6_spreadTo 14 = .ok (.bipush 6, 2) := by decide +kernel
theorem dX6_spreadTo_16 : decode cX6_spreadTo 16 = .ok (.if_icmp .ge 7, 3) := by decide +kernel
theorem dX6_spreadTo_19 : decode cX6_spreadTo 19 = .ok (.iconst 1, 1) := by decide +kernel
theorem dX6_spreadTo_20 : decode cX6_spreadTo 20 = .ok (.goto 17, 3) := by decide +kernel
theorem dX6_spreadTo_23 : decode cX6_spreadTo 23 = .ok (.iconst 0, 1) := by decide +kernel
theorem dX6_spreadTo_24 : decode cX6_spreadTo 24 = .ok (.goto 13, 3) := by decide +kernel
theorem dX6_spreadTo_27 : decode cX6_spreadTo 27 = .ok (.iload_n 3, 1) := by decide +kernel
theorem dX6_spreadTo_28 : decode cX6_spreadTo 28 = .ok (.iload_n 2, 1) := by decide +kernel
theorem dX6_spreadTo_29 : decode cX6_spreadTo 29 = .ok (.if_icmp .ne 7, 3) := by decide +kernel
theorem dX6_spreadTo_32 : decode cX6_spreadTo 32 = .ok (.iconst 1, 1) := by decide +kernel
theorem dX6_spreadTo_33 : decode cX6_spreadTo 33 = .ok (.goto 4, 3) := by decide +kernel
theorem dX6_spreadTo_36 : decode cX6_spreadTo 36 = .ok (.iconst 0, 1) := by decide +kernel
theorem dX6_spreadTo_37 : decode cX6_spreadTo 37 = .ok (.istore 4, 2) := by decide +kernel
theorem dX6_spreadTo_39 : decode cX6_spreadTo 39 = .ok (.aload_n 0, 1) := by decide +kernel
theorem dX6_spreadTo_40 : decode cX6_spreadTo 40 = .ok (.getfield 9, 3) := by decide +kernel
theorem dX6_spreadTo_43 : decode cX6_spreadTo 43 = .ok (.iload_n 3, 1) := by decide +kernel
theorem dX6_spreadTo_44 : decode cX6_spreadTo 44 = .ok (.iload 4, 2) := by decide +kernel
theorem dX6_spreadTo_46 : decode cX6_spreadTo 46 = .ok (.ifCond .eq 7, 3) := by decide +kernel
theorem dX6_spreadTo_49 : decode cX6_spreadTo 49 = .ok (.iconst 0, 1) := by decide +kernel
theorem dX6_spreadTo_50 : decode cX6_spreadTo 50 = .ok (.goto 5, 3) := by decide +kernel
theorem dX6_spreadTo_53 : decode cX6_spreadTo 53 = .ok (.ldc 27, 2) := by decide +kernel
theorem dX6_spreadTo_55 : decode cX6_spreadTo 55 = .ok (.iastore, 1) := by decide +kernel
theorem dX6_spreadTo_56 : decode cX6_spreadTo 56 = .ok (.iinc 3 1, 3) := by decide +kernel
theorem dX6_spreadTo_59 : decode cX6_spreadTo 59 = .ok (.goto (-57), 3) := by decide +kernel
theorem dX6_spreadTo_62 : decode cX6_spreadTo 62 = .ok (.lconst 0, 1) := by decide +kernel
theorem dX6_spreadTo_63 : decode cX6_spreadTo 63 = .ok (.lstore_n 3, 1) := by decide +kernel
theorem dX6_spreadTo_64 : decode cX6_spreadTo 64 = .ok (.iconst 0, 1) := by decide +kernel
theorem dX6_spreadTo_65 : decode cX6_spreadTo 65 = .ok (.istore 5, 2) := by decide +kernel
theorem dX6_spreadTo_67 : decode cX6_spreadTo 67 = .ok (.iload 5, 2) := by decide +kernel
theorem dX6_spreadTo_69 : decode cX6_spreadTo 69 = .ok (.bipush 36, 2) := by decide +kernel
theorem dX6_spreadTo_71 : decode cX6_spreadTo 71 = .ok (.if_icmp .ge 38, 3) := by decide +kernel
theorem dX6_spreadTo_74 : decode cX6_spreadTo 74 = .ok (.aload_n 0, 1) := by decide +kernel
theorem dX6_spreadTo_75 : decode cX6_spreadTo 75 = .ok (.lload_n 3, 1) := by decide +kernel
theorem dX6_spreadTo_76 : decode cX6_spreadTo 76 = .ok (.invokevirtual 28, 3) := by decide +kernel
theorem dX6_spreadTo_79 : decode cX6_spreadTo 79 = .ok (.istore 6, 2) := by decide +kernel
theorem dX6_spreadTo_81 : decode cX6_spreadTo 81 = .ok (.iload 6, 2) := by decide +kernel
theorem dX6_spreadTo_83 : decode cX6_spreadTo 83 = .ok (.ifCond .ge 6, 3) := by decide +kernel
theorem dX6_spreadTo_86 : decode cX6_spreadTo 86 = .ok (.goto 23, 3) := by decide +kernel
theorem dX6_spreadTo_89 : decode cX6_spreadTo 89 = .ok (.lload_n 3, 1) := by decide +kernel
theorem dX6_spreadTo_90 : decode cX6_spreadTo 90 = .ok (.lconst 1, 1) := by decide +kernel
theorem dX6_spreadTo_91 : decode cX6_spreadTo 91 = .ok (.iload 6, 2) := by decide +kernel
theorem dX6_spreadTo_93 : decode cX6_spreadTo 93 = .ok (.lshl, 1) := by decide +kernel
theorem dX6_spreadTo_94 : decode cX6_spreadTo 94 = .ok (.lor, 1) := by decide +kernel
theorem dX6_spreadTo_95 : decode cX6_spreadTo 95 = .ok (.lstore_n 3, 1) := by decide +kernel
theorem dX6_spreadTo_96 : decode cX6_spreadTo 96 = .ok (.aload_n 0, 1) := by decide +kernel
theorem dX6_spreadTo_97 : decode cX6_spreadTo 97 = .ok (.aload_n 1, 1) := by decide +kernel
theorem dX6_spreadTo_98 : decode cX6_spreadTo 98 = .ok (.iload 6, 2) := by decide +kernel
theorem dX6_spreadTo_100 : decode cX6_spreadTo 100 = .ok (.invokevirtual 32, 3) := by decide +kernel
theorem dX6_spreadTo_103 : decode cX6_spreadTo 103 = .ok (.iinc 5 1, 3) := by decide +kernel
theorem dX6_spreadTo_106 : decode cX6_spreadTo 106 = .ok (.goto (-39), 3) := by decide +kernel
theorem dX6_spreadTo_109 : decode cX6_spreadTo 109 = .ok (.return_, 1) := by decide +kernel
theorem dX6_nearest_0 : decode cX6_nearest 0 = .ok (.iconst (-1), 1) := by decide +kernel
theorem dX6_nearest_1 : decode cX6_nearest 1 = .ok (.istore_n 3, 1) := by decide +kernel
theorem dX6_nearest_2 : decode cX6_nearest 2 = .ok (.iconst 0, 1) := by decide +kernel
theorem dX6_nearest_3 : decode cX6_nearest 3 = .ok (.istore 4, 2) := by decide +kernel
theorem dX6_nearest_5 : decode cX6_nearest 5 = .ok (.iload 4, 2) := by decide +kernel
theorem dX6_nearest_7 : decode cX6_nearest 7 = .ok (.bipush 36, 2) := by decide +kernel
theorem dX6_nearest_9 : decode cX6_nearest 9 = .ok (.if_icmp .ge 43, 3) := by decide +kernel
theorem dX6_nearest_12 : decode cX6_nearest 12 = .ok (.lload_n 1, 1) := by decide +kernel
theorem dX6_nearest_13 : decode cX6_nearest 13 = .ok (.iload 4, 2) := by decide +kernel
theorem dX6_nearest_15 : decode cX6_nearest 15 = .ok (.lushr, 1) := by decide +kernel
theorem dX6_nearest_16 : decode cX6_nearest 16 = .ok (.lconst 1, 1) := by decide +kernel
theorem dX6_nearest_17 : decode cX6_nearest 17 = .ok (.land, 1) := by decide +kernel
theorem dX6_nearest_18 : decode cX6_nearest 18 = .ok (.lconst 0, 1) := by decide +kernel
theorem dX6_nearest_19 : decode cX6_nearest 19 = .ok (.lcmp, 1) := by decide +kernel
theorem dX6_nearest_20 : decode cX6_nearest 20 = .ok (.ifCond .ne 26, 3) := by decide +kernel
theorem dX6_nearest_23 : decode cX6_nearest 23 = .ok (.iload_n 3, 1) := by decide +kernel
theorem dX6_nearest_24 : decode cX6_nearest 24 = .ok (.ifCond .lt 19, 3) := by decide +kernel
theorem dX6_nearest_27 : decode cX6_nearest 27 = .ok (.aload_n 0, 1) := by decide +kernel
theorem dX6_nearest_28 : decode cX6_nearest 28 = .ok (.getfield 9, 3) := by decide +kernel
theorem dX6_nearest_31 : decode cX6_nearest 31 = .ok (.iload 4, 2) := by decide +kernel
theorem dX6_nearest_33 : decode cX6_nearest 33 = .ok (.iaload, 1) := by decide +kernel
theorem dX6_nearest_34 : decode cX6_nearest 34 = .ok (.aload_n 0, 1) := by decide +kernel
theorem dX6_nearest_35 : decode cX6_nearest 35 = .ok (.getfield 9, 3) := by decide +kernel
theorem dX6_nearest_38 : decode cX6_nearest 38 = .ok (.iload_n 3, 1) := by decide +kernel
theorem dX6_nearest_39 : decode cX6_nearest 39 = .ok (.iaload, 1) := by decide +kernel
theorem dX6_nearest_40 : decode cX6_nearest 40 = .ok (.if_icmp .ge 6, 3) := by decide +kernel
theorem dX6_nearest_43 : decode cX6_nearest 43 = .ok (.iload 4, 2) := by decide +kernel
theorem dX6_nearest_45 : decode cX6_nearest 45 = .ok (.istore_n 3, 1) := by decide +kernel
theorem dX6_nearest_46 : decode cX6_nearest 46 = .ok (.iinc 4 1, 3) := by decide +kernel
theorem dX6_nearest_49 : decode cX6_nearest 49 = .ok (.goto (-44), 3) := by decide +kernel
theorem dX6_nearest_52 : decode cX6_nearest 52 = .ok (.iload_n 3, 1) := by decide +kernel
theorem dX6_nearest_53 : decode cX6_nearest 53 = .ok (.ireturn, 1) := by decide +kernel
theorem dX6_spreadFrom_0 : decode cX6_spreadFrom 0 = .ok (.iconst 1, 1) := by decide +kernel
theorem dX6_spreadFrom_1 : decode cX6_spreadFrom 1 = .ok (.istore_n 3, 1) := by decide +kernel
theorem dX6_spreadFrom_2 : decode cX6_spreadFrom 2 = .ok (.iload_n 3, 1) := by decide +kernel
theorem dX6_spreadFrom_3 : decode cX6_spreadFrom 3 = .ok (.iconst 4, 1) := by decide +kernel
theorem dX6_spreadFrom_4 : decode cX6_spreadFrom 4 = .ok (.if_icmp .gt 52, 3) := by decide +kernel
theorem dX6_spreadFrom_7 : decode cX6_spreadFrom 7 = .ok (.iload_n 2, 1) := by decide +kernel
theorem dX6_spreadFrom_8 : decode cX6_spreadFrom 8 = .ok (.iload_n 3, 1) := by decide +kernel
theorem dX6_spreadFrom_9 : decode cX6_spreadFrom 9 = .ok (.invokestatic 36, 3) := by decide +kernel
theorem dX6_spreadFrom_12 : decode cX6_spreadFrom 12 = .ok (.istore 4, 2) := by decide +kernel
theorem dX6_spreadFrom_14 : decode cX6_spreadFrom 14 = .ok (.iload 4, 2) := by decide +kernel
theorem dX6_spreadFrom_16 : decode cX6_spreadFrom 16 = .ok (.ifCond .lt 34, 3) := by decide +kernel
theorem dX6_spreadFrom_19 : decode cX6_spreadFrom 19 = .ok (.aload_n 0, 1) := by decide +kernel
theorem dX6_spreadFrom_20 : decode cX6_spreadFrom 20 = .ok (.getfield 9, 3) := by decide +kernel
theorem dX6_spreadFrom_23 : decode cX6_spreadFrom 23 = .ok (.iload 4, 2) := by decide +kernel
theorem dX6_spreadFrom_25 : decode cX6_spreadFrom 25 = .ok (.aload_n 0, 1) := by decide +kernel
theorem dX6_spreadFrom_26 : decode cX6_spreadFrom 26 = .ok (.getfield 9, 3) := by decide +kernel
theorem dX6_spreadFrom_29 : decode cX6_spreadFrom 29 = .ok (.iload 4, 2) := by decide +kernel
theorem dX6_spreadFrom_31 : decode cX6_spreadFrom 31 = .ok (.iaload, 1) := by decide +kernel
theorem dX6_spreadFrom_32 : decode cX6_spreadFrom 32 = .ok (.aload_n 1, 1) := by decide +kernel
theorem dX6_spreadFrom_33 : decode cX6_spreadFrom 33 = .ok (.iload 4, 2) := by decide +kernel
theorem dX6_spreadFrom_35 : decode cX6_spreadFrom 35 = .ok (.iload_n 2, 1) := by decide +kernel
theorem dX6_spreadFrom_36 : decode cX6_spreadFrom 36 = .ok (.invokevirtual 40, 3) := by decide +kernel
theorem dX6_spreadFrom_39 : decode cX6_spreadFrom 39 = .ok (.aload_n 0, 1) := by decide +kernel
theorem dX6_spreadFrom_40 : decode cX6_spreadFrom 40 = .ok (.getfield 9, 3) := by decide +kernel
theorem dX6_spreadFrom_43 : decode cX6_spreadFrom 43 = .ok (.iload_n 2, 1) := by decide +kernel
theorem dX6_spreadFrom_44 : decode cX6_spreadFrom 44 = .ok (.iaload, 1) := by decide +kernel
theorem dX6_spreadFrom_45 : decode cX6_spreadFrom 45 = .ok (.iadd, 1) := by decide +kernel
theorem dX6_spreadFrom_46 : decode cX6_spreadFrom 46 = .ok (.invokestatic 43, 3) := by decide +kernel
theorem dX6_spreadFrom_49 : decode cX6_spreadFrom 49 = .ok (.iastore, 1) := by decide +kernel
theorem dX6_spreadFrom_50 : decode cX6_spreadFrom 50 = .ok (.iinc 3 1, 3) := by decide +kernel
theorem dX6_spreadFrom_53 : decode cX6_spreadFrom 53 = .ok (.goto (-51), 3) := by decide +kernel
theorem dX6_spreadFrom_56 : decode cX6_spreadFrom 56 = .ok (.return_, 1) := by decide +kernel
theorem dX6_costFrom_0 : decode cX6_costFrom 0 = .ok (.iload_n 1, 1) := by decide +kernel
theorem dX6_costFrom_1 : decode cX6_costFrom 1 = .ok (.invokestatic 48, 3) := by decide +kernel
theorem dX6_costFrom_4 : decode cX6_costFrom 4 = .ok (.ifCond .eq 12, 3) := by decide +kernel
theorem dX6_costFrom_7 : decode cX6_costFrom 7 = .ok (.aload_n 0, 1) := by decide +kernel
theorem dX6_costFrom_8 : decode cX6_costFrom 8 = .ok (.getfield 9, 3) := by decide +kernel
theorem dX6_costFrom_11 : decode cX6_costFrom 11 = .ok (.iload_n 1, 1) := by decide +kernel
theorem dX6_costFrom_12 : decode cX6_costFrom 12 = .ok (.iaload, 1) := by decide +kernel
theorem dX6_costFrom_13 : decode cX6_costFrom 13 = .ok (.goto 5, 3) := by decide +kernel
theorem dX6_costFrom_16 : decode cX6_costFrom 16 = .ok (.ldc 27, 2) := by decide +kernel
theorem dX6_costFrom_18 : decode cX6_costFrom 18 = .ok (.ireturn, 1) := by decide +kernel
theorem dX6_firstFrom_0 : decode cX6_firstFrom 0 = .ok (.iconst 1, 1) := by decide +kernel
theorem dX6_firstFrom_1 : decode cX6_firstFrom 1 = .ok (.istore_n 3, 1) := by decide +kernel
theorem dX6_firstFrom_2 : decode cX6_firstFrom 2 = .ok (.iload_n 3, 1) := by decide +kernel
theorem dX6_firstFrom_3 : decode cX6_firstFrom 3 = .ok (.iconst 4, 1) := by decide +kernel
theorem dX6_firstFrom_4 : decode cX6_firstFrom 4 = .ok (.if_icmp .gt 46, 3) := by decide +kernel
theorem dX6_firstFrom_7 : decode cX6_firstFrom 7 = .ok (.iload_n 2, 1) := by decide +kernel
theorem dX6_firstFrom_8 : decode cX6_firstFrom 8 = .ok (.iload_n 3, 1) := by decide +kernel
theorem dX6_firstFrom_9 : decode cX6_firstFrom 9 = .ok (.invokestatic 36, 3) := by decide +kernel
theorem dX6_firstFrom_12 : decode cX6_firstFrom 12 = .ok (.istore 4, 2) := by decide +kernel
theorem dX6_firstFrom_14 : decode cX6_firstFrom 14 = .ok (.iload 4, 2) := by decide +kernel
theorem dX6_firstFrom_16 : decode cX6_firstFrom 16 = .ok (.ifCond .lt 28, 3) := by decide +kernel
theorem dX6_firstFrom_19 : decode cX6_firstFrom 19 = .ok (.aload_n 1, 1) := by decide +kernel
theorem dX6_firstFrom_20 : decode cX6_firstFrom 20 = .ok (.iload_n 2, 1) := by decide +kernel
theorem dX6_firstFrom_21 : decode cX6_firstFrom 21 = .ok (.iload 4, 2) := by decide +kernel
theorem dX6_firstFrom_23 : decode cX6_firstFrom 23 = .ok (.invokevirtual 40, 3) := by decide +kernel
theorem dX6_firstFrom_26 : decode cX6_firstFrom 26 = .ok (.aload_n 0, 1) := by decide +kernel
theorem dX6_firstFrom_27 : decode cX6_firstFrom 27 = .ok (.iload 4, 2) := by decide +kernel
theorem dX6_firstFrom_29 : decode cX6_firstFrom 29 = .ok (.invokevirtual 52, 3) := by decide +kernel
theorem dX6_firstFrom_32 : decode cX6_firstFrom 32 = .ok (.iadd, 1) := by decide +kernel
theorem dX6_firstFrom_33 : decode cX6_firstFrom 33 = .ok (.aload_n 0, 1) := by decide +kernel
theorem dX6_firstFrom_34 : decode cX6_firstFrom 34 = .ok (.iload_n 2, 1) := by decide +kernel
theorem dX6_firstFrom_35 : decode cX6_firstFrom 35 = .ok (.invokevirtual 52, 3) := by decide +kernel
theorem dX6_firstFrom_38 : decode cX6_firstFrom 38 = .ok (.if_icmp .ne 6, 3) := by decide +kernel
theorem dX6_firstFrom_41 : decode cX6_firstFrom 41 = .ok (.iload 4, 2) := by decide +kernel
theorem dX6_firstFrom_43 : decode cX6_firstFrom 43 = .ok (.ireturn, 1) := by decide +kernel
theorem dX6_firstFrom_44 : decode cX6_firstFrom 44 = .ok (.iinc 3 1, 3) := by decide +kernel
theorem dX6_firstFrom_47 : decode cX6_firstFrom 47 = .ok (.goto (-45), 3) := by decide +kernel
theorem dX6_firstFrom_50 : decode cX6_firstFrom 50 = .ok (.iconst (-1), 1) := by decide +kernel
theorem dX6_firstFrom_51 : decode cX6_firstFrom 51 = .ok (.ireturn, 1) := by decide +kernel
theorem dX6_planRound_0 : decode cX6_planRound 0 = .ok (.aload_n 0, 1) := by decide +kernel
theorem dX6_planRound_1 : decode cX6_planRound 1 = .ok (.aload_n 1, 1) := by decide +kernel
theorem dX6_planRound_2 : decode cX6_planRound 2 = .ok (.aload_n 2, 1) := by decide +kernel
theorem dX6_planRound_3 : decode cX6_planRound 3 = .ok (.invokevirtual 56, 3) := by decide +kernel
theorem dX6_planRound_6 : decode cX6_planRound 6 = .ok (.ifCond .ne 5, 3) := by decide +kernel
theorem dX6_planRound_9 : decode cX6_planRound 9 = .ok (.iconst 0, 1) := by decide +kernel
theorem dX6_planRound_10 : decode cX6_planRound 10 = .ok (.ireturn, 1) := by decide +kernel
theorem dX6_planRound_11 : decode cX6_planRound 11 = .ok (.iconst 0, 1) := by decide +kernel
theorem dX6_planRound_12 : decode cX6_planRound 12 = .ok (.istore_n 3, 1) := by decide +kernel
theorem dX6_planRound_13 : decode cX6_planRound 13 = .ok (.iload_n 3, 1) := by decide +kernel
theorem dX6_planRound_14 : decode cX6_planRound 14 = .ok (.aload_n 0, 1) := by decide +kernel
theorem dX6_planRound_15 : decode cX6_planRound 15 = .ok (.getfield 60, 3) := by decide +kernel
theorem dX6_planRound_18 : decode cX6_planRound 18 = .ok (.if_icmp .ge 74, 3) := by decide +kernel
theorem dX6_planRound_21 : decode cX6_planRound 21 = .ok (.aload_n 0, 1) := by decide +kernel
theorem dX6_planRound_22 : decode cX6_planRound 22 = .ok (.aload_n 1, 1) := by decide +kernel
theorem dX6_planRound_23 : decode cX6_planRound 23 = .ok (.aload_n 0, 1) := by decide +kernel
theorem dX6_planRound_24 : decode cX6_planRound 24 = .ok (.getfield 15, 3) := by decide +kernel
theorem dX6_planRound_27 : decode cX6_planRound 27 = .ok (.iload_n 3, 1) := by decide +kernel
theorem dX6_planRound_28 : decode cX6_planRound 28 = .ok (.iaload, 1) := by decide +kernel
theorem dX6_planRound_29 : decode cX6_planRound 29 = .ok (.invokevirtual 64, 3) := by decide +kernel
theorem dX6_planRound_32 : decode cX6_planRound 32 = .ok (.aload_n 0, 1) := by decide +kernel
theorem dX6_planRound_33 : decode cX6_planRound 33 = .ok (.getfield 18, 3) := by decide +kernel
theorem dX6_planRound_36 : decode cX6_planRound 36 = .ok (.iload_n 3, 1) := by decide +kernel
theorem dX6_planRound_37 : decode cX6_planRound 37 = .ok (.aload_n 0, 1) := by decide +kernel
theorem dX6_planRound_38 : decode cX6_planRound 38 = .ok (.aload_n 2, 1) := by decide +kernel
theorem dX6_planRound_39 : decode cX6_planRound 39 = .ok (.getfield 67, 3) := by decide +kernel
theorem dX6_planRound_42 : decode cX6_planRound 42 = .ok (.invokevirtual 52, 3) := by decide +kernel
theorem dX6_planRound_45 : decode cX6_planRound 45 = .ok (.iastore, 1) := by decide +kernel
theorem dX6_planRound_46 : decode cX6_planRound 46 = .ok (.iconst 0, 1) := by decide +kernel
theorem dX6_planRound_47 : decode cX6_planRound 47 = .ok (.istore 4, 2) := by decide +kernel
theorem dX6_planRound_49 : decode cX6_planRound 49 = .ok (.iload 4, 2) := by decide +kernel
theorem dX6_planRound_51 : decode cX6_planRound 51 = .ok (.aload_n 0, 1) := by decide +kernel
theorem dX6_planRound_52 : decode cX6_planRound 52 = .ok (.getfield 60, 3) := by decide +kernel
theorem dX6_planRound_55 : decode cX6_planRound 55 = .ok (.if_icmp .ge 31, 3) := by decide +kernel
theorem dX6_planRound_58 : decode cX6_planRound 58 = .ok (.aload_n 0, 1) := by decide +kernel
theorem dX6_planRound_59 : decode cX6_planRound 59 = .ok (.getfield 21, 3) := by decide +kernel
theorem dX6_planRound_62 : decode cX6_planRound 62 = .ok (.iload 4, 2) := by decide +kernel
theorem dX6_planRound_64 : decode cX6_planRound 64 = .ok (.iconst 5, 1) := by decide +kernel
theorem dX6_planRound_65 : decode cX6_planRound 65 = .ok (.imul, 1) := by decide +kernel
theorem dX6_planRound_66 : decode cX6_planRound 66 = .ok (.iload_n 3, 1) := by decide +kernel
theorem dX6_planRound_67 : decode cX6_planRound 67 = .ok (.iadd, 1) := by decide +kernel
theorem dX6_planRound_68 : decode cX6_planRound 68 = .ok (.aload_n 0, 1) := by decide +kernel
theorem dX6_planRound_69 : decode cX6_planRound 69 = .ok (.aload_n 0, 1) := by decide +kernel
theorem dX6_planRound_70 : decode cX6_planRound 70 = .ok (.getfield 15, 3) := by decide +kernel
theorem dX6_planRound_73 : decode cX6_planRound 73 = .ok (.iload 4, 2) := by decide +kernel
theorem dX6_planRound_75 : decode cX6_planRound 75 = .ok (.iaload, 1) := by decide +kernel
theorem dX6_planRound_76 : decode cX6_planRound 76 = .ok (.invokevirtual 52, 3) := by decide +kernel
theorem dX6_planRound_79 : decode cX6_planRound 79 = .ok (.iastore, 1) := by decide +kernel
theorem dX6_planRound_80 : decode cX6_planRound 80 = .ok (.iinc 4 1, 3) := by decide +kernel
theorem dX6_planRound_83 : decode cX6_planRound 83 = .ok (.goto (-34), 3) := by decide +kernel
theorem dX6_planRound_86 : decode cX6_planRound 86 = .ok (.iinc 3 1, 3) := by decide +kernel
theorem dX6_planRound_89 : decode cX6_planRound 89 = .ok (.goto (-76), 3) := by decide +kernel
theorem dX6_planRound_92 : decode cX6_planRound 92 = .ok (.aload_n 0, 1) := by decide +kernel
theorem dX6_planRound_93 : decode cX6_planRound 93 = .ok (.aload_n 1, 1) := by decide +kernel
theorem dX6_planRound_94 : decode cX6_planRound 94 = .ok (.iconst (-1), 1) := by decide +kernel
theorem dX6_planRound_95 : decode cX6_planRound 95 = .ok (.invokevirtual 64, 3) := by decide +kernel
theorem dX6_planRound_98 : decode cX6_planRound 98 = .ok (.iconst 0, 1) := by decide +kernel
theorem dX6_planRound_99 : decode cX6_planRound 99 = .ok (.istore_n 3, 1) := by decide +kernel
theorem dX6_planRound_100 : decode cX6_planRound 100 = .ok (.iload_n 3, 1) := by decide +kernel
theorem dX6_planRound_101 : decode cX6_planRound 101 = .ok (.iconst 1, 1) := by decide +kernel
theorem dX6_planRound_102 : decode cX6_planRound 102 = .ok (.aload_n 0, 1) := by decide +kernel
theorem dX6_planRound_103 : decode cX6_planRound 103 = .ok (.getfield 60, 3) := by decide +kernel
theorem dX6_planRound_106 : decode cX6_planRound 106 = .ok (.ishl, 1) := by decide +kernel
theorem dX6_planRound_107 : decode cX6_planRound 107 = .ok (.if_icmp .ge 45, 3) := by decide +kernel
theorem dX6_planRound_110 : decode cX6_planRound 110 = .ok (.iconst 0, 1) := by decide +kernel
theorem dX6_planRound_111 : decode cX6_planRound 111 = .ok (.istore 4, 2) := by decide +kernel
theorem dX6_planRound_113 : decode cX6_planRound 113 = .ok (.iload 4, 2) := by decide +kernel
theorem dX6_planRound_115 : decode cX6_planRound 115 = .ok (.aload_n 0, 1) := by decide +kernel
theorem dX6_planRound_116 : decode cX6_planRound 116 = .ok (.getfield 60, 3) := by decide +kernel
theorem dX6_planRound_119 : decode cX6_planRound 119 = .ok (.if_icmp .ge 27, 3) := by decide +kernel
theorem dX6_planRound_122 : decode cX6_planRound 122 = .ok (.aload_n 0, 1) := by decide +kernel
theorem dX6_planRound_123 : decode cX6_planRound 123 = .ok (.getfield 24, 3) := by decide +kernel
theorem dX6_planRound_126 : decode cX6_planRound 126 = .ok (.iload_n 3, 1) := by decide +kernel
theorem dX6_planRound_127 : decode cX6_planRound 127 = .ok (.iconst 5, 1) := by decide +kernel
theorem dX6_planRound_128 : decode cX6_planRound 128 = .ok (.imul, 1) := by decide +kernel
theorem dX6_planRound_129 : decode cX6_planRound 129 = .ok (.iload 4, 2) := by decide +kernel
theorem dX6_planRound_131 : decode cX6_planRound 131 = .ok (.iadd, 1) := by decide +kernel
theorem dX6_planRound_132 : decode cX6_planRound 132 = .ok (.aload_n 0, 1) := by decide +kernel
theorem dX6_planRound_133 : decode cX6_planRound 133 = .ok (.iload_n 3, 1) := by decide +kernel
theorem dX6_planRound_134 : decode cX6_planRound 134 = .ok (.iload 4, 2) := by decide +kernel
theorem dX6_planRound_136 : decode cX6_planRound 136 = .ok (.invokevirtual 72, 3) := by decide +kernel
theorem dX6_planRound_139 : decode cX6_planRound 139 = .ok (.iastore, 1) := by decide +kernel
theorem dX6_planRound_140 : decode cX6_planRound 140 = .ok (.iinc 4 1, 3) := by decide +kernel
theorem dX6_planRound_143 : decode cX6_planRound 143 = .ok (.goto (-30), 3) := by decide +kernel
theorem dX6_planRound_146 : decode cX6_planRound 146 = .ok (.iinc 3 1, 3) := by decide +kernel
theorem dX6_planRound_149 : decode cX6_planRound 149 = .ok (.goto (-49), 3) := by decide +kernel
theorem dX6_planRound_152 : decode cX6_planRound 152 = .ok (.aload_n 0, 1) := by decide +kernel
theorem dX6_planRound_153 : decode cX6_planRound 153 = .ok (.aload_n 0, 1) := by decide +kernel
theorem dX6_planRound_154 : decode cX6_planRound 154 = .ok (.aload_n 2, 1) := by decide +kernel
theorem dX6_planRound_155 : decode cX6_planRound 155 = .ok (.getfield 67, 3) := by decide +kernel
theorem dX6_planRound_158 : decode cX6_planRound 158 = .ok (.invokevirtual 52, 3) := by decide +kernel
theorem dX6_planRound_161 : decode cX6_planRound 161 = .ok (.invokevirtual 75, 3) := by decide +kernel
theorem dX6_planRound_164 : decode cX6_planRound 164 = .ok (.iconst 1, 1) := by decide +kernel
theorem dX6_planRound_165 : decode cX6_planRound 165 = .ok (.ireturn, 1) := by decide +kernel
theorem dX6_listStones_0 : decode cX6_listStones 0 = .ok (.aload_n 0, 1) := by decide +kernel
theorem dX6_listStones_1 : decode cX6_listStones 1 = .ok (.iconst 0, 1) := by decide +kernel
theorem dX6_listStones_2 : decode cX6_listStones 2 = .ok (.putfield 60, 3) := by decide +kernel
theorem dX6_listStones_5 : decode cX6_listStones 5 = .ok (.iconst 0, 1) := by decide +kernel
theorem dX6_listStones_6 : decode cX6_listStones 6 = .ok (.istore_n 3, 1) := by decide +kernel
theorem dX6_listStones_7 : decode cX6_listStones 7 = .ok (.iload_n 3, 1) := by decide +kernel
theorem dX6_listStones_8 : decode cX6_listStones 8 = .ok (.bipush 36, 2) := by decide +kernel
theorem dX6_listStones_10 : decode cX6_listStones 10 = .ok (.if_icmp .ge 58, 3) := by decide +kernel
theorem dX6_listStones_13 : decode cX6_listStones 13 = .ok (.aload_n 1, 1) := by decide +kernel
theorem dX6_listStones_14 : decode cX6_listStones 14 = .ok (.iload_n 3, 1) := by decide +kernel
theorem dX6_listStones_15 : decode cX6_listStones 15 = .ok (.invokevirtual 79, 3) := by decide +kernel
theorem dX6_listStones_18 : decode cX6_listStones 18 = .ok (.ifCond .eq 44, 3) := by decide +kernel
theorem dX6_listStones_21 : decode cX6_listStones 21 = .ok (.aload_n 2, 1) := by decide +kernel
theorem dX6_listStones_22 : decode cX6_listStones 22 = .ok (.iload_n 3, 1) := by decide +kernel
theorem dX6_listStones_23 : decode cX6_listStones 23 = .ok (.invokevirtual 82, 3) := by decide +kernel
theorem dX6_listStones_26 : decode cX6_listStones 26 = .ok (.ifCond .eq 6, 3) := by decide +kernel
theorem dX6_listStones_29 : decode cX6_listStones 29 = .ok (.goto 33, 3) := by decide +kernel
theorem dX6_listStones_32 : decode cX6_listStones 32 = .ok (.aload_n 0, 1) := by decide +kernel
theorem dX6_listStones_33 : decode cX6_listStones 33 = .ok (.getfield 60, 3) := by decide +kernel
theorem dX6_listStones_36 : decode cX6_listStones 36 = .ok (.iconst 5, 1) := by decide +kernel
theorem dX6_listStones_37 : decode cX6_listStones 37 = .ok (.if_icmp .lt 5, 3) := by decide +kernel
theorem dX6_listStones_40 : decode cX6_listStones 40 = .ok (.iconst 0, 1) := by decide +kernel
theorem dX6_listStones_41 : decode cX6_listStones 41 = .ok (.ireturn, 1) := by decide +kernel
theorem dX6_listStones_42 : decode cX6_listStones 42 = .ok (.aload_n 0, 1) := by decide +kernel
theorem dX6_listStones_43 : decode cX6_listStones 43 = .ok (.getfield 15, 3) := by decide +kernel
theorem dX6_listStones_46 : decode cX6_listStones 46 = .ok (.aload_n 0, 1) := by decide +kernel
theorem dX6_listStones_47 : decode cX6_listStones 47 = .ok (.getfield 60, 3) := by decide +kernel
theorem dX6_listStones_50 : decode cX6_listStones 50 = .ok (.iload_n 3, 1) := by decide +kernel
theorem dX6_listStones_51 : decode cX6_listStones 51 = .ok (.iastore, 1) := by decide +kernel
theorem dX6_listStones_52 : decode cX6_listStones 52 = .ok (.aload_n 0, 1) := by decide +kernel
theorem dX6_listStones_53 : decode cX6_listStones 53 = .ok (.dup, 1) := by decide +kernel
theorem dX6_listStones_54 : decode cX6_listStones 54 = .ok (.getfield 60, 3) := by decide +kernel
theorem dX6_listStones_57 : decode cX6_listStones 57 = .ok (.iconst 1, 1) := by decide +kernel
theorem dX6_listStones_58 : decode cX6_listStones 58 = .ok (.iadd, 1) := by decide +kernel
theorem dX6_listStones_59 : decode cX6_listStones 59 = .ok (.putfield 60, 3) := by decide +kernel
theorem dX6_listStones_62 : decode cX6_listStones 62 = .ok (.iinc 3 1, 3) := by decide +kernel
theorem dX6_listStones_65 : decode cX6_listStones 65 = .ok (.goto (-58), 3) := by decide +kernel
theorem dX6_listStones_68 : decode cX6_listStones 68 = .ok (.iconst 1, 1) := by decide +kernel
theorem dX6_listStones_69 : decode cX6_listStones 69 = .ok (.ireturn, 1) := by decide +kernel
theorem dX6_leastRest_0 : decode cX6_leastRest 0 = .ok (.iload_n 1, 1) := by decide +kernel
theorem dX6_leastRest_1 : decode cX6_leastRest 1 = .ok (.ifCond .ne 14, 3) := by decide +kernel
theorem dX6_leastRest_4 : decode cX6_leastRest 4 = .ok (.aload_n 0, 1) := by decide +kernel
theorem dX6_leastRest_5 : decode cX6_leastRest 5 = .ok (.aload_n 0, 1) := by decide +kernel
theorem dX6_leastRest_6 : decode cX6_leastRest 6 = .ok (.getfield 15, 3) := by decide +kernel
theorem dX6_leastRest_9 : decode cX6_leastRest 9 = .ok (.iload_n 2, 1) := by decide +kernel
theorem dX6_leastRest_10 : decode cX6_leastRest 10 = .ok (.iaload, 1) := by decide +kernel
theorem dX6_leastRest_11 : decode cX6_leastRest 11 = .ok (.invokevirtual 52, 3) := by decide +kernel
theorem dX6_leastRest_14 : decode cX6_leastRest 14 = .ok (.ireturn, 1) := by decide +kernel
theorem dX6_leastRest_15 : decode cX6_leastRest 15 = .ok (.ldc 27, 2) := by decide +kernel
theorem dX6_leastRest_17 : decode cX6_leastRest 17 = .ok (.istore_n 3, 1) := by decide +kernel
theorem dX6_leastRest_18 : decode cX6_leastRest 18 = .ok (.iconst 0, 1) := by decide +kernel
theorem dX6_leastRest_19 : decode cX6_leastRest 19 = .ok (.istore 4, 2) := by decide +kernel
theorem dX6_leastRest_21 : decode cX6_leastRest 21 = .ok (.iload 4, 2) := by decide +kernel
theorem dX6_leastRest_23 : decode cX6_leastRest 23 = .ok (.aload_n 0, 1) := by decide +kernel
theorem dX6_leastRest_24 : decode cX6_leastRest 24 = .ok (.getfield 60, 3) := by decide +kernel
theorem dX6_leastRest_27 : decode cX6_leastRest 27 = .ok (.if_icmp .ge 55, 3) := by decide +kernel
theorem dX6_leastRest_30 : decode cX6_leastRest 30 = .ok (.iload_n 1, 1) := by decide +kernel
theorem dX6_leastRest_31 : decode cX6_leastRest 31 = .ok (.iload 4, 2) := by decide +kernel
theorem dX6_leastRest_33 : decode cX6_leastRest 33 = .ok (.iushr, 1) := by decide +kernel
theorem dX6_leastRest_34 : decode cX6_leastRest 34 = .ok (.iconst 1, 1) := by decide +kernel
theorem dX6_leastRest_35 : decode cX6_leastRest 35 = .ok (.iand, 1) := by decide +kernel
theorem dX6_leastRest_36 : decode cX6_leastRest 36 = .ok (.ifCond .eq 40, 3) := by decide +kernel
theorem dX6_leastRest_39 : decode cX6_leastRest 39 = .ok (.aload_n 0, 1) := by decide +kernel
theorem dX6_leastRest_40 : decode cX6_leastRest 40 = .ok (.getfield 24, 3) := by decide +kernel
theorem dX6_leastRest_43 : decode cX6_leastRest 43 = .ok (.iload_n 1, 1) := by decide +kernel
theorem dX6_leastRest_44 : decode cX6_leastRest 44 = .ok (.iconst 1, 1) := by decide +kernel
theorem dX6_leastRest_45 : decode cX6_leastRest 45 = .ok (.iload 4, 2) := by decide +kernel
theorem dX6_leastRest_47 : decode cX6_leastRest 47 = .ok (.ishl, 1) := by decide +kernel
theorem dX6_leastRest_48 : decode cX6_leastRest 48 = .ok (.ixor, 1) := by decide +kernel
theorem dX6_leastRest_49 : decode cX6_leastRest 49 = .ok (.iconst 5, 1) := by decide +kernel
theorem dX6_leastRest_50 : decode cX6_leastRest 50 = .ok (.imul, 1) := by decide +kernel
theorem dX6_leastRest_51 : decode cX6_leastRest 51 = .ok (.iload 4, 2) := by decide +kernel
theorem dX6_leastRest_53 : decode cX6_leastRest 53 = .ok (.iadd, 1) := by decide +kernel
theorem dX6_leastRest_54 : decode cX6_leastRest 54 = .ok (.iaload, 1) := by decide +kernel
theorem dX6_leastRest_55 : decode cX6_leastRest 55 = .ok (.istore 5, 2) := by decide +kernel
theorem dX6_leastRest_57 : decode cX6_leastRest 57 = .ok (.iload_n 3, 1) := by decide +kernel
theorem dX6_leastRest_58 : decode cX6_leastRest 58 = .ok (.aload_n 0, 1) := by decide +kernel
theorem dX6_leastRest_59 : decode cX6_leastRest 59 = .ok (.getfield 21, 3) := by decide +kernel
theorem dX6_leastRest_62 : decode cX6_leastRest 62 = .ok (.iload_n 2, 1) := by decide +kernel
theorem dX6_leastRest_63 : decode cX6_leastRest 63 = .ok (.iconst 5, 1) := by decide +kernel
theorem dX6_leastRest_64 : decode cX6_leastRest 64 = .ok (.imul, 1) := by decide +kernel
theorem dX6_leastRest_65 : decode cX6_leastRest 65 = .ok (.iload 4, 2) := by decide +kernel
theorem dX6_leastRest_67 : decode cX6_leastRest 67 = .ok (.iadd, 1) := by decide +kernel
theorem dX6_leastRest_68 : decode cX6_leastRest 68 = .ok (.iaload, 1) := by decide +kernel
theorem dX6_leastRest_69 : decode cX6_leastRest 69 = .ok (.iload 5, 2) := by decide +kernel
theorem dX6_leastRest_71 : decode cX6_leastRest 71 = .ok (.iadd, 1) := by decide +kernel
theorem dX6_leastRest_72 : decode cX6_leastRest 72 = .ok (.invokestatic 43, 3) := by decide +kernel
theorem dX6_leastRest_75 : decode cX6_leastRest 75 = .ok (.istore_n 3, 1) := by decide +kernel
theorem dX6_leastRest_76 : decode cX6_leastRest 76 = .ok (.iinc 4 1, 3) := by decide +kernel
theorem dX6_leastRest_79 : decode cX6_leastRest 79 = .ok (.goto (-58), 3) := by decide +kernel
theorem dX6_leastRest_82 : decode cX6_leastRest 82 = .ok (.iload_n 3, 1) := by decide +kernel
theorem dX6_leastRest_83 : decode cX6_leastRest 83 = .ok (.ireturn, 1) := by decide +kernel
theorem dX6_chooseFirst_0 : decode cX6_chooseFirst 0 = .ok (.aload_n 0, 1) := by decide +kernel
theorem dX6_chooseFirst_1 : decode cX6_chooseFirst 1 = .ok (.aload_n 0, 1) := by decide +kernel
theorem dX6_chooseFirst_2 : decode cX6_chooseFirst 2 = .ok (.getfield 60, 3) := by decide +kernel
theorem dX6_chooseFirst_5 : decode cX6_chooseFirst 5 = .ok (.ifCond .ne 7, 3) := by decide +kernel
theorem dX6_chooseFirst_8 : decode cX6_chooseFirst 8 = .ok (.iload_n 1, 1) := by decide +kernel
theorem dX6_chooseFirst_9 : decode cX6_chooseFirst 9 = .ok (.goto 5, 3) := by decide +kernel
theorem dX6_chooseFirst_12 : decode cX6_chooseFirst 12 = .ok (.ldc 27, 2) := by decide +kernel
theorem dX6_chooseFirst_14 : decode cX6_chooseFirst 14 = .ok (.putfield 85, 3) := by decide +kernel
theorem dX6_chooseFirst_17 : decode cX6_chooseFirst 17 = .ok (.aload_n 0, 1) := by decide +kernel
theorem dX6_chooseFirst_18 : decode cX6_chooseFirst 18 = .ok (.iconst (-1), 1) := by decide +kernel
theorem dX6_chooseFirst_19 : decode cX6_chooseFirst 19 = .ok (.putfield 88, 3) := by decide +kernel
theorem dX6_chooseFirst_22 : decode cX6_chooseFirst 22 = .ok (.iconst 1, 1) := by decide +kernel
theorem dX6_chooseFirst_23 : decode cX6_chooseFirst 23 = .ok (.aload_n 0, 1) := by decide +kernel
theorem dX6_chooseFirst_24 : decode cX6_chooseFirst 24 = .ok (.getfield 60, 3) := by decide +kernel
theorem dX6_chooseFirst_27 : decode cX6_chooseFirst 27 = .ok (.ishl, 1) := by decide +kernel
theorem dX6_chooseFirst_28 : decode cX6_chooseFirst 28 = .ok (.iconst 1, 1) := by decide +kernel
theorem dX6_chooseFirst_29 : decode cX6_chooseFirst 29 = .ok (.isub, 1) := by decide +kernel
theorem dX6_chooseFirst_30 : decode cX6_chooseFirst 30 = .ok (.istore_n 2, 1) := by decide +kernel
theorem dX6_chooseFirst_31 : decode cX6_chooseFirst 31 = .ok (.iconst 0, 1) := by decide +kernel
theorem dX6_chooseFirst_32 : decode cX6_chooseFirst 32 = .ok (.istore_n 3, 1) := by decide +kernel
theorem dX6_chooseFirst_33 : decode cX6_chooseFirst 33 = .ok (.iload_n 3, 1) := by decide +kernel
theorem dX6_chooseFirst_34 : decode cX6_chooseFirst 34 = .ok (.aload_n 0, 1) := by decide +kernel
theorem dX6_chooseFirst_35 : decode cX6_chooseFirst 35 = .ok (.getfield 60, 3) := by decide +kernel
theorem dX6_chooseFirst_38 : decode cX6_chooseFirst 38 = .ok (.if_icmp .ge 57, 3) := by decide +kernel
theorem dX6_chooseFirst_41 : decode cX6_chooseFirst 41 = .ok (.aload_n 0, 1) := by decide +kernel
theorem dX6_chooseFirst_42 : decode cX6_chooseFirst 42 = .ok (.getfield 18, 3) := by decide +kernel
theorem dX6_chooseFirst_45 : decode cX6_chooseFirst 45 = .ok (.iload_n 3, 1) := by decide +kernel
theorem dX6_chooseFirst_46 : decode cX6_chooseFirst 46 = .ok (.iaload, 1) := by decide +kernel
theorem dX6_chooseFirst_47 : decode cX6_chooseFirst 47 = .ok (.aload_n 0, 1) := by decide +kernel
theorem dX6_chooseFirst_48 : decode cX6_chooseFirst 48 = .ok (.getfield 24, 3) := by decide +kernel
theorem dX6_chooseFirst_51 : decode cX6_chooseFirst 51 = .ok (.iload_n 2, 1) := by decide +kernel
theorem dX6_chooseFirst_52 : decode cX6_chooseFirst 52 = .ok (.iconst 1, 1) := by decide +kernel
theorem dX6_chooseFirst_53 : decode cX6_chooseFirst 53 = .ok (.iload_n 3, 1) := by decide +kernel
theorem dX6_chooseFirst_54 : decode cX6_chooseFirst 54 = .ok (.ishl, 1) := by decide +kernel
theorem dX6_chooseFirst_55 : decode cX6_chooseFirst 55 = .ok (.ixor, 1) := by decide +kernel
theorem dX6_chooseFirst_56 : decode cX6_chooseFirst 56 = .ok (.iconst 5, 1) := by decide +kernel
theorem dX6_chooseFirst_57 : decode cX6_chooseFirst 57 = .ok (.imul, 1) := by decide +kernel
theorem dX6_chooseFirst_58 : decode cX6_chooseFirst 58 = .ok (.iload_n 3, 1) := by decide +kernel
theorem dX6_chooseFirst_59 : decode cX6_chooseFirst 59 = .ok (.iadd, 1) := by decide +kernel
theorem dX6_chooseFirst_60 : decode cX6_chooseFirst 60 = .ok (.iaload, 1) := by decide +kernel
theorem dX6_chooseFirst_61 : decode cX6_chooseFirst 61 = .ok (.iadd, 1) := by decide +kernel
theorem dX6_chooseFirst_62 : decode cX6_chooseFirst 62 = .ok (.istore 4, 2) := by decide +kernel
theorem dX6_chooseFirst_64 : decode cX6_chooseFirst 64 = .ok (.iload 4, 2) := by decide +kernel
theorem dX6_chooseFirst_66 : decode cX6_chooseFirst 66 = .ok (.aload_n 0, 1) := by decide +kernel
theorem dX6_chooseFirst_67 : decode cX6_chooseFirst 67 = .ok (.getfield 85, 3) := by decide +kernel
theorem dX6_chooseFirst_70 : decode cX6_chooseFirst 70 = .ok (.if_icmp .ge 19, 3) := by decide +kernel
theorem dX6_chooseFirst_73 : decode cX6_chooseFirst 73 = .ok (.aload_n 0, 1) := by decide +kernel
theorem dX6_chooseFirst_74 : decode cX6_chooseFirst 74 = .ok (.iload 4, 2) := by decide +kernel
theorem dX6_chooseFirst_76 : decode cX6_chooseFirst 76 = .ok (.putfield 85, 3) := by decide +kernel
theorem dX6_chooseFirst_79 : decode cX6_chooseFirst 79 = .ok (.aload_n 0, 1) := by decide +kernel
theorem dX6_chooseFirst_80 : decode cX6_chooseFirst 80 = .ok (.aload_n 0, 1) := by decide +kernel
theorem dX6_chooseFirst_81 : decode cX6_chooseFirst 81 = .ok (.getfield 15, 3) := by decide +kernel
theorem dX6_chooseFirst_84 : decode cX6_chooseFirst 84 = .ok (.iload_n 3, 1) := by decide +kernel
theorem dX6_chooseFirst_85 : decode cX6_chooseFirst 85 = .ok (.iaload, 1) := by decide +kernel
theorem dX6_chooseFirst_86 : decode cX6_chooseFirst 86 = .ok (.putfield 88, 3) := by decide +kernel
theorem dX6_chooseFirst_89 : decode cX6_chooseFirst 89 = .ok (.iinc 3 1, 3) := by decide +kernel
theorem dX6_chooseFirst_92 : decode cX6_chooseFirst 92 = .ok (.goto (-59), 3) := by decide +kernel
theorem dX6_chooseFirst_95 : decode cX6_chooseFirst 95 = .ok (.return_, 1) := by decide +kernel
theorem dX7_init_0 : decode cX7_init 0 = .ok (.aload_n 0, 1) := by decide +kernel
theorem dX7_init_1 : decode cX7_init 1 = .ok (.invokespecial 1, 3) := by decide +kernel
theorem dX7_init_4 : decode cX7_init 4 = .ok (.aload_n 0, 1) := by decide +kernel
theorem dX7_init_5 : decode cX7_init 5 = .ok (.bipush 50, 2) := by decide +kernel
theorem dX7_init_7 : decode cX7_init 7 = .ok (.newarray .int, 2) := by decide +kernel
theorem dX7_init_9 : decode cX7_init 9 = .ok (.putfield 9, 3) := by decide +kernel
theorem dX7_init_12 : decode cX7_init 12 = .ok (.aload_n 0, 1) := by decide +kernel
theorem dX7_init_13 : decode cX7_init 13 = .ok (.bipush 24, 2) := by decide +kernel
theorem dX7_init_15 : decode cX7_init 15 = .ok (.newarray .int, 2) := by decide +kernel
theorem dX7_init_17 : decode cX7_init 17 = .ok (.putfield 13, 3) := by decide +kernel
theorem dX7_init_20 : decode cX7_init 20 = .ok (.return_, 1) := by decide +kernel
theorem dX7_isKind_0 : decode cX7_isKind 0 = .ok (.iload_n 0, 1) := by decide +kernel
theorem dX7_isKind_1 : decode cX7_isKind 1 = .ok (.ifCond .lt 13, 3) := by decide +kernel
theorem dX7_isKind_4 : decode cX7_isKind 4 = .ok (.iload_n 0, 1) := by decide +kernel
theorem dX7_isKind_5 : decode cX7_isKind 5 = .ok (.bipush 8, 2) := by decide +kernel
theorem dX7_isKind_7 : decode cX7_isKind 7 = .ok (.if_icmp .ge 7, 3) := by decide +kernel
theorem dX7_isKind_10 : decode cX7_isKind 10 = .ok (.iconst 1, 1) := by decide +kernel
theorem dX7_isKind_11 : decode cX7_isKind 11 = .ok (.goto 4, 3) := by decide +kernel
theorem dX7_isKind_14 : decode cX7_isKind 14 = .ok (.iconst 0, 1) := by decide +kernel
theorem dX7_isKind_15 : decode cX7_isKind 15 = .ok (.ireturn, 1) := by decide +kernel
theorem dX7_isUnder_0 : decode cX7_isUnder 0 = .ok (.iload_n 0, 1) := by decide +kernel
theorem dX7_isUnder_1 : decode cX7_isUnder 1 = .ok (.istore_n 2, 1) := by decide +kernel
theorem dX7_isUnder_2 : decode cX7_isUnder 2 = .ok (.iconst 0, 1) := by decide +kernel
theorem dX7_isUnder_3 : decode cX7_isUnder 3 = .ok (.istore_n 3, 1) := by decide +kernel
theorem dX7_isUnder_4 : decode cX7_isUnder 4 = .ok (.iload_n 3, 1) := by decide +kernel
theorem dX7_isUnder_5 : decode cX7_isUnder 5 = .ok (.bipush 8, 2) := by decide +kernel
theorem dX7_isUnder_7 : decode cX7_isUnder 7 = .ok (.if_icmp .ge 29, 3) := by decide +kernel
theorem dX7_isUnder_10 : decode cX7_isUnder 10 = .ok (.iload_n 2, 1) := by decide +kernel
theorem dX7_isUnder_11 : decode cX7_isUnder 11 = .ok (.invokestatic 16, 3) := by decide +kernel
theorem dX7_isUnder_14 : decode cX7_isUnder 14 = .ok (.ifCond .eq 22, 3) := by decide +kernel
theorem dX7_isUnder_17 : decode cX7_isUnder 17 = .ok (.iload_n 2, 1) := by decide +kernel
theorem dX7_isUnder_18 : decode cX7_isUnder 18 = .ok (.iload_n 1, 1) := by decide +kernel
theorem dX7_isUnder_19 : decode cX7_isUnder 19 = .ok (.if_icmp .ne 5, 3) := by decide +kernel
theorem dX7_isUnder_22 : decode cX7_isUnder 22 = .ok (.iconst 1, 1) := by decide +kernel
theorem dX7_isUnder_23 : decode cX7_isUnder 23 = .ok (.ireturn, 1) := by decide +kernel
theorem dX7_isUnder_24 : decode cX7_isUnder 24 = .ok (.getstatic 20, 3) := by decide +kernel
theorem dX7_isUnder_27 : decode cX7_isUnder 27 = .ok (.iload_n 2, 1) := by decide +kernel
theorem dX7_isUnder_28 : decode cX7_isUnder 28 = .ok (.iaload, 1) := by decide +kernel
theorem dX7_isUnder_29 : decode cX7_isUnder 29 = .ok (.istore_n 2, 1) := by decide +kernel
theorem dX7_isUnder_30 : decode cX7_isUnder 30 = .ok (.iinc 3 1, 3) := by decide +kernel
theorem dX7_isUnder_33 : decode cX7_isUnder 33 = .ok (.goto (-29), 3) := by decide +kernel
theorem dX7_isUnder_36 : decode cX7_isUnder 36 = .ok (.iconst 0, 1) := by decide +kernel
theorem dX7_isUnder_37 : decode cX7_isUnder 37 = .ok (.ireturn, 1) := by decide +kernel
theorem dX7_has_0 : decode cX7_has 0 = .ok (.iload_n 1, 1) := by decide +kernel
theorem dX7_has_1 : decode cX7_has 1 = .ok (.ifCond .lt 21, 3) := by decide +kernel
theorem dX7_has_4 : decode cX7_has 4 = .ok (.iload_n 1, 1) := by decide +kernel
theorem dX7_has_5 : decode cX7_has 5 = .ok (.aload_n 0, 1) := by decide +kernel
theorem dX7_has_6 : decode cX7_has 6 = .ok (.getfield 23, 3) := by decide +kernel
theorem dX7_has_9 : decode cX7_has 9 = .ok (.if_icmp .ge 13, 3) := by decide +kernel
theorem dX7_has_12 : decode cX7_has 12 = .ok (.iload_n 1, 1) := by decide +kernel
theorem dX7_has_13 : decode cX7_has 13 = .ok (.bipush 50, 2) := by decide +kernel
theorem dX7_has_15 : decode cX7_has 15 = .ok (.if_icmp .ge 7, 3) := by decide +kernel
theorem dX7_has_18 : decode cX7_has 18 = .ok (.iconst 1, 1) := by decide +kernel
theorem dX7_has_19 : decode cX7_has 19 = .ok (.goto 4, 3) := by decide +kernel
theorem dX7_has_22 : decode cX7_has 22 = .ok (.iconst 0, 1) := by decide +kernel
theorem dX7_has_23 : decode cX7_has 23 = .ok (.ireturn, 1) := by decide +kernel
theorem dX7_kindOf_0 : decode cX7_kindOf 0 = .ok (.aload_n 0, 1) := by decide +kernel
theorem dX7_kindOf_1 : decode cX7_kindOf 1 = .ok (.iload_n 1, 1) := by decide +kernel
theorem dX7_kindOf_2 : decode cX7_kindOf 2 = .ok (.invokevirtual 27, 3) := by decide +kernel
theorem dX7_kindOf_5 : decode cX7_kindOf 5 = .ok (.ifCond .eq 12, 3) := by decide +kernel
theorem dX7_kindOf_8 : decode cX7_kindOf 8 = .ok (.aload_n 0, 1) := by decide +kernel
theorem dX7_kindOf_9 : decode cX7_kindOf 9 = .ok (.getfield 9, 3) := by decide +kernel
theorem dX7_kindOf_12 : decode cX7_kindOf 12 = .ok (.iload_n 1, 1) := by decide +kernel
theorem dX7_kindOf_13 : decode cX7_kindOf 13 = .ok (.iaload, 1) := by decide +kernel
theorem dX7_kindOf_14 : decode cX7_kindOf 14 = .ok (.goto 4, 3) := by decide +kernel
theorem dX7_kindOf_17 : decode cX7_kindOf 17 = .ok (.iconst (-1), 1) := by decide +kernel
theorem dX7_kindOf_18 : decode cX7_kindOf 18 = .ok (.ireturn, 1) := by decide +kernel
theorem dX7_add_0 : decode cX7_add 0 = .ok (.aload_n 0, 1) := by decide +kernel
theorem dX7_add_1 : decode cX7_add 1 = .ok (.getfield 23, 3) := by decide +kernel
theorem dX7_add_4 : decode cX7_add 4 = .ok (.bipush 50, 2) := by decide +kernel
theorem dX7_add_6 : decode cX7_add 6 = .ok (.if_icmp .lt 5, 3) := by decide +kernel
theorem dX7_add_9 : decode cX7_add 9 = .ok (.iconst (-1), 1) := by decide +kernel
theorem dX7_add_10 : decode cX7_add 10 = .ok (.ireturn, 1) := by decide +kernel
theorem dX7_add_11 : decode cX7_add 11 = .ok (.aload_n 0, 1) := by decide +kernel
theorem dX7_add_12 : decode cX7_add 12 = .ok (.getfield 9, 3) := by decide +kernel
theorem dX7_add_15 : decode cX7_add 15 = .ok (.aload_n 0, 1) := by decide +kernel
theorem dX7_add_16 : decode cX7_add 16 = .ok (.getfield 23, 3) := by decide +kernel
theorem dX7_add_19 : decode cX7_add 19 = .ok (.iload_n 1, 1) := by decide +kernel
theorem dX7_add_20 : decode cX7_add 20 = .ok (.iastore, 1) := by decide +kernel
theorem dX7_add_21 : decode cX7_add 21 = .ok (.aload_n 0, 1) := by decide +kernel
theorem dX7_add_22 : decode cX7_add 22 = .ok (.dup, 1) := by decide +kernel
theorem dX7_add_23 : decode cX7_add 23 = .ok (.getfield 23, 3) := by decide +kernel
theorem dX7_add_26 : decode cX7_add 26 = .ok (.iconst 1, 1) := by decide +kernel
theorem dX7_add_27 : decode cX7_add 27 = .ok (.iadd, 1) := by decide +kernel
theorem dX7_add_28 : decode cX7_add 28 = .ok (.putfield 23, 3) := by decide +kernel
theorem dX7_add_31 : decode cX7_add 31 = .ok (.aload_n 0, 1) := by decide +kernel
theorem dX7_add_32 : decode cX7_add 32 = .ok (.getfield 23, 3) := by decide +kernel
theorem dX7_add_35 : decode cX7_add 35 = .ok (.iconst 1, 1) := by decide +kernel
theorem dX7_add_36 : decode cX7_add 36 = .ok (.isub, 1) := by decide +kernel
theorem dX7_add_37 : decode cX7_add 37 = .ok (.ireturn, 1) := by decide +kernel
theorem dX7_ranAt_0 : decode cX7_ranAt 0 = .ok (.iload_n 1, 1) := by decide +kernel
theorem dX7_ranAt_1 : decode cX7_ranAt 1 = .ok (.ifCond .lt 26, 3) := by decide +kernel
theorem dX7_ranAt_4 : decode cX7_ranAt 4 = .ok (.iload_n 1, 1) := by decide +kernel
theorem dX7_ranAt_5 : decode cX7_ranAt 5 = .ok (.aload_n 0, 1) := by decide +kernel
theorem dX7_ranAt_6 : decode cX7_ranAt 6 = .ok (.getfield 30, 3) := by decide +kernel
theorem dX7_ranAt_9 : decode cX7_ranAt 9 = .ok (.if_icmp .ge 18, 3) := by decide +kernel
theorem dX7_ranAt_12 : decode cX7_ranAt 12 = .ok (.iload_n 1, 1) := by decide +kernel
theorem dX7_ranAt_13 : decode cX7_ranAt 13 = .ok (.bipush 24, 2) := by decide +kernel
theorem dX7_ranAt_15 : decode cX7_ranAt 15 = .ok (.if_icmp .ge 12, 3) := by decide +kernel
theorem dX7_ranAt_18 : decode cX7_ranAt 18 = .ok (.aload_n 0, 1) := by decide +kernel
theorem dX7_ranAt_19 : decode cX7_ranAt 19 = .ok (.getfield 13, 3) := by decide +kernel
theorem dX7_ranAt_22 : decode cX7_ranAt 22 = .ok (.iload_n 1, 1) := by decide +kernel
theorem dX7_ranAt_23 : decode cX7_ranAt 23 = .ok (.iaload, 1) := by decide +kernel
theorem dX7_ranAt_24 : decode cX7_ranAt 24 = .ok (.goto 4, 3) := by decide +kernel
theorem dX7_ranAt_27 : decode cX7_ranAt 27 = .ok (.iconst (-1), 1) := by decide +kernel
theorem dX7_ranAt_28 : decode cX7_ranAt 28 = .ok (.ireturn, 1) := by decide +kernel
theorem dX7_perform_0 : decode cX7_perform 0 = .ok (.aload_n 0, 1) := by decide +kernel
theorem dX7_perform_1 : decode cX7_perform 1 = .ok (.iconst 0, 1) := by decide +kernel
theorem dX7_perform_2 : decode cX7_perform 2 = .ok (.putfield 30, 3) := by decide +kernel
theorem dX7_perform_5 : decode cX7_perform 5 = .ok (.aload_n 0, 1) := by decide +kernel
theorem dX7_perform_6 : decode cX7_perform 6 = .ok (.iload_n 1, 1) := by decide +kernel
theorem dX7_perform_7 : decode cX7_perform 7 = .ok (.invokevirtual 27, 3) := by decide +kernel
theorem dX7_perform_10 : decode cX7_perform 10 = .ok (.ifCond .eq 12, 3) := by decide +kernel
theorem dX7_perform_13 : decode cX7_perform 13 = .ok (.iload_n 2, 1) := by decide +kernel
theorem dX7_perform_14 : decode cX7_perform 14 = .ok (.ifCond .lt 8, 3) := by decide +kernel
theorem dX7_perform_17 : decode cX7_perform 17 = .ok (.iload_n 2, 1) := by decide +kernel
theorem dX7_perform_18 : decode cX7_perform 18 = .ok (.iconst 4, 1) := by decide +kernel
theorem dX7_perform_19 : decode cX7_perform 19 = .ok (.if_icmp .lt 5, 3) := by decide +kernel
theorem dX7_perform_22 : decode cX7_perform 22 = .ok (.iconst 0, 1) := by decide +kernel
theorem dX7_perform_23 : decode cX7_perform 23 = .ok (.ireturn, 1) := by decide +kernel
theorem dX7_perform_24 : decode cX7_perform 24 = .ok (.aload_n 0, 1) := by decide +kernel
theorem dX7_perform_25 : decode cX7_perform 25 = .ok (.iload_n 1, 1) := by decide +kernel
theorem dX7_perform_26 : decode cX7_perform 26 = .ok (.putfield 33, 3) := by decide +kernel
theorem dX7_perform_29 : decode cX7_perform 29 = .ok (.aload_n 0, 1) := by decide +kernel
theorem dX7_perform_30 : decode cX7_perform 30 = .ok (.iload_n 2, 1) := by decide +kernel
theorem dX7_perform_31 : decode cX7_perform 31 = .ok (.aload_n 0, 1) := by decide +kernel
theorem dX7_perform_32 : decode cX7_perform 32 = .ok (.iload_n 1, 1) := by decide +kernel
theorem dX7_perform_33 : decode cX7_perform 33 = .ok (.invokevirtual 36, 3) := by decide +kernel
theorem dX7_perform_36 : decode cX7_perform 36 = .ok (.iload_n 3, 1) := by decide +kernel
theorem dX7_perform_37 : decode cX7_perform 37 = .ok (.iconst 0, 1) := by decide +kernel
theorem dX7_perform_38 : decode cX7_perform 38 = .ok (.invokevirtual 40, 3) := by decide +kernel
theorem dX7_perform_41 : decode cX7_perform 41 = .ok (.ireturn, 1) := by decide +kernel
theorem dX7_begin_0 : decode cX7_begin 0 = .ok (.iload_n 2, 1) := by decide +kernel
theorem dX7_begin_1 : decode cX7_begin 1 = .ok (.istore 5, 2) := by decide +kernel
theorem dX7_begin_3 : decode cX7_begin 3 = .ok (.iconst 0, 1) := by decide +kernel
theorem dX7_begin_4 : decode cX7_begin 4 = .ok (.istore 6, 2) := by decide +kernel
theorem dX7_begin_6 : decode cX7_begin 6 = .ok (.iload 6, 2) := by decide +kernel
theorem dX7_begin_8 : decode cX7_begin 8 = .ok (.bipush 8, 2) := by decide +kernel
theorem dX7_begin_10 : decode cX7_begin 10 = .ok (.if_icmp .ge 39, 3) := by decide +kernel
theorem dX7_begin_13 : decode cX7_begin 13 = .ok (.iload 5, 2) := by decide +kernel
theorem dX7_begin_15 : decode cX7_begin 15 = .ok (.invokestatic 16, 3) := by decide +kernel
theorem dX7_begin_18 : decode cX7_begin 18 = .ok (.ifCond .eq 31, 3) := by decide +kernel
theorem dX7_begin_21 : decode cX7_begin 21 = .ok (.getstatic 44, 3) := by decide +kernel
theorem dX7_begin_24 : decode cX7_begin 24 = .ok (.iload_n 1, 1) := by decide +kernel
theorem dX7_begin_25 : decode cX7_begin 25 = .ok (.bipush 8, 2) := by decide +kernel
theorem dX7_begin_27 : decode cX7_begin 27 = .ok (.imul, 1) := by decide +kernel
theorem dX7_begin_28 : decode cX7_begin 28 = .ok (.iload 5, 2) := by decide +kernel
theorem dX7_begin_30 : decode cX7_begin 30 = .ok (.iadd, 1) := by decide +kernel
theorem dX7_begin_31 : decode cX7_begin 31 = .ok (.iaload, 1) := by decide +kernel
theorem dX7_begin_32 : decode cX7_begin 32 = .ok (.ifCond .ne 17, 3) := by decide +kernel
theorem dX7_begin_35 : decode cX7_begin 35 = .ok (.getstatic 20, 3) := by decide +kernel
theorem dX7_begin_38 : decode cX7_begin 38 = .ok (.iload 5, 2) := by decide +kernel
theorem dX7_begin_40 : decode cX7_begin 40 = .ok (.iaload, 1) := by decide +kernel
theorem dX7_begin_41 : decode cX7_begin 41 = .ok (.istore 5, 2) := by decide +kernel
theorem dX7_begin_43 : decode cX7_begin 43 = .ok (.iinc 6 1, 3) := by decide +kernel
theorem dX7_begin_46 : decode cX7_begin 46 = .ok (.goto (-40), 3) := by decide +kernel
theorem dX7_begin_49 : decode cX7_begin 49 = .ok (.iload 5, 2) := by decide +kernel
theorem dX7_begin_51 : decode cX7_begin 51 = .ok (.invokestatic 16, 3) := by decide +kernel
theorem dX7_begin_54 : decode cX7_begin 54 = .ok (.ifCond .eq 10, 3) := by decide +kernel
theorem dX7_begin_57 : decode cX7_begin 57 = .ok (.iload 4, 2) := by decide +kernel
theorem dX7_begin_59 : decode cX7_begin 59 = .ok (.bipush 20, 2) := by decide +kernel
theorem dX7_begin_61 : decode cX7_begin 61 = .ok (.if_icmp .le 5, 3) := by decide +kernel
theorem dX7_begin_64 : decode cX7_begin 64 = .ok (.iconst 0, 1) := by decide +kernel
theorem dX7_begin_65 : decode cX7_begin 65 = .ok (.ireturn, 1) := by decide +kernel
theorem dX7_begin_66 : decode cX7_begin 66 = .ok (.getstatic 44, 3) := by decide +kernel
theorem dX7_begin_69 : decode cX7_begin 69 = .ok (.iload_n 1, 1) := by decide +kernel
theorem dX7_begin_70 : decode cX7_begin 70 = .ok (.bipush 8, 2) := by decide +kernel
theorem dX7_begin_72 : decode cX7_begin 72 = .ok (.imul, 1) := by decide +kernel
theorem dX7_begin_73 : decode cX7_begin 73 = .ok (.iload 5, 2) := by decide +kernel
theorem dX7_begin_75 : decode cX7_begin 75 = .ok (.iadd, 1) := by decide +kernel
theorem dX7_begin_76 : decode cX7_begin 76 = .ok (.iaload, 1) := by decide +kernel
theorem dX7_begin_77 : decode cX7_begin 77 = .ok (.istore 6, 2) := by decide +kernel
theorem dX7_begin_79 : decode cX7_begin 79 = .ok (.aload_n 0, 1) := by decide +kernel
theorem dX7_begin_80 : decode cX7_begin 80 = .ok (.getfield 30, 3) := by decide +kernel
theorem dX7_begin_83 : decode cX7_begin 83 = .ok (.bipush 24, 2) := by decide +kernel
theorem dX7_begin_85 : decode cX7_begin 85 = .ok (.if_icmp .ge 14, 3) := by decide +kernel
theorem dX7_begin_88 : decode cX7_begin 88 = .ok (.aload_n 0, 1) := by decide +kernel
theorem dX7_begin_89 : decode cX7_begin 89 = .ok (.getfield 13, 3) := by decide +kernel
theorem dX7_begin_92 : decode cX7_begin 92 = .ok (.aload_n 0, 1) := by decide +kernel
theorem dX7_begin_93 : decode cX7_begin 93 = .ok (.getfield 30, 3) := by decide +kernel
theorem dX7_begin_96 : decode cX7_begin 96 = .ok (.iload 6, 2) := by decide +kernel
theorem dX7_begin_98 : decode cX7_begin 98 = .ok (.iastore, 1) := by decide +kernel
theorem dX7_begin_99 : decode cX7_begin 99 = .ok (.aload_n 0, 1) := by decide +kernel
theorem dX7_begin_100 : decode cX7_begin 100 = .ok (.dup, 1) := by decide +kernel
theorem dX7_begin_101 : decode cX7_begin 101 = .ok (.getfield 30, 3) := by decide +kernel
theorem dX7_begin_104 : decode cX7_begin 104 = .ok (.iconst 1, 1) := by decide +kernel
theorem dX7_begin_105 : decode cX7_begin 105 = .ok (.iadd, 1) := by decide +kernel
theorem dX7_begin_106 : decode cX7_begin 106 = .ok (.putfield 30, 3) := by decide +kernel
theorem dX7_begin_109 : decode cX7_begin 109 = .ok (.iload 6, 2) := by decide +kernel
theorem dX7_begin_111 : decode cX7_begin 111 = .ok (.bipush 11, 2) := by decide +kernel
theorem dX7_begin_113 : decode cX7_begin 113 = .ok (.if_icmp .gt 13, 3) := by decide +kernel
theorem dX7_begin_116 : decode cX7_begin 116 = .ok (.aload_n 0, 1) := by decide +kernel
theorem dX7_begin_117 : decode cX7_begin 117 = .ok (.iload 6, 2) := by decide +kernel
theorem dX7_begin_119 : decode cX7_begin 119 = .ok (.iload_n 3, 1) := by decide +kernel
theorem dX7_begin_120 : decode cX7_begin 120 = .ok (.iload 4, 2) := by decide +kernel
theorem dX7_begin_122 : decode cX7_begin 122 = .ok (.invokevirtual 47, 3) := by decide +kernel
theorem dX7_begin_125 : decode cX7_begin 125 = .ok (.ireturn, 1) := by decide +kernel
theorem dX7_begin_126 : decode cX7_begin 126 = .ok (.aload_n 0, 1) := by decide +kernel
theorem dX7_begin_127 : decode cX7_begin 127 = .ok (.iload 6, 2) := by decide +kernel
theorem dX7_begin_129 : decode cX7_begin 129 = .ok (.iload_n 1, 1) := by decide +kernel
theorem dX7_begin_130 : decode cX7_begin 130 = .ok (.getstatic 20, 3) := by decide +kernel
theorem dX7_begin_133 : decode cX7_begin 133 = .ok (.iload 5, 2) := by decide +kernel
theorem dX7_begin_135 : decode cX7_begin 135 = .ok (.iaload, 1) := by decide +kernel
theorem dX7_begin_136 : decode cX7_begin 136 = .ok (.iload_n 3, 1) := by decide +kernel
theorem dX7_begin_137 : decode cX7_begin 137 = .ok (.iload 4, 2) := by decide +kernel
theorem dX7_begin_139 : decode cX7_begin 139 = .ok (.invokevirtual 51, 3) := by decide +kernel
theorem dX7_begin_142 : decode cX7_begin 142 = .ok (.ireturn, 1) := by decide +kernel
theorem dX7_own_0 : decode cX7_own 0 = .ok (.aload_n 0, 1) := by decide +kernel
theorem dX7_own_1 : decode cX7_own 1 = .ok (.iload_n 1, 1) := by decide +kernel
theorem dX7_own_2 : decode cX7_own 2 = .ok (.aload_n 0, 1) := by decide +kernel
theorem dX7_own_3 : decode cX7_own 3 = .ok (.aload_n 0, 1) := by decide +kernel
theorem dX7_own_4 : decode cX7_own 4 = .ok (.getfield 33, 3) := by decide +kernel
theorem dX7_own_7 : decode cX7_own 7 = .ok (.invokevirtual 36, 3) := by decide +kernel
theorem dX7_own_10 : decode cX7_own 10 = .ok (.iload_n 2, 1) := by decide +kernel
theorem dX7_own_11 : decode cX7_own 11 = .ok (.iload_n 3, 1) := by decide +kernel
theorem dX7_own_12 : decode cX7_own 12 = .ok (.iconst 1, 1) := by decide +kernel
theorem dX7_own_13 : decode cX7_own 13 = .ok (.iadd, 1) := by decide +kernel
theorem dX7_own_14 : decode cX7_own 14 = .ok (.invokevirtual 40, 3) := by decide +kernel
theorem dX7_own_17 : decode cX7_own 17 = .ok (.ireturn, 1) := by decide +kernel
theorem dX7_answerOfWheel_0 : decode cX7_answerOfWheel 0 = .ok (.iload_n 1, 1) := by decide +kernel
theorem dX7_answerOfWheel_1 : decode cX7_answerOfWheel 1 = .ok (.lookupswitch 68 #[(1, 35), (2, 42), (10, 58)], 35) := by decide +kernel
theorem dX7_answerOfWheel_36 : decode cX7_answerOfWheel 36 = .ok (.iload_n 2, 1) := by decide +kernel
theorem dX7_answerOfWheel_37 : decode cX7_answerOfWheel 37 = .ok (.aload_n 0, 1) := by decide +kernel
theorem dX7_answerOfWheel_38 : decode cX7_answerOfWheel 38 = .ok (.getfield 33, 3) := by decide +kernel
theorem dX7_answerOfWheel_41 : decode cX7_answerOfWheel 41 = .ok (.iadd, 1) := by decide +kernel
theorem dX7_answerOfWheel_42 : decode cX7_answerOfWheel 42 = .ok (.ireturn, 1) := by decide +kernel
theorem dX7_answerOfWheel_43 : decode cX7_answerOfWheel 43 = .ok (.aload_n 0, 1) := by decide +kernel
theorem dX7_answerOfWheel_44 : decode cX7_answerOfWheel 44 = .ok (.iconst 1, 1) := by decide +kernel
theorem dX7_answerOfWheel_45 : decode cX7_answerOfWheel 45 = .ok (.iload_n 2, 1) := by decide +kernel
theorem dX7_answerOfWheel_46 : decode cX7_answerOfWheel 46 = .ok (.iload_n 3, 1) := by decide +kernel
theorem dX7_answerOfWheel_47 : decode cX7_answerOfWheel 47 = .ok (.invokevirtual 55, 3) := by decide +kernel
theorem dX7_answerOfWheel_50 : decode cX7_answerOfWheel 50 = .ok (.aload_n 0, 1) := by decide +kernel
theorem dX7_answerOfWheel_51 : decode cX7_answerOfWheel 51 = .ok (.iconst 2, 1) := by decide +kernel
theorem dX7_answerOfWheel_52 : decode cX7_answerOfWheel 52 = .ok (.iconst 1, 1) := by decide +kernel
theorem dX7_answerOfWheel_53 : decode cX7_answerOfWheel 53 = .ok (.iload_n 3, 1) := by decide +kernel
theorem dX7_answerOfWheel_54 : decode cX7_answerOfWheel 54 = .ok (.invokevirtual 55, 3) := by decide +kernel
theorem dX7_answerOfWheel_57 : decode cX7_answerOfWheel 57 = .ok (.isub, 1) := by decide +kernel
theorem dX7_answerOfWheel_58 : decode cX7_answerOfWheel 58 = .ok (.ireturn, 1) := by decide +kernel
theorem dX7_answerOfWheel_59 : decode cX7_answerOfWheel 59 = .ok (.aload_n 0, 1) := by decide +kernel
theorem dX7_answerOfWheel_60 : decode cX7_answerOfWheel 60 = .ok (.iconst 0, 1) := by decide +kernel
theorem dX7_answerOfWheel_61 : decode cX7_answerOfWheel 61 = .ok (.iload_n 2, 1) := by decide +kernel
theorem dX7_answerOfWheel_62 : decode cX7_answerOfWheel 62 = .ok (.iload_n 3, 1) := by decide +kernel
theorem dX7_answerOfWheel_63 : decode cX7_answerOfWheel 63 = .ok (.invokevirtual 55, 3) := by decide +kernel
theorem dX7_answerOfWheel_66 : decode cX7_answerOfWheel 66 = .ok (.iconst 2, 1) := by decide +kernel
theorem dX7_answerOfWheel_67 : decode cX7_answerOfWheel 67 = .ok (.imul, 1) := by decide +kernel
theorem dX7_answerOfWheel_68 : decode cX7_answerOfWheel 68 = .ok (.ireturn, 1) := by decide +kernel
theorem dX7_answerOfWheel_69 : decode cX7_answerOfWheel 69 = .ok (.iload_n 2, 1) := by decide +kernel
theorem dX7_answerOfWheel_70 : decode cX7_answerOfWheel 70 = .ok (.aload_n 0, 1) := by decide +kernel
theorem dX7_answerOfWheel_71 : decode cX7_answerOfWheel 71 = .ok (.getfield 33, 3) := by decide +kernel
theorem dX7_answerOfWheel_74 : decode cX7_answerOfWheel 74 = .ok (.ixor, 1) := by decide +kernel
theorem dX7_answerOfWheel_75 : decode cX7_answerOfWheel 75 = .ok (.ireturn, 1) := by decide +kernel
theorem dX7_answerUnder_0 : decode cX7_answerUnder 0 = .ok (.aload_n 0, 1) := by decide +kernel
theorem dX7_answerUnder_1 : decode cX7_answerUnder 1 = .ok (.iload_n 2, 1) := by decide +kernel
theorem dX7_answerUnder_2 : decode cX7_answerUnder 2 = .ok (.iload_n 3, 1) := by decide +kernel
theorem dX7_answerUnder_3 : decode cX7_answerUnder 3 = .ok (.iload_n 1, 1) := by decide +kernel
theorem dX7_answerUnder_4 : decode cX7_answerUnder 4 = .ok (.bipush 41, 2) := by decide +kernel
theorem dX7_answerUnder_6 : decode cX7_answerUnder 6 = .ok (.if_icmp .ne 10, 3) := by decide +kernel
theorem dX7_answerUnder_9 : decode cX7_answerUnder 9 = .ok (.iload 4, 2) := by decide +kernel
theorem dX7_answerUnder_11 : decode cX7_answerUnder 11 = .ok (.iconst 1, 1) := by decide +kernel
theorem dX7_answerUnder_12 : decode cX7_answerUnder 12 = .ok (.iadd, 1) := by decide +kernel
theorem dX7_answerUnder_13 : decode cX7_answerUnder 13 = .ok (.goto 5, 3) := by decide +kernel
theorem dX7_answerUnder_16 : decode cX7_answerUnder 16 = .ok (.iload 4, 2) := by decide +kernel
theorem dX7_answerUnder_18 : decode cX7_answerUnder 18 = .ok (.iload 5, 2) := by decide +kernel
theorem dX7_answerUnder_20 : decode cX7_answerUnder 20 = .ok (.iconst 1, 1) := by decide +kernel
theorem dX7_answerUnder_21 : decode cX7_answerUnder 21 = .ok (.iadd, 1) := by decide +kernel
theorem dX7_answerUnder_22 : decode cX7_answerUnder 22 = .ok (.invokevirtual 40, 3) := by decide +kernel
theorem dX7_answerUnder_25 : decode cX7_answerUnder 25 = .ok (.istore 6, 2) := by decide +kernel
theorem dX7_answerUnder_27 : decode cX7_answerUnder 27 = .ok (.iload_n 1, 1) := by decide +kernel
theorem dX7_answerUnder_28 : decode cX7_answerUnder 28 = .ok (.lookupswitch 142 #[(20, 84), (30, 89), (40, 93), (50, 98), (60, 103), (61, 115), (70, 120), (80, 125), (81, 137)], 84) := by decide +kernel
theorem dX7_answerUnder_112 : decode cX7_answerUnder 112 = .ok (.iload 6, 2) := by decide +kernel
theorem dX7_answerUnder_114 : decode cX7_answerUnder 114 = .ok (.iconst 3, 1) := by decide +kernel
theorem dX7_answerUnder_115 : decode cX7_answerUnder 115 = .ok (.iadd, 1) := by decide +kernel
theorem dX7_answerUnder_116 : decode cX7_answerUnder 116 = .ok (.ireturn, 1) := by decide +kernel
theorem dX7_answerUnder_117 : decode cX7_answerUnder 117 = .ok (.iload 6, 2) := by decide +kernel
theorem dX7_answerUnder_119 : decode cX7_answerUnder 119 = .ok (.ineg, 1) := by decide +kernel
theorem dX7_answerUnder_120 : decode cX7_answerUnder 120 = .ok (.ireturn, 1) := by decide +kernel
theorem dX7_answerUnder_121 : decode cX7_answerUnder 121 = .ok (.iload 6, 2) := by decide +kernel
theorem dX7_answerUnder_123 : decode cX7_answerUnder 123 = .ok (.iconst 3, 1) := by decide +kernel
theorem dX7_answerUnder_124 : decode cX7_answerUnder 124 = .ok (.imul, 1) := by decide +kernel
theorem dX7_answerUnder_125 : decode cX7_answerUnder 125 = .ok (.ireturn, 1) := by decide +kernel
theorem dX7_answerUnder_126 : decode cX7_answerUnder 126 = .ok (.iload 6, 2) := by decide +kernel
theorem dX7_answerUnder_128 : decode cX7_answerUnder 128 = .ok (.iconst 5, 1) := by decide +kernel
theorem dX7_answerUnder_129 : decode cX7_answerUnder 129 = .ok (.ixor, 1) := by decide +kernel
theorem dX7_answerUnder_130 : decode cX7_answerUnder 130 = .ok (.ireturn, 1) := by decide +kernel
theorem dX7_answerUnder_131 : decode cX7_answerUnder 131 = .ok (.iload 6, 2) := by decide +kernel
theorem dX7_answerUnder_133 : decode cX7_answerUnder 133 = .ok (.aload_n 0, 1) := by decide +kernel
theorem dX7_answerUnder_134 : decode cX7_answerUnder 134 = .ok (.iconst 0, 1) := by decide +kernel
theorem dX7_answerUnder_135 : decode cX7_answerUnder 135 = .ok (.iconst 2, 1) := by decide +kernel
theorem dX7_answerUnder_136 : decode cX7_answerUnder 136 = .ok (.iload 5, 2) := by decide +kernel
theorem dX7_answerUnder_138 : decode cX7_answerUnder 138 = .ok (.invokevirtual 55, 3) := by decide +kernel
theorem dX7_answerUnder_141 : decode cX7_answerUnder 141 = .ok (.isub, 1) := by decide +kernel
theorem dX7_answerUnder_142 : decode cX7_answerUnder 142 = .ok (.ireturn, 1) := by decide +kernel
theorem dX7_answerUnder_143 : decode cX7_answerUnder 143 = .ok (.iload 6, 2) := by decide +kernel
theorem dX7_answerUnder_145 : decode cX7_answerUnder 145 = .ok (.iconst 1, 1) := by decide +kernel
theorem dX7_answerUnder_146 : decode cX7_answerUnder 146 = .ok (.iadd, 1) := by decide +kernel
theorem dX7_answerUnder_147 : decode cX7_answerUnder 147 = .ok (.ireturn, 1) := by decide +kernel
theorem dX7_answerUnder_148 : decode cX7_answerUnder 148 = .ok (.iload 6, 2) := by decide +kernel
theorem dX7_answerUnder_150 : decode cX7_answerUnder 150 = .ok (.iconst 2, 1) := by decide +kernel
theorem dX7_answerUnder_151 : decode cX7_answerUnder 151 = .ok (.imul, 1) := by decide +kernel
theorem dX7_answerUnder_152 : decode cX7_answerUnder 152 = .ok (.ireturn, 1) := by decide +kernel
theorem dX7_answerUnder_153 : decode cX7_answerUnder 153 = .ok (.iload 6, 2) := by decide +kernel
theorem dX7_answerUnder_155 : decode cX7_answerUnder 155 = .ok (.aload_n 0, 1) := by decide +kernel
theorem dX7_answerUnder_156 : decode cX7_answerUnder 156 = .ok (.iconst 2, 1) := by decide +kernel
theorem dX7_answerUnder_157 : decode cX7_answerUnder 157 = .ok (.iconst 2, 1) := by decide +kernel
theorem dX7_answerUnder_158 : decode cX7_answerUnder 158 = .ok (.iload 5, 2) := by decide +kernel
theorem dX7_answerUnder_160 : decode cX7_answerUnder 160 = .ok (.invokevirtual 55, 3) := by decide +kernel
theorem dX7_answerUnder_163 : decode cX7_answerUnder 163 = .ok (.iadd, 1) := by decide +kernel
theorem dX7_answerUnder_164 : decode cX7_answerUnder 164 = .ok (.ireturn, 1) := by decide +kernel
theorem dX7_answerUnder_165 : decode cX7_answerUnder 165 = .ok (.iload 6, 2) := by decide +kernel
theorem dX7_answerUnder_167 : decode cX7_answerUnder 167 = .ok (.iconst 1, 1) := by decide +kernel
theorem dX7_answerUnder_168 : decode cX7_answerUnder 168 = .ok (.isub, 1) := by decide +kernel
theorem dX7_answerUnder_169 : decode cX7_answerUnder 169 = .ok (.ireturn, 1) := by decide +kernel
theorem dX7_answerUnder_170 : decode cX7_answerUnder 170 = .ok (.iload 6, 2) := by decide +kernel
theorem dX7_answerUnder_172 : decode cX7_answerUnder 172 = .ok (.ireturn, 1) := by decide +kernel
theorem dX8_init_0 : decode cX8_init 0 = .ok (.aload_n 0, 1) := by decide +kernel
theorem dX8_init_1 : decode cX8_init 1 = .ok (.invokespecial 1, 3) := by decide +kernel
theorem dX8_init_4 : decode cX8_init 4 = .ok (.aload_n 0, 1) := by decide +kernel
theorem dX8_init_5 : decode cX8_init 5 = .ok (.new 7, 3) := by decide +kernel
theorem dX8_init_8 : decode cX8_init 8 = .ok (.dup, 1) := by decide +kernel
