theorem dX6_init_0 : decode cX6_init 0 = .ok (.aload_n 0, 1) := by decide +kernel
theorem dX6_init_1 : decode cX6_init 1 = .ok (.invokespecial 3, 3) := by decide +kernel
theorem dX6_init_4 : decode cX6_init 4 = .ok (.aload_n 0, 1) := by decide +kernel
theorem dX6_init_5 : decode cX6_init 5 = .ok (.bipush 73, 2) := by decide +kernel
theorem dX6_init_7 : decode cX6_init 7 = .ok (.newarray .int, 2) := by decide +kernel
theorem dX6_init_9 : decode cX6_init 9 = .ok (.putfield 9, 3) := by decide +kernel
theorem dX6_init_12 : decode cX6_init 12 = .ok (.aload_n 0, 1) := by decide +kernel
theorem dX6_init_13 : decode cX6_init 13 = .ok (.bipush 73, 2) := by decide +kernel
theorem dX6_init_15 : decode cX6_init 15 = .ok (.newarray .int, 2) := by decide +kernel
theorem dX6_init_17 : decode cX6_init 17 = .ok (.putfield 13, 3) := by decide +kernel
theorem dX6_init_20 : decode cX6_init 20 = .ok (.aload_n 0, 1) := by decide +kernel
theorem dX6_init_21 : decode cX6_init 21 = .ok (.bipush 73, 2) := by decide +kernel
theorem dX6_init_23 : decode cX6_init 23 = .ok (.newarray .int, 2) := by decide +kernel
theorem dX6_init_25 : decode cX6_init 25 = .ok (.putfield 16, 3) := by decide +kernel
theorem dX6_init_28 : decode cX6_init 28 = .ok (.aload_n 0, 1) := by decide +kernel
theorem dX6_init_29 : decode cX6_init 29 = .ok (.bipush 7, 2) := by decide +kernel
theorem dX6_init_31 : decode cX6_init 31 = .ok (.newarray .int, 2) := by decide +kernel
theorem dX6_init_33 : decode cX6_init 33 = .ok (.putfield 19, 3) := by decide +kernel
theorem dX6_init_36 : decode cX6_init 36 = .ok (.aload_n 0, 1) := by decide +kernel
theorem dX6_init_37 : decode cX6_init 37 = .ok (.bipush 8, 2) := by decide +kernel
theorem dX6_init_39 : decode cX6_init 39 = .ok (.newarray .int, 2) := by decide +kernel
theorem dX6_init_41 : decode cX6_init 41 = .ok (.putfield 22, 3) := by decide +kernel
theorem dX6_init_44 : decode cX6_init 44 = .ok (.aload_n 0, 1) := by decide +kernel
theorem dX6_init_45 : decode cX6_init 45 = .ok (.bipush 8, 2) := by decide +kernel
theorem dX6_init_47 : decode cX6_init 47 = .ok (.newarray .int, 2) := by decide +kernel
theorem dX6_init_49 : decode cX6_init 49 = .ok (.putfield 25, 3) := by decide +kernel
theorem dX6_init_52 : decode cX6_init 52 = .ok (.aload_n 0, 1) := by decide +kernel
theorem dX6_init_53 : decode cX6_init 53 = .ok (.bipush 120, 2) := by decide +kernel
theorem dX6_init_55 : decode cX6_init 55 = .ok (.newarray .int, 2) := by decide +kernel
theorem dX6_init_57 : decode cX6_init 57 = .ok (.putfield 28, 3) := by decide +kernel
theorem dX6_init_60 : decode cX6_init 60 = .ok (.aload_n 0, 1) := by decide +kernel
theorem dX6_init_61 : decode cX6_init 61 = .ok (.iconst 4, 1) := by decide +kernel
theorem dX6_init_62 : decode cX6_init 62 = .ok (.newarray .int, 2) := by decide +kernel
theorem dX6_init_64 : decode cX6_init 64 = .ok (.putfield 31, 3) := by decide +kernel
theorem dX6_init_67 : decode cX6_init 67 = .ok (.aload_n 0, 1) := by decide +kernel
theorem dX6_init_68 : decode cX6_init 68 = .ok (.iconst 4, 1) := by decide +kernel
theorem dX6_init_69 : decode cX6_init 69 = .ok (.newarray .int, 2) := by decide +kernel
theorem dX6_init_71 : decode cX6_init 71 = .ok (.putfield 34, 3) := by decide +kernel
theorem dX6_init_74 : decode cX6_init 74 = .ok (.aload_n 0, 1) := by decide +kernel
theorem dX6_init_75 : decode cX6_init 75 = .ok (.sipush 160, 3) := by decide +kernel
theorem dX6_init_78 : decode cX6_init 78 = .ok (.newarray .int, 2) := by decide +kernel
theorem dX6_init_80 : decode cX6_init 80 = .ok (.putfield 37, 3) := by decide +kernel
theorem dX6_init_83 : decode cX6_init 83 = .ok (.aload_n 0, 1) := by decide +kernel
theorem dX6_init_84 : decode cX6_init 84 = .ok (.bipush 40, 2) := by decide +kernel
theorem dX6_init_86 : decode cX6_init 86 = .ok (.newarray .int, 2) := by decide +kernel
theorem dX6_init_88 : decode cX6_init 88 = .ok (.putfield 40, 3) := by decide +kernel
theorem dX6_init_91 : decode cX6_init 91 = .ok (.aload_n 0, 1) := by decide +kernel
theorem dX6_init_92 : decode cX6_init 92 = .ok (.getfield 9, 3) := by decide +kernel
theorem dX6_init_95 : decode cX6_init 95 = .ok (.iconst 0, 1) := by decide +kernel
theorem dX6_init_96 : decode cX6_init 96 = .ok (.iconst 1, 1) := by decide +kernel
theorem dX6_init_97 : decode cX6_init 97 = .ok (.iastore, 1) := by decide +kernel
theorem dX6_init_98 : decode cX6_init 98 = .ok (.aload_n 0, 1) := by decide +kernel
theorem dX6_init_99 : decode cX6_init 99 = .ok (.getfield 9, 3) := by decide +kernel
theorem dX6_init_102 : decode cX6_init 102 = .ok (.iconst 1, 1) := by decide +kernel
theorem dX6_init_103 : decode cX6_init 103 = .ok (.iconst 2, 1) := by decide +kernel
theorem dX6_init_104 : decode cX6_init 104 = .ok (.iastore, 1) := by decide +kernel
theorem dX6_init_105 : decode cX6_init 105 = .ok (.aload_n 0, 1) := by decide +kernel
theorem dX6_init_106 : decode cX6_init 106 = .ok (.getfield 9, 3) := by decide +kernel
theorem dX6_init_109 : decode cX6_init 109 = .ok (.iconst 4, 1) := by decide +kernel
theorem dX6_init_110 : decode cX6_init 110 = .ok (.iconst 1, 1) := by decide +kernel
theorem dX6_init_111 : decode cX6_init 111 = .ok (.iastore, 1) := by decide +kernel
theorem dX6_init_112 : decode cX6_init 112 = .ok (.iconst 0, 1) := by decide +kernel
theorem dX6_init_113 : decode cX6_init 113 = .ok (.istore_n 1, 1) := by decide +kernel
theorem dX6_init_114 : decode cX6_init 114 = .ok (.iload_n 1, 1) := by decide +kernel
theorem dX6_init_115 : decode cX6_init 115 = .ok (.bipush 10, 2) := by decide +kernel
theorem dX6_init_117 : decode cX6_init 117 = .ok (.if_icmp .ge 19, 3) := by decide +kernel
theorem dX6_init_120 : decode cX6_init 120 = .ok (.aload_n 0, 1) := by decide +kernel
theorem dX6_init_121 : decode cX6_init 121 = .ok (.getfield 9, 3) := by decide +kernel
theorem dX6_init_124 : decode cX6_init 124 = .ok (.bipush 63, 2) := by decide +kernel
theorem dX6_init_126 : decode cX6_init 126 = .ok (.iload_n 1, 1) := by decide +kernel
theorem dX6_init_127 : decode cX6_init 127 = .ok (.iadd, 1) := by decide +kernel
theorem dX6_init_128 : decode cX6_init 128 = .ok (.iconst (-1), 1) := by decide +kernel
theorem dX6_init_129 : decode cX6_init 129 = .ok (.iastore, 1) := by decide +kernel
theorem dX6_init_130 : decode cX6_init 130 = .ok (.iinc 1 1, 3) := by decide +kernel
theorem dX6_init_133 : decode cX6_init 133 = .ok (.goto (-19), 3) := by decide +kernel
theorem dX6_init_136 : decode cX6_init 136 = .ok (.return_, 1) := by decide +kernel
theorem dX6_finds_0 : decode cX6_finds 0 = .ok (.aload_n 0, 1) := by decide +kernel
theorem dX6_finds_1 : decode cX6_finds 1 = .ok (.getfield 19, 3) := by decide +kernel
theorem dX6_finds_4 : decode cX6_finds 4 = .ok (.iload_n 1, 1) := by decide +kernel
theorem dX6_finds_5 : decode cX6_finds 5 = .ok (.dup2, 1) := by decide +kernel
theorem dX6_finds_6 : decode cX6_finds 6 = .ok (.iaload, 1) := by decide +kernel
theorem dX6_finds_7 : decode cX6_finds 7 = .ok (.iconst 1, 1) := by decide +kernel
theorem dX6_finds_8 : decode cX6_finds 8 = .ok (.iadd, 1) := by decide +kernel
theorem dX6_finds_9 : decode cX6_finds 9 = .ok (.iastore, 1) := by decide +kernel
theorem dX6_finds_10 : decode cX6_finds 10 = .ok (.ldc 43, 2) := by decide +kernel
theorem dX6_finds_12 : decode cX6_finds 12 = .ok (.iload_n 1, 1) := by decide +kernel
theorem dX6_finds_13 : decode cX6_finds 13 = .ok (.isub, 1) := by decide +kernel
theorem dX6_finds_14 : decode cX6_finds 14 = .ok (.ireturn, 1) := by decide +kernel
theorem dX6_in_0 : decode cX6_in 0 = .ok (.lload_n 0, 1) := by decide +kernel
theorem dX6_in_1 : decode cX6_in 1 = .ok (.lload_n 2, 1) := by decide +kernel
theorem dX6_in_2 : decode cX6_in 2 = .ok (.lcmp, 1) := by decide +kernel
theorem dX6_in_3 : decode cX6_in 3 = .ok (.ifCond .lt 14, 3) := by decide +kernel
theorem dX6_in_6 : decode cX6_in 6 = .ok (.lload_n 0, 1) := by decide +kernel
theorem dX6_in_7 : decode cX6_in 7 = .ok (.lload 4, 2) := by decide +kernel
theorem dX6_in_9 : decode cX6_in 9 = .ok (.lcmp, 1) := by decide +kernel
theorem dX6_in_10 : decode cX6_in 10 = .ok (.ifCond .gt 7, 3) := by decide +kernel
theorem dX6_in_13 : decode cX6_in 13 = .ok (.iconst 1, 1) := by decide +kernel
theorem dX6_in_14 : decode cX6_in 14 = .ok (.goto 4, 3) := by decide +kernel
theorem dX6_in_17 : decode cX6_in 17 = .ok (.iconst 0, 1) := by decide +kernel
theorem dX6_in_18 : decode cX6_in 18 = .ok (.ireturn, 1) := by decide +kernel
theorem dX6_become_0 : decode cX6_become 0 = .ok (.iconst 0, 1) := by decide +kernel
theorem dX6_become_1 : decode cX6_become 1 = .ok (.istore_n 2, 1) := by decide +kernel
theorem dX6_become_2 : decode cX6_become 2 = .ok (.iload_n 2, 1) := by decide +kernel
theorem dX6_become_3 : decode cX6_become 3 = .ok (.bipush 73, 2) := by decide +kernel
theorem dX6_become_5 : decode cX6_become 5 = .ok (.if_icmp .ge 15, 3) := by decide +kernel
theorem dX6_become_8 : decode cX6_become 8 = .ok (.aload_n 1, 1) := by decide +kernel
theorem dX6_become_9 : decode cX6_become 9 = .ok (.iload_n 2, 1) := by decide +kernel
theorem dX6_become_10 : decode cX6_become 10 = .ok (.aload_n 0, 1) := by decide +kernel
theorem dX6_become_11 : decode cX6_become 11 = .ok (.iload_n 2, 1) := by decide +kernel
theorem dX6_become_12 : decode cX6_become 12 = .ok (.iaload, 1) := by decide +kernel
theorem dX6_become_13 : decode cX6_become 13 = .ok (.iastore, 1) := by decide +kernel
theorem dX6_become_14 : decode cX6_become 14 = .ok (.iinc 2 1, 3) := by decide +kernel
theorem dX6_become_17 : decode cX6_become 17 = .ok (.goto (-15), 3) := by decide +kernel
theorem dX6_become_20 : decode cX6_become 20 = .ok (.return_, 1) := by decide +kernel
theorem dX6_lends_0 : decode cX6_lends 0 = .ok (.aload_n 0, 1) := by decide +kernel
theorem dX6_lends_1 : decode cX6_lends 1 = .ok (.getfield 9, 3) := by decide +kernel
theorem dX6_lends_4 : decode cX6_lends 4 = .ok (.aload_n 0, 1) := by decide +kernel
theorem dX6_lends_5 : decode cX6_lends 5 = .ok (.getfield 16, 3) := by decide +kernel
theorem dX6_lends_8 : decode cX6_lends 8 = .ok (.invokestatic 44, 3) := by decide +kernel
theorem dX6_lends_11 : decode cX6_lends 11 = .ok (.return_, 1) := by decide +kernel
theorem dX6_laysBack_0 : decode cX6_laysBack 0 = .ok (.aload_n 0, 1) := by decide +kernel
theorem dX6_laysBack_1 : decode cX6_laysBack 1 = .ok (.getfield 16, 3) := by decide +kernel
theorem dX6_laysBack_4 : decode cX6_laysBack 4 = .ok (.aload_n 0, 1) := by decide +kernel
theorem dX6_laysBack_5 : decode cX6_laysBack 5 = .ok (.getfield 9, 3) := by decide +kernel
theorem dX6_laysBack_8 : decode cX6_laysBack 8 = .ok (.invokestatic 44, 3) := by decide +kernel
theorem dX6_laysBack_11 : decode cX6_laysBack 11 = .ok (.return_, 1) := by decide +kernel
theorem dX6_isPerson_0 : decode cX6_isPerson 0 = .ok (.iload_n 1, 1) := by decide +kernel
theorem dX6_isPerson_1 : decode cX6_isPerson 1 = .ok (.i2l, 1) := by decide +kernel
theorem dX6_isPerson_2 : decode cX6_isPerson 2 = .ok (.lconst 0, 1) := by decide +kernel
theorem dX6_isPerson_3 : decode cX6_isPerson 3 = .ok (.aload_n 0, 1) := by decide +kernel
theorem dX6_isPerson_4 : decode cX6_isPerson 4 = .ok (.getfield 9, 3) := by decide +kernel
theorem dX6_isPerson_7 : decode cX6_isPerson 7 = .ok (.iconst 5, 1) := by decide +kernel
theorem dX6_isPerson_8 : decode cX6_isPerson 8 = .ok (.iaload, 1) := by decide +kernel
theorem dX6_isPerson_9 : decode cX6_isPerson 9 = .ok (.iconst 1, 1) := by decide +kernel
theorem dX6_isPerson_10 : decode cX6_isPerson 10 = .ok (.isub, 1) := by decide +kernel
theorem dX6_isPerson_11 : decode cX6_isPerson 11 = .ok (.i2l, 1) := by decide +kernel
theorem dX6_isPerson_12 : decode cX6_isPerson 12 = .ok (.invokestatic 48, 3) := by decide +kernel
theorem dX6_isPerson_15 : decode cX6_isPerson 15 = .ok (.ireturn, 1) := by decide +kernel
theorem dX6_isJoke_0 : decode cX6_isJoke 0 = .ok (.iload_n 1, 1) := by decide +kernel
theorem dX6_isJoke_1 : decode cX6_isJoke 1 = .ok (.i2l, 1) := by decide +kernel
theorem dX6_isJoke_2 : decode cX6_isJoke 2 = .ok (.lconst 0, 1) := by decide +kernel
theorem dX6_isJoke_3 : decode cX6_isJoke 3 = .ok (.aload_n 0, 1) := by decide +kernel
theorem dX6_isJoke_4 : decode cX6_isJoke 4 = .ok (.getfield 9, 3) := by decide +kernel
theorem dX6_isJoke_7 : decode cX6_isJoke 7 = .ok (.bipush 6, 2) := by decide +kernel
theorem dX6_isJoke_9 : decode cX6_isJoke 9 = .ok (.iaload, 1) := by decide +kernel
theorem dX6_isJoke_10 : decode cX6_isJoke 10 = .ok (.iconst 1, 1) := by decide +kernel
theorem dX6_isJoke_11 : decode cX6_isJoke 11 = .ok (.isub, 1) := by decide +kernel
theorem dX6_isJoke_12 : decode cX6_isJoke 12 = .ok (.i2l, 1) := by decide +kernel
theorem dX6_isJoke_13 : decode cX6_isJoke 13 = .ok (.invokestatic 48, 3) := by decide +kernel
theorem dX6_isJoke_16 : decode cX6_isJoke 16 = .ok (.ireturn, 1) := by decide +kernel
theorem dX6_isSeat_0 : decode cX6_isSeat 0 = .ok (.iload_n 0, 1) := by decide +kernel
theorem dX6_isSeat_1 : decode cX6_isSeat 1 = .ok (.i2l, 1) := by decide +kernel
theorem dX6_isSeat_2 : decode cX6_isSeat 2 = .ok (.lconst 0, 1) := by decide +kernel
theorem dX6_isSeat_3 : decode cX6_isSeat 3 = .ok (.ldc2_w 52, 3) := by decide +kernel
theorem dX6_isSeat_6 : decode cX6_isSeat 6 = .ok (.invokestatic 48, 3) := by decide +kernel
theorem dX6_isSeat_9 : decode cX6_isSeat 9 = .ok (.ireturn, 1) := by decide +kernel
theorem dX6_isTopics_0 : decode cX6_isTopics 0 = .ok (.iload_n 0, 1) := by decide +kernel
theorem dX6_isTopics_1 : decode cX6_isTopics 1 = .ok (.i2l, 1) := by decide +kernel
theorem dX6_isTopics_2 : decode cX6_isTopics 2 = .ok (.lconst 1, 1) := by decide +kernel
theorem dX6_isTopics_3 : decode cX6_isTopics 3 = .ok (.ldc2_w 54, 3) := by decide +kernel
theorem dX6_isTopics_6 : decode cX6_isTopics 6 = .ok (.invokestatic 48, 3) := by decide +kernel
theorem dX6_isTopics_9 : decode cX6_isTopics 9 = .ok (.ireturn, 1) := by decide +kernel
theorem dX6_isFun_0 : decode cX6_isFun 0 = .ok (.iload_n 0, 1) := by decide +kernel
theorem dX6_isFun_1 : decode cX6_isFun 1 = .ok (.i2l, 1) := by decide +kernel
theorem dX6_isFun_2 : decode cX6_isFun 2 = .ok (.lconst 0, 1) := by decide +kernel
theorem dX6_isFun_3 : decode cX6_isFun 3 = .ok (.ldc2_w 56, 3) := by decide +kernel
theorem dX6_isFun_6 : decode cX6_isFun 6 = .ok (.invokestatic 48, 3) := by decide +kernel
theorem dX6_isFun_9 : decode cX6_isFun 9 = .ok (.ireturn, 1) := by decide +kernel
theorem dX6_its_0 : decode cX6_its 0 = .ok (.aload_n 0, 1) := by decide +kernel
theorem dX6_its_1 : decode cX6_its 1 = .ok (.getfield 9, 3) := by decide +kernel
theorem dX6_its_4 : decode cX6_its 4 = .ok (.bipush 23, 2) := by decide +kernel
theorem dX6_its_6 : decode cX6_its 6 = .ok (.iconst 5, 1) := by decide +kernel
theorem dX6_its_7 : decode cX6_its 7 = .ok (.iload_n 1, 1) := by decide +kernel
theorem dX6_its_8 : decode cX6_its 8 = .ok (.imul, 1) := by decide +kernel
theorem dX6_its_9 : decode cX6_its 9 = .ok (.iadd, 1) := by decide +kernel
theorem dX6_its_10 : decode cX6_its 10 = .ok (.iload_n 2, 1) := by decide +kernel
theorem dX6_its_11 : decode cX6_its 11 = .ok (.iadd, 1) := by decide +kernel
theorem dX6_its_12 : decode cX6_its 12 = .ok (.iaload, 1) := by decide +kernel
theorem dX6_its_13 : decode cX6_its 13 = .ok (.ireturn, 1) := by decide +kernel
theorem dX6_sets_0 : decode cX6_sets 0 = .ok (.aload_n 0, 1) := by decide +kernel
theorem dX6_sets_1 : decode cX6_sets 1 = .ok (.getfield 9, 3) := by decide +kernel
theorem dX6_sets_4 : decode cX6_sets 4 = .ok (.bipush 23, 2) := by decide +kernel
theorem dX6_sets_6 : decode cX6_sets 6 = .ok (.iconst 5, 1) := by decide +kernel
theorem dX6_sets_7 : decode cX6_sets 7 = .ok (.iload_n 1, 1) := by decide +kernel
theorem dX6_sets_8 : decode cX6_sets 8 = .ok (.imul, 1) := by decide +kernel
theorem dX6_sets_9 : decode cX6_sets 9 = .ok (.iadd, 1) := by decide +kernel
theorem dX6_sets_10 : decode cX6_sets 10 = .ok (.iload_n 2, 1) := by decide +kernel
theorem dX6_sets_11 : decode cX6_sets 11 = .ok (.iadd, 1) := by decide +kernel
theorem dX6_sets_12 : decode cX6_sets 12 = .ok (.iload_n 3, 1) := by decide +kernel
theorem dX6_sets_13 : decode cX6_sets 13 = .ok (.iastore, 1) := by decide +kernel
theorem dX6_sets_14 : decode cX6_sets 14 = .ok (.return_, 1) := by decide +kernel
theorem dX6_becomes_0 : decode cX6_becomes 0 = .ok (.aload_n 0, 1) := by decide +kernel
theorem dX6_becomes_1 : decode cX6_becomes 1 = .ok (.getfield 9, 3) := by decide +kernel
theorem dX6_becomes_4 : decode cX6_becomes 4 = .ok (.iload_n 1, 1) := by decide +kernel
theorem dX6_becomes_5 : decode cX6_becomes 5 = .ok (.iaload, 1) := by decide +kernel
theorem dX6_becomes_6 : decode cX6_becomes 6 = .ok (.istore_n 3, 1) := by decide +kernel
theorem dX6_becomes_7 : decode cX6_becomes 7 = .ok (.aload_n 0, 1) := by decide +kernel
theorem dX6_becomes_8 : decode cX6_becomes 8 = .ok (.getfield 9, 3) := by decide +kernel
theorem dX6_becomes_11 : decode cX6_becomes 11 = .ok (.iload_n 1, 1) := by decide +kernel
theorem dX6_becomes_12 : decode cX6_becomes 12 = .ok (.iload_n 2, 1) := by decide +kernel
theorem dX6_becomes_13 : decode cX6_becomes 13 = .ok (.iastore, 1) := by decide +kernel
theorem dX6_becomes_14 : decode cX6_becomes 14 = .ok (.iload_n 3, 1) := by decide +kernel
theorem dX6_becomes_15 : decode cX6_becomes 15 = .ok (.ireturn, 1) := by decide +kernel
theorem dX6_ones_0 : decode cX6_ones 0 = .ok (.iconst 0, 1) := by decide +kernel
theorem dX6_ones_1 : decode cX6_ones 1 = .ok (.istore_n 1, 1) := by decide +kernel
theorem dX6_ones_2 : decode cX6_ones 2 = .ok (.iconst 0, 1) := by decide +kernel
theorem dX6_ones_3 : decode cX6_ones 3 = .ok (.istore_n 2, 1) := by decide +kernel
theorem dX6_ones_4 : decode cX6_ones 4 = .ok (.iload_n 2, 1) := by decide +kernel
theorem dX6_ones_5 : decode cX6_ones 5 = .ok (.bipush 8, 2) := by decide +kernel
theorem dX6_ones_7 : decode cX6_ones 7 = .ok (.if_icmp .ge 17, 3) := by decide +kernel
theorem dX6_ones_10 : decode cX6_ones 10 = .ok (.iload_n 1, 1) := by decide +kernel
theorem dX6_ones_11 : decode cX6_ones 11 = .ok (.iload_n 0, 1) := by decide +kernel
theorem dX6_ones_12 : decode cX6_ones 12 = .ok (.iload_n 2, 1) := by decide +kernel
theorem dX6_ones_13 : decode cX6_ones 13 = .ok (.ishr, 1) := by decide +kernel
theorem dX6_ones_14 : decode cX6_ones 14 = .ok (.iconst 1, 1) := by decide +kernel
theorem dX6_ones_15 : decode cX6_ones 15 = .ok (.iand, 1) := by decide +kernel
theorem dX6_ones_16 : decode cX6_ones 16 = .ok (.iadd, 1) := by decide +kernel
theorem dX6_ones_17 : decode cX6_ones 17 = .ok (.istore_n 1, 1) := by decide +kernel
theorem dX6_ones_18 : decode cX6_ones 18 = .ok (.iinc 2 1, 3) := by decide +kernel
theorem dX6_ones_21 : decode cX6_ones 21 = .ok (.goto (-17), 3) := by decide +kernel
theorem dX6_ones_24 : decode cX6_ones 24 = .ok (.iload_n 1, 1) := by decide +kernel
theorem dX6_ones_25 : decode cX6_ones 25 = .ok (.ireturn, 1) := by decide +kernel
theorem dX6_everybody_0 : decode cX6_everybody 0 = .ok (.iconst 1, 1) := by decide +kernel
theorem dX6_everybody_1 : decode cX6_everybody 1 = .ok (.aload_n 0, 1) := by decide +kernel
theorem dX6_everybody_2 : decode cX6_everybody 2 = .ok (.getfield 9, 3) := by decide +kernel
theorem dX6_everybody_5 : decode cX6_everybody 5 = .ok (.iconst 5, 1) := by decide +kernel
theorem dX6_everybody_6 : decode cX6_everybody 6 = .ok (.iaload, 1) := by decide +kernel
theorem dX6_everybody_7 : decode cX6_everybody 7 = .ok (.ishl, 1) := by decide +kernel
theorem dX6_everybody_8 : decode cX6_everybody 8 = .ok (.iconst 1, 1) := by decide +kernel
theorem dX6_everybody_9 : decode cX6_everybody 9 = .ok (.isub, 1) := by decide +kernel
theorem dX6_everybody_10 : decode cX6_everybody 10 = .ok (.ireturn, 1) := by decide +kernel
theorem dX6_aboveOf_0 : decode cX6_aboveOf 0 = .ok (.iload_n 0, 1) := by decide +kernel
theorem dX6_aboveOf_1 : decode cX6_aboveOf 1 = .ok (.iconst 3, 1) := by decide +kernel
theorem dX6_aboveOf_2 : decode cX6_aboveOf 2 = .ok (.if_icmp .ne 7, 3) := by decide +kernel
theorem dX6_aboveOf_5 : decode cX6_aboveOf 5 = .ok (.iconst 2, 1) := by decide +kernel
theorem dX6_aboveOf_6 : decode cX6_aboveOf 6 = .ok (.goto 23, 3) := by decide +kernel
theorem dX6_aboveOf_9 : decode cX6_aboveOf 9 = .ok (.iload_n 0, 1) := by decide +kernel
theorem dX6_aboveOf_10 : decode cX6_aboveOf 10 = .ok (.iconst 4, 1) := by decide +kernel
theorem dX6_aboveOf_11 : decode cX6_aboveOf 11 = .ok (.if_icmp .ne 7, 3) := by decide +kernel
theorem dX6_aboveOf_14 : decode cX6_aboveOf 14 = .ok (.iconst 3, 1) := by decide +kernel
theorem dX6_aboveOf_15 : decode cX6_aboveOf 15 = .ok (.goto 14, 3) := by decide +kernel
theorem dX6_aboveOf_18 : decode cX6_aboveOf 18 = .ok (.iload_n 0, 1) := by decide +kernel
theorem dX6_aboveOf_19 : decode cX6_aboveOf 19 = .ok (.bipush 6, 2) := by decide +kernel
theorem dX6_aboveOf_21 : decode cX6_aboveOf 21 = .ok (.if_icmp .ne 7, 3) := by decide +kernel
theorem dX6_aboveOf_24 : decode cX6_aboveOf 24 = .ok (.iconst 1, 1) := by decide +kernel
theorem dX6_aboveOf_25 : decode cX6_aboveOf 25 = .ok (.goto 4, 3) := by decide +kernel
theorem dX6_aboveOf_28 : decode cX6_aboveOf 28 = .ok (.iconst 0, 1) := by decide +kernel
theorem dX6_aboveOf_29 : decode cX6_aboveOf 29 = .ok (.ireturn, 1) := by decide +kernel
theorem dX6_isUnder_0 : decode cX6_isUnder 0 = .ok (.iload_n 0, 1) := by decide +kernel
theorem dX6_isUnder_1 : decode cX6_isUnder 1 = .ok (.istore_n 2, 1) := by decide +kernel
theorem dX6_isUnder_2 : decode cX6_isUnder 2 = .ok (.iload_n 2, 1) := by decide +kernel
theorem dX6_isUnder_3 : decode cX6_isUnder 3 = .ok (.ifCond .eq 16, 3) := by decide +kernel
theorem dX6_isUnder_6 : decode cX6_isUnder 6 = .ok (.iload_n 2, 1) := by decide +kernel
theorem dX6_isUnder_7 : decode cX6_isUnder 7 = .ok (.iload_n 1, 1) := by decide +kernel
theorem dX6_isUnder_8 : decode cX6_isUnder 8 = .ok (.if_icmp .eq 11, 3) := by decide +kernel
theorem dX6_isUnder_11 : decode cX6_isUnder 11 = .ok (.iload_n 2, 1) := by decide +kernel
theorem dX6_isUnder_12 : decode cX6_isUnder 12 = .ok (.invokestatic 58, 3) := by decide +kernel
theorem dX6_isUnder_15 : decode cX6_isUnder 15 = .ok (.istore_n 2, 1) := by decide +kernel
theorem dX6_isUnder_16 : decode cX6_isUnder 16 = .ok (.goto (-14), 3) := by decide +kernel
theorem dX6_isUnder_19 : decode cX6_isUnder 19 = .ok (.iload_n 2, 1) := by decide +kernel
theorem dX6_isUnder_20 : decode cX6_isUnder 20 = .ok (.iload_n 1, 1) := by decide +kernel
theorem dX6_isUnder_21 : decode cX6_isUnder 21 = .ok (.if_icmp .ne 7, 3) := by decide +kernel
theorem dX6_isUnder_24 : decode cX6_isUnder 24 = .ok (.iconst 1, 1) := by decide +kernel
theorem dX6_isUnder_25 : decode cX6_isUnder 25 = .ok (.goto 4, 3) := by decide +kernel
theorem dX6_isUnder_28 : decode cX6_isUnder 28 = .ok (.iconst 0, 1) := by decide +kernel
theorem dX6_isUnder_29 : decode cX6_isUnder 29 = .ok (.ireturn, 1) := by decide +kernel
theorem dX6_isKind_0 : decode cX6_isKind 0 = .ok (.iload_n 0, 1) := by decide +kernel
theorem dX6_isKind_1 : decode cX6_isKind 1 = .ok (.i2l, 1) := by decide +kernel
theorem dX6_isKind_2 : decode cX6_isKind 2 = .ok (.lconst 0, 1) := by decide +kernel
theorem dX6_isKind_3 : decode cX6_isKind 3 = .ok (.ldc2_w 62, 3) := by decide +kernel
theorem dX6_isKind_6 : decode cX6_isKind 6 = .ok (.invokestatic 48, 3) := by decide +kernel
theorem dX6_isKind_9 : decode cX6_isKind 9 = .ok (.ireturn, 1) := by decide +kernel
theorem dX6_bound_0 : decode cX6_bound 0 = .ok (.bipush 8, 2) := by decide +kernel
theorem dX6_bound_2 : decode cX6_bound 2 = .ok (.bipush 20, 2) := by decide +kernel
theorem dX6_bound_4 : decode cX6_bound 4 = .ok (.aload_n 0, 1) := by decide +kernel
theorem dX6_bound_5 : decode cX6_bound 5 = .ok (.iload_n 1, 1) := by decide +kernel
theorem dX6_bound_6 : decode cX6_bound 6 = .ok (.iconst 4, 1) := by decide +kernel
theorem dX6_bound_7 : decode cX6_bound 7 = .ok (.invokevirtual 64, 3) := by decide +kernel
theorem dX6_bound_10 : decode cX6_bound 10 = .ok (.bipush 10, 2) := by decide +kernel
theorem dX6_bound_12 : decode cX6_bound 12 = .ok (.idiv, 1) := by decide +kernel
theorem dX6_bound_13 : decode cX6_bound 13 = .ok (.invokestatic 68, 3) := by decide +kernel
theorem dX6_bound_16 : decode cX6_bound 16 = .ok (.iadd, 1) := by decide +kernel
theorem dX6_bound_17 : decode cX6_bound 17 = .ok (.istore_n 2, 1) := by decide +kernel
theorem dX6_bound_18 : decode cX6_bound 18 = .ok (.aload_n 0, 1) := by decide +kernel
theorem dX6_bound_19 : decode cX6_bound 19 = .ok (.iload_n 1, 1) := by decide +kernel
theorem dX6_bound_20 : decode cX6_bound 20 = .ok (.iconst 0, 1) := by decide +kernel
theorem dX6_bound_21 : decode cX6_bound 21 = .ok (.invokevirtual 64, 3) := by decide +kernel
theorem dX6_bound_24 : decode cX6_bound 24 = .ok (.tableswitch 55 1 6 #[40, 46, 48, 50, 53, 42], 40) := by decide +kernel
theorem dX6_bound_64 : decode cX6_bound 64 = .ok (.iload_n 2, 1) := by decide +kernel
theorem dX6_bound_65 : decode cX6_bound 65 = .ok (.ireturn, 1) := by decide +kernel
theorem dX6_bound_66 : decode cX6_bound 66 = .ok (.iload_n 2, 1) := by decide +kernel
theorem dX6_bound_67 : decode cX6_bound 67 = .ok (.iconst 4, 1) := by decide +kernel
theorem dX6_bound_68 : decode cX6_bound 68 = .ok (.iadd, 1) := by decide +kernel
theorem dX6_bound_69 : decode cX6_bound 69 = .ok (.ireturn, 1) := by decide +kernel
theorem dX6_bound_70 : decode cX6_bound 70 = .ok (.iconst 4, 1) := by decide +kernel
theorem dX6_bound_71 : decode cX6_bound 71 = .ok (.ireturn, 1) := by decide +kernel
theorem dX6_bound_72 : decode cX6_bound 72 = .ok (.iconst 3, 1) := by decide +kernel
theorem dX6_bound_73 : decode cX6_bound 73 = .ok (.ireturn, 1) := by decide +kernel
theorem dX6_bound_74 : decode cX6_bound 74 = .ok (.bipush 93, 2) := by decide +kernel
theorem dX6_bound_76 : decode cX6_bound 76 = .ok (.ireturn, 1) := by decide +kernel
theorem dX6_bound_77 : decode cX6_bound 77 = .ok (.iconst 5, 1) := by decide +kernel
theorem dX6_bound_78 : decode cX6_bound 78 = .ok (.ireturn, 1) := by decide +kernel
theorem dX6_bound_79 : decode cX6_bound 79 = .ok (.bipush 8, 2) := by decide +kernel
theorem dX6_bound_81 : decode cX6_bound 81 = .ok (.ireturn, 1) := by decide +kernel
theorem dX6_numberOf_0 : decode cX6_numberOf 0 = .ok (.aload_n 0, 1) := by decide +kernel
theorem dX6_numberOf_1 : decode cX6_numberOf 1 = .ok (.iload_n 1, 1) := by decide +kernel
theorem dX6_numberOf_2 : decode cX6_numberOf 2 = .ok (.iconst 0, 1) := by decide +kernel
theorem dX6_numberOf_3 : decode cX6_numberOf 3 = .ok (.invokevirtual 64, 3) := by decide +kernel
theorem dX6_numberOf_6 : decode cX6_numberOf 6 = .ok (.tableswitch 64 1 6 #[38, 43, 43, 45, 48, 40], 38) := by decide +kernel
theorem dX6_numberOf_44 : decode cX6_numberOf 44 = .ok (.iconst 3, 1) := by decide +kernel
theorem dX6_numberOf_45 : decode cX6_numberOf 45 = .ok (.ireturn, 1) := by decide +kernel
theorem dX6_numberOf_46 : decode cX6_numberOf 46 = .ok (.bipush 6, 2) := by decide +kernel
theorem dX6_numberOf_48 : decode cX6_numberOf 48 = .ok (.ireturn, 1) := by decide +kernel
theorem dX6_numberOf_49 : decode cX6_numberOf 49 = .ok (.iconst 1, 1) := by decide +kernel
theorem dX6_numberOf_50 : decode cX6_numberOf 50 = .ok (.ireturn, 1) := by decide +kernel
theorem dX6_numberOf_51 : decode cX6_numberOf 51 = .ok (.bipush 9, 2) := by decide +kernel
theorem dX6_numberOf_53 : decode cX6_numberOf 53 = .ok (.ireturn, 1) := by decide +kernel
theorem dX6_numberOf_54 : decode cX6_numberOf 54 = .ok (.aload_n 0, 1) := by decide +kernel
theorem dX6_numberOf_55 : decode cX6_numberOf 55 = .ok (.iload_n 1, 1) := by decide +kernel
theorem dX6_numberOf_56 : decode cX6_numberOf 56 = .ok (.iconst 3, 1) := by decide +kernel
theorem dX6_numberOf_57 : decode cX6_numberOf 57 = .ok (.invokevirtual 64, 3) := by decide +kernel
theorem dX6_numberOf_60 : decode cX6_numberOf 60 = .ok (.iconst 5, 1) := by decide +kernel
theorem dX6_numberOf_61 : decode cX6_numberOf 61 = .ok (.if_icmp .lt 7, 3) := by decide +kernel
theorem dX6_numberOf_64 : decode cX6_numberOf 64 = .ok (.iconst 1, 1) := by decide +kernel
theorem dX6_numberOf_65 : decode cX6_numberOf 65 = .ok (.goto 4, 3) := by decide +kernel
theorem dX6_numberOf_68 : decode cX6_numberOf 68 = .ok (.iconst 2, 1) := by decide +kernel
theorem dX6_numberOf_69 : decode cX6_numberOf 69 = .ok (.ireturn, 1) := by decide +kernel
theorem dX6_numberOf_70 : decode cX6_numberOf 70 = .ok (.iconst 2, 1) := by decide +kernel
theorem dX6_numberOf_71 : decode cX6_numberOf 71 = .ok (.ireturn, 1) := by decide +kernel
theorem dX6_near_0 : decode cX6_near 0 = .ok (.iconst 0, 1) := by decide +kernel
theorem dX6_near_1 : decode cX6_near 1 = .ok (.istore_n 2, 1) := by decide +kernel
theorem dX6_near_2 : decode cX6_near 2 = .ok (.iconst 0, 1) := by decide +kernel
theorem dX6_near_3 : decode cX6_near 3 = .ok (.istore_n 3, 1) := by decide +kernel
theorem dX6_near_4 : decode cX6_near 4 = .ok (.iload_n 3, 1) := by decide +kernel
theorem dX6_near_5 : decode cX6_near 5 = .ok (.aload_n 0, 1) := by decide +kernel
theorem dX6_near_6 : decode cX6_near 6 = .ok (.getfield 9, 3) := by decide +kernel
theorem dX6_near_9 : decode cX6_near 9 = .ok (.iconst 5, 1) := by decide +kernel
theorem dX6_near_10 : decode cX6_near 10 = .ok (.iaload, 1) := by decide +kernel
theorem dX6_near_11 : decode cX6_near 11 = .ok (.if_icmp .ge 61, 3) := by decide +kernel
theorem dX6_near_14 : decode cX6_near 14 = .ok (.iload_n 3, 1) := by decide +kernel
theorem dX6_near_15 : decode cX6_near 15 = .ok (.iload_n 1, 1) := by decide +kernel
theorem dX6_near_16 : decode cX6_near 16 = .ok (.if_icmp .eq 32, 3) := by decide +kernel
theorem dX6_near_19 : decode cX6_near 19 = .ok (.aload_n 0, 1) := by decide +kernel
theorem dX6_near_20 : decode cX6_near 20 = .ok (.iload_n 3, 1) := by decide +kernel
theorem dX6_near_21 : decode cX6_near 21 = .ok (.iconst 1, 1) := by decide +kernel
theorem dX6_near_22 : decode cX6_near 22 = .ok (.invokevirtual 64, 3) := by decide +kernel
theorem dX6_near_25 : decode cX6_near 25 = .ok (.aload_n 0, 1) := by decide +kernel
theorem dX6_near_26 : decode cX6_near 26 = .ok (.iload_n 1, 1) := by decide +kernel
theorem dX6_near_27 : decode cX6_near 27 = .ok (.iconst 1, 1) := by decide +kernel
theorem dX6_near_28 : decode cX6_near 28 = .ok (.invokevirtual 64, 3) := by decide +kernel
theorem dX6_near_31 : decode cX6_near 31 = .ok (.isub, 1) := by decide +kernel
theorem dX6_near_32 : decode cX6_near 32 = .ok (.invokestatic 73, 3) := by decide +kernel
theorem dX6_near_35 : decode cX6_near 35 = .ok (.aload_n 0, 1) := by decide +kernel
theorem dX6_near_36 : decode cX6_near 36 = .ok (.getfield 9, 3) := by decide +kernel
theorem dX6_near_39 : decode cX6_near 39 = .ok (.iconst 1, 1) := by decide +kernel
theorem dX6_near_40 : decode cX6_near 40 = .ok (.iaload, 1) := by decide +kernel
theorem dX6_near_41 : decode cX6_near 41 = .ok (.if_icmp .gt 7, 3) := by decide +kernel
theorem dX6_near_44 : decode cX6_near 44 = .ok (.iconst 1, 1) := by decide +kernel
theorem dX6_near_45 : decode cX6_near 45 = .ok (.goto 4, 3) := by decide +kernel
theorem dX6_near_48 : decode cX6_near 48 = .ok (.iconst 0, 1) := by decide +kernel
theorem dX6_near_49 : decode cX6_near 49 = .ok (.istore 4, 2) := by decide +kernel
theorem dX6_near_51 : decode cX6_near 51 = .ok (.iload_n 2, 1) := by decide +kernel
theorem dX6_near_52 : decode cX6_near 52 = .ok (.iload 4, 2) := by decide +kernel
theorem dX6_near_54 : decode cX6_near 54 = .ok (.ifCond .eq 9, 3) := by decide +kernel
theorem dX6_near_57 : decode cX6_near 57 = .ok (.iconst 1, 1) := by decide +kernel
theorem dX6_near_58 : decode cX6_near 58 = .ok (.iload_n 3, 1) := by decide +kernel
theorem dX6_near_59 : decode cX6_near 59 = .ok (.ishl, 1) := by decide +kernel
theorem dX6_near_60 : decode cX6_near 60 = .ok (.goto 4, 3) := by decide +kernel
theorem dX6_near_63 : decode cX6_near 63 = .ok (.iconst 0, 1) := by decide +kernel
theorem dX6_near_64 : decode cX6_near 64 = .ok (.ior, 1) := by decide +kernel
theorem dX6_near_65 : decode cX6_near 65 = .ok (.istore_n 2, 1) := by decide +kernel
theorem dX6_near_66 : decode cX6_near 66 = .ok (.iinc 3 1, 3) := by decide +kernel
theorem dX6_near_69 : decode cX6_near 69 = .ok (.goto (-65), 3) := by decide +kernel
theorem dX6_near_72 : decode cX6_near 72 = .ok (.iload_n 2, 1) := by decide +kernel
theorem dX6_near_73 : decode cX6_near 73 = .ok (.ireturn, 1) := by decide +kernel
theorem dX6_strong_0 : decode cX6_strong 0 = .ok (.iload_n 2, 1) := by decide +kernel
theorem dX6_strong_1 : decode cX6_strong 1 = .ok (.iload_n 1, 1) := by decide +kernel
theorem dX6_strong_2 : decode cX6_strong 2 = .ok (.aload_n 0, 1) := by decide +kernel
theorem dX6_strong_3 : decode cX6_strong 3 = .ok (.iload_n 3, 1) := by decide +kernel
theorem dX6_strong_4 : decode cX6_strong 4 = .ok (.iconst 2, 1) := by decide +kernel
theorem dX6_strong_5 : decode cX6_strong 5 = .ok (.invokevirtual 64, 3) := by decide +kernel
theorem dX6_strong_8 : decode cX6_strong 8 = .ok (.iand, 1) := by decide +kernel
theorem dX6_strong_9 : decode cX6_strong 9 = .ok (.invokestatic 76, 3) := by decide +kernel
theorem dX6_strong_12 : decode cX6_strong 12 = .ok (.imul, 1) := by decide +kernel
theorem dX6_strong_13 : decode cX6_strong 13 = .ok (.aload_n 0, 1) := by decide +kernel
theorem dX6_strong_14 : decode cX6_strong 14 = .ok (.iload_n 3, 1) := by decide +kernel
theorem dX6_strong_15 : decode cX6_strong 15 = .ok (.iconst 3, 1) := by decide +kernel
theorem dX6_strong_16 : decode cX6_strong 16 = .ok (.invokevirtual 64, 3) := by decide +kernel
theorem dX6_strong_19 : decode cX6_strong 19 = .ok (.iadd, 1) := by decide +kernel
theorem dX6_strong_20 : decode cX6_strong 20 = .ok (.ireturn, 1) := by decide +kernel
theorem dX6_seconds_0 : decode cX6_seconds 0 = .ok (.iconst 1, 1) := by decide +kernel
theorem dX6_seconds_1 : decode cX6_seconds 1 = .ok (.bipush 30, 2) := by decide +kernel
theorem dX6_seconds_3 : decode cX6_seconds 3 = .ok (.aload_n 0, 1) := by decide +kernel
theorem dX6_seconds_4 : decode cX6_seconds 4 = .ok (.iload_n 1, 1) := by decide +kernel
theorem dX6_seconds_5 : decode cX6_seconds 5 = .ok (.iload_n 2, 1) := by decide +kernel
theorem dX6_seconds_6 : decode cX6_seconds 6 = .ok (.iload_n 3, 1) := by decide +kernel
theorem dX6_seconds_7 : decode cX6_seconds 7 = .ok (.invokevirtual 79, 3) := by decide +kernel
theorem dX6_seconds_10 : decode cX6_seconds 10 = .ok (.invokestatic 68, 3) := by decide +kernel
theorem dX6_seconds_13 : decode cX6_seconds 13 = .ok (.invokestatic 83, 3) := by decide +kernel
theorem dX6_seconds_16 : decode cX6_seconds 16 = .ok (.istore 4, 2) := by decide +kernel
theorem dX6_seconds_18 : decode cX6_seconds 18 = .ok (.aload_n 0, 1) := by decide +kernel
theorem dX6_seconds_19 : decode cX6_seconds 19 = .ok (.iload_n 3, 1) := by decide +kernel
theorem dX6_seconds_20 : decode cX6_seconds 20 = .ok (.iconst 0, 1) := by decide +kernel
theorem dX6_seconds_21 : decode cX6_seconds 21 = .ok (.invokevirtual 64, 3) := by decide +kernel
theorem dX6_seconds_24 : decode cX6_seconds 24 = .ok (.tableswitch 63 1 6 #[40, 49, 54, 61, 63, 47], 40) := by decide +kernel
theorem dX6_seconds_64 : decode cX6_seconds 64 = .ok (.iload 4, 2) := by decide +kernel
theorem dX6_seconds_66 : decode cX6_seconds 66 = .ok (.iconst 2, 1) := by decide +kernel
theorem dX6_seconds_67 : decode cX6_seconds 67 = .ok (.idiv, 1) := by decide +kernel
theorem dX6_seconds_68 : decode cX6_seconds 68 = .ok (.iconst 1, 1) := by decide +kernel
theorem dX6_seconds_69 : decode cX6_seconds 69 = .ok (.iadd, 1) := by decide +kernel
theorem dX6_seconds_70 : decode cX6_seconds 70 = .ok (.ireturn, 1) := by decide +kernel
theorem dX6_seconds_71 : decode cX6_seconds 71 = .ok (.iconst 1, 1) := by decide +kernel
theorem dX6_seconds_72 : decode cX6_seconds 72 = .ok (.ireturn, 1) := by decide +kernel
theorem dX6_seconds_73 : decode cX6_seconds 73 = .ok (.iconst 2, 1) := by decide +kernel
theorem dX6_seconds_74 : decode cX6_seconds 74 = .ok (.iload 4, 2) := by decide +kernel
theorem dX6_seconds_76 : decode cX6_seconds 76 = .ok (.imul, 1) := by decide +kernel
theorem dX6_seconds_77 : decode cX6_seconds 77 = .ok (.ireturn, 1) := by decide +kernel
theorem dX6_seconds_78 : decode cX6_seconds 78 = .ok (.iconst 2, 1) := by decide +kernel
theorem dX6_seconds_79 : decode cX6_seconds 79 = .ok (.iload 4, 2) := by decide +kernel
theorem dX6_seconds_81 : decode cX6_seconds 81 = .ok (.imul, 1) := by decide +kernel
theorem dX6_seconds_82 : decode cX6_seconds 82 = .ok (.iconst 5, 1) := by decide +kernel
theorem dX6_seconds_83 : decode cX6_seconds 83 = .ok (.iadd, 1) := by decide +kernel
theorem dX6_seconds_84 : decode cX6_seconds 84 = .ok (.ireturn, 1) := by decide +kernel
theorem dX6_seconds_85 : decode cX6_seconds 85 = .ok (.iconst 0, 1) := by decide +kernel
theorem dX6_seconds_86 : decode cX6_seconds 86 = .ok (.ireturn, 1) := by decide +kernel
theorem dX6_seconds_87 : decode cX6_seconds 87 = .ok (.iload 4, 2) := by decide +kernel
theorem dX6_seconds_89 : decode cX6_seconds 89 = .ok (.ireturn, 1) := by decide +kernel
theorem dX6_due_0 : decode cX6_due 0 = .ok (.aload_n 0, 1) := by decide +kernel
theorem dX6_due_1 : decode cX6_due 1 = .ok (.iload_n 1, 1) := by decide +kernel
theorem dX6_due_2 : decode cX6_due 2 = .ok (.iload_n 2, 1) := by decide +kernel
theorem dX6_due_3 : decode cX6_due 3 = .ok (.iload_n 3, 1) := by decide +kernel
theorem dX6_due_4 : decode cX6_due 4 = .ok (.invokevirtual 86, 3) := by decide +kernel
theorem dX6_due_7 : decode cX6_due 7 = .ok (.aload_n 0, 1) := by decide +kernel
theorem dX6_due_8 : decode cX6_due 8 = .ok (.getfield 9, 3) := by decide +kernel
theorem dX6_due_11 : decode cX6_due 11 = .ok (.iconst 0, 1) := by decide +kernel
theorem dX6_due_12 : decode cX6_due 12 = .ok (.iaload, 1) := by decide +kernel
theorem dX6_due_13 : decode cX6_due 13 = .ok (.imul, 1) := by decide +kernel
theorem dX6_due_14 : decode cX6_due 14 = .ok (.aload_n 0, 1) := by decide +kernel
theorem dX6_due_15 : decode cX6_due 15 = .ok (.iload_n 3, 1) := by decide +kernel
theorem dX6_due_16 : decode cX6_due 16 = .ok (.invokevirtual 89, 3) := by decide +kernel
theorem dX6_due_19 : decode cX6_due 19 = .ok (.invokestatic 76, 3) := by decide +kernel
theorem dX6_due_22 : decode cX6_due 22 = .ok (.imul, 1) := by decide +kernel
theorem dX6_due_23 : decode cX6_due 23 = .ok (.bipush 10, 2) := by decide +kernel
theorem dX6_due_25 : decode cX6_due 25 = .ok (.idiv, 1) := by decide +kernel
theorem dX6_due_26 : decode cX6_due 26 = .ok (.ireturn, 1) := by decide +kernel
theorem dX6_adds_0 : decode cX6_adds 0 = .ok (.aload_n 0, 1) := by decide +kernel
theorem dX6_adds_1 : decode cX6_adds 1 = .ok (.getfield 9, 3) := by decide +kernel
theorem dX6_adds_4 : decode cX6_adds 4 = .ok (.iconst 5, 1) := by decide +kernel
theorem dX6_adds_5 : decode cX6_adds 5 = .ok (.iaload, 1) := by decide +kernel
theorem dX6_adds_6 : decode cX6_adds 6 = .ok (.istore_n 3, 1) := by decide +kernel
theorem dX6_adds_7 : decode cX6_adds 7 = .ok (.aload_n 0, 1) := by decide +kernel
theorem dX6_adds_8 : decode cX6_adds 8 = .ok (.getfield 9, 3) := by decide +kernel
theorem dX6_adds_11 : decode cX6_adds 11 = .ok (.iconst 5, 1) := by decide +kernel
theorem dX6_adds_12 : decode cX6_adds 12 = .ok (.dup2, 1) := by decide +kernel
theorem dX6_adds_13 : decode cX6_adds 13 = .ok (.iaload, 1) := by decide +kernel
theorem dX6_adds_14 : decode cX6_adds 14 = .ok (.iconst 1, 1) := by decide +kernel
theorem dX6_adds_15 : decode cX6_adds 15 = .ok (.iadd, 1) := by decide +kernel
theorem dX6_adds_16 : decode cX6_adds 16 = .ok (.iastore, 1) := by decide +kernel
theorem dX6_adds_17 : decode cX6_adds 17 = .ok (.aload_n 0, 1) := by decide +kernel
theorem dX6_adds_18 : decode cX6_adds 18 = .ok (.iload_n 3, 1) := by decide +kernel
theorem dX6_adds_19 : decode cX6_adds 19 = .ok (.iconst 0, 1) := by decide +kernel
theorem dX6_adds_20 : decode cX6_adds 20 = .ok (.iload_n 1, 1) := by decide +kernel
theorem dX6_adds_21 : decode cX6_adds 21 = .ok (.invokevirtual 92, 3) := by decide +kernel
theorem dX6_adds_24 : decode cX6_adds 24 = .ok (.aload_n 0, 1) := by decide +kernel
theorem dX6_adds_25 : decode cX6_adds 25 = .ok (.iload_n 3, 1) := by decide +kernel
theorem dX6_adds_26 : decode cX6_adds 26 = .ok (.iconst 1, 1) := by decide +kernel
theorem dX6_adds_27 : decode cX6_adds 27 = .ok (.iload_n 2, 1) := by decide +kernel
theorem dX6_adds_28 : decode cX6_adds 28 = .ok (.invokevirtual 92, 3) := by decide +kernel
theorem dX6_adds_31 : decode cX6_adds 31 = .ok (.aload_n 0, 1) := by decide +kernel
theorem dX6_adds_32 : decode cX6_adds 32 = .ok (.iload_n 3, 1) := by decide +kernel
theorem dX6_adds_33 : decode cX6_adds 33 = .ok (.iconst 2, 1) := by decide +kernel
theorem dX6_adds_34 : decode cX6_adds 34 = .ok (.iconst 1, 1) := by decide +kernel
theorem dX6_adds_35 : decode cX6_adds 35 = .ok (.invokevirtual 92, 3) := by decide +kernel
theorem dX6_adds_38 : decode cX6_adds 38 = .ok (.aload_n 0, 1) := by decide +kernel
theorem dX6_adds_39 : decode cX6_adds 39 = .ok (.iload_n 3, 1) := by decide +kernel
theorem dX6_adds_40 : decode cX6_adds 40 = .ok (.iconst 3, 1) := by decide +kernel
theorem dX6_adds_41 : decode cX6_adds 41 = .ok (.iconst 3, 1) := by decide +kernel
theorem dX6_adds_42 : decode cX6_adds 42 = .ok (.invokevirtual 92, 3) := by decide +kernel
theorem dX6_adds_45 : decode cX6_adds 45 = .ok (.aload_n 0, 1) := by decide +kernel
theorem dX6_adds_46 : decode cX6_adds 46 = .ok (.iload_n 3, 1) := by decide +kernel
theorem dX6_adds_47 : decode cX6_adds 47 = .ok (.iconst 4, 1) := by decide +kernel
theorem dX6_adds_48 : decode cX6_adds 48 = .ok (.bipush 100, 2) := by decide +kernel
theorem dX6_adds_50 : decode cX6_adds 50 = .ok (.invokevirtual 92, 3) := by decide +kernel
theorem dX6_adds_53 : decode cX6_adds 53 = .ok (.iload_n 3, 1) := by decide +kernel
theorem dX6_adds_54 : decode cX6_adds 54 = .ok (.ireturn, 1) := by decide +kernel
theorem dX6_person_0 : decode cX6_person 0 = .ok (.iload_n 1, 1) := by decide +kernel
theorem dX6_person_1 : decode cX6_person 1 = .ok (.invokestatic 96, 3) := by decide +kernel
theorem dX6_person_4 : decode cX6_person 4 = .ok (.ifCond .eq 10, 3) := by decide +kernel
theorem dX6_person_7 : decode cX6_person 7 = .ok (.iload_n 2, 1) := by decide +kernel
theorem dX6_person_8 : decode cX6_person 8 = .ok (.invokestatic 100, 3) := by decide +kernel
theorem dX6_person_11 : decode cX6_person 11 = .ok (.ifCond .ne 9, 3) := by decide +kernel
theorem dX6_person_14 : decode cX6_person 14 = .ok (.aload_n 0, 1) := by decide +kernel
theorem dX6_person_15 : decode cX6_person 15 = .ok (.iconst 0, 1) := by decide +kernel
theorem dX6_person_16 : decode cX6_person 16 = .ok (.invokevirtual 103, 3) := by decide +kernel
theorem dX6_person_19 : decode cX6_person 19 = .ok (.ireturn, 1) := by decide +kernel
theorem dX6_person_20 : decode cX6_person 20 = .ok (.aload_n 0, 1) := by decide +kernel
theorem dX6_person_21 : decode cX6_person 21 = .ok (.getfield 9, 3) := by decide +kernel
theorem dX6_person_24 : decode cX6_person 24 = .ok (.iconst 5, 1) := by decide +kernel
theorem dX6_person_25 : decode cX6_person 25 = .ok (.iaload, 1) := by decide +kernel
theorem dX6_person_26 : decode cX6_person 26 = .ok (.bipush 8, 2) := by decide +kernel
theorem dX6_person_28 : decode cX6_person 28 = .ok (.if_icmp .ne 11, 3) := by decide +kernel
theorem dX6_person_31 : decode cX6_person 31 = .ok (.aload_n 0, 1) := by decide +kernel
theorem dX6_person_32 : decode cX6_person 32 = .ok (.iconst 1, 1) := by decide +kernel
theorem dX6_person_33 : decode cX6_person 33 = .ok (.invokevirtual 103, 3) := by decide +kernel
theorem dX6_person_36 : decode cX6_person 36 = .ok (.goto 9, 3) := by decide +kernel
theorem dX6_person_39 : decode cX6_person 39 = .ok (.aload_n 0, 1) := by decide +kernel
theorem dX6_person_40 : decode cX6_person 40 = .ok (.iload_n 1, 1) := by decide +kernel
theorem dX6_person_41 : decode cX6_person 41 = .ok (.iload_n 2, 1) := by decide +kernel
theorem dX6_person_42 : decode cX6_person 42 = .ok (.invokevirtual 106, 3) := by decide +kernel
theorem dX6_person_45 : decode cX6_person 45 = .ok (.ireturn, 1) := by decide +kernel
theorem dX6_of_0 : decode cX6_of 0 = .ok (.aload_n 0, 1) := by decide +kernel
theorem dX6_of_1 : decode cX6_of 1 = .ok (.iload_n 1, 1) := by decide +kernel
theorem dX6_of_2 : decode cX6_of 2 = .ok (.invokevirtual 109, 3) := by decide +kernel
theorem dX6_of_5 : decode cX6_of 5 = .ok (.ifCond .eq 15, 3) := by decide +kernel
theorem dX6_of_8 : decode cX6_of 8 = .ok (.iload_n 2, 1) := by decide +kernel
theorem dX6_of_9 : decode cX6_of 9 = .ok (.i2l, 1) := by decide +kernel
theorem dX6_of_10 : decode cX6_of 10 = .ok (.lconst 0, 1) := by decide +kernel
theorem dX6_of_11 : decode cX6_of 11 = .ok (.ldc2_w 112, 3) := by decide +kernel
theorem dX6_of_14 : decode cX6_of 14 = .ok (.invokestatic 48, 3) := by decide +kernel
theorem dX6_of_17 : decode cX6_of 17 = .ok (.ifCond .ne 9, 3) := by decide +kernel
theorem dX6_of_20 : decode cX6_of 20 = .ok (.aload_n 0, 1) := by decide +kernel
theorem dX6_of_21 : decode cX6_of 21 = .ok (.iconst 0, 1) := by decide +kernel
theorem dX6_of_22 : decode cX6_of 22 = .ok (.invokevirtual 103, 3) := by decide +kernel
theorem dX6_of_25 : decode cX6_of 25 = .ok (.ireturn, 1) := by decide +kernel
theorem dX6_of_26 : decode cX6_of 26 = .ok (.iload_n 2, 1) := by decide +kernel
theorem dX6_of_27 : decode cX6_of 27 = .ok (.tableswitch 46 5 7 #[25, 31, 37], 25) := by decide +kernel
theorem dX6_of_52 : decode cX6_of 52 = .ok (.aload_n 0, 1) := by decide +kernel
theorem dX6_of_53 : decode cX6_of 53 = .ok (.iload_n 1, 1) := by decide +kernel
theorem dX6_of_54 : decode cX6_of 54 = .ok (.invokevirtual 114, 3) := by decide +kernel
theorem dX6_of_57 : decode cX6_of 57 = .ok (.ireturn, 1) := by decide +kernel
theorem dX6_of_58 : decode cX6_of 58 = .ok (.aload_n 0, 1) := by decide +kernel
theorem dX6_of_59 : decode cX6_of 59 = .ok (.iload_n 1, 1) := by decide +kernel
theorem dX6_of_60 : decode cX6_of 60 = .ok (.invokevirtual 117, 3) := by decide +kernel
theorem dX6_of_63 : decode cX6_of 63 = .ok (.ireturn, 1) := by decide +kernel
theorem dX6_of_64 : decode cX6_of 64 = .ok (.aload_n 0, 1) := by decide +kernel
theorem dX6_of_65 : decode cX6_of 65 = .ok (.iload_n 1, 1) := by decide +kernel
theorem dX6_of_66 : decode cX6_of 66 = .ok (.invokevirtual 89, 3) := by decide +kernel
theorem dX6_of_69 : decode cX6_of 69 = .ok (.invokestatic 76, 3) := by decide +kernel
theorem dX6_of_72 : decode cX6_of 72 = .ok (.ireturn, 1) := by decide +kernel
theorem dX6_of_73 : decode cX6_of 73 = .ok (.aload_n 0, 1) := by decide +kernel
theorem dX6_of_74 : decode cX6_of 74 = .ok (.iload_n 1, 1) := by decide +kernel
theorem dX6_of_75 : decode cX6_of 75 = .ok (.iload_n 2, 1) := by decide +kernel
theorem dX6_of_76 : decode cX6_of 76 = .ok (.invokevirtual 64, 3) := by decide +kernel
theorem dX6_of_79 : decode cX6_of 79 = .ok (.ireturn, 1) := by decide +kernel
theorem dX6_mayBe_0 : decode cX6_mayBe 0 = .ok (.iload_n 0, 1) := by decide +kernel
theorem dX6_mayBe_1 : decode cX6_mayBe 1 = .ok (.tableswitch 61 0 3 #[31, 36, 41, 51], 31) := by decide +kernel
theorem dX6_mayBe_32 : decode cX6_mayBe 32 = .ok (.iload_n 1, 1) := by decide +kernel
theorem dX6_mayBe_33 : decode cX6_mayBe 33 = .ok (.invokestatic 96, 3) := by decide +kernel
theorem dX6_mayBe_36 : decode cX6_mayBe 36 = .ok (.ireturn, 1) := by decide +kernel
theorem dX6_mayBe_37 : decode cX6_mayBe 37 = .ok (.iload_n 1, 1) := by decide +kernel
theorem dX6_mayBe_38 : decode cX6_mayBe 38 = .ok (.invokestatic 100, 3) := by decide +kernel
theorem dX6_mayBe_41 : decode cX6_mayBe 41 = .ok (.ireturn, 1) := by decide +kernel
theorem dX6_mayBe_42 : decode cX6_mayBe 42 = .ok (.iload_n 1, 1) := by decide +kernel
theorem dX6_mayBe_43 : decode cX6_mayBe 43 = .ok (.i2l, 1) := by decide +kernel
theorem dX6_mayBe_44 : decode cX6_mayBe 44 = .ok (.lconst 0, 1) := by decide +kernel
theorem dX6_mayBe_45 : decode cX6_mayBe 45 = .ok (.ldc2_w 54, 3) := by decide +kernel
theorem dX6_mayBe_48 : decode cX6_mayBe 48 = .ok (.invokestatic 48, 3) := by decide +kernel
theorem dX6_mayBe_51 : decode cX6_mayBe 51 = .ok (.ireturn, 1) := by decide +kernel
theorem dX6_mayBe_52 : decode cX6_mayBe 52 = .ok (.iload_n 1, 1) := by decide +kernel
theorem dX6_mayBe_53 : decode cX6_mayBe 53 = .ok (.i2l, 1) := by decide +kernel
theorem dX6_mayBe_54 : decode cX6_mayBe 54 = .ok (.lconst 0, 1) := by decide +kernel
theorem dX6_mayBe_55 : decode cX6_mayBe 55 = .ok (.ldc2_w 56, 3) := by decide +kernel
theorem dX6_mayBe_58 : decode cX6_mayBe 58 = .ok (.invokestatic 48, 3) := by decide +kernel
theorem dX6_mayBe_61 : decode cX6_mayBe 61 = .ok (.ireturn, 1) := by decide +kernel
theorem dX6_mayBe_62 : decode cX6_mayBe 62 = .ok (.iload_n 0, 1) := by decide +kernel
theorem dX6_mayBe_63 : decode cX6_mayBe 63 = .ok (.iconst 4, 1) := by decide +kernel
theorem dX6_mayBe_64 : decode cX6_mayBe 64 = .ok (.if_icmp .ne 19, 3) := by decide +kernel
theorem dX6_mayBe_67 : decode cX6_mayBe 67 = .ok (.iload_n 1, 1) := by decide +kernel
theorem dX6_mayBe_68 : decode cX6_mayBe 68 = .ok (.i2l, 1) := by decide +kernel
theorem dX6_mayBe_69 : decode cX6_mayBe 69 = .ok (.lconst 0, 1) := by decide +kernel
theorem dX6_mayBe_70 : decode cX6_mayBe 70 = .ok (.ldc2_w 120, 3) := by decide +kernel
theorem dX6_mayBe_73 : decode cX6_mayBe 73 = .ok (.invokestatic 48, 3) := by decide +kernel
theorem dX6_mayBe_76 : decode cX6_mayBe 76 = .ok (.ifCond .eq 7, 3) := by decide +kernel
theorem dX6_mayBe_79 : decode cX6_mayBe 79 = .ok (.iconst 1, 1) := by decide +kernel
theorem dX6_mayBe_80 : decode cX6_mayBe 80 = .ok (.goto 4, 3) := by decide +kernel
theorem dX6_mayBe_83 : decode cX6_mayBe 83 = .ok (.iconst 0, 1) := by decide +kernel
theorem dX6_mayBe_84 : decode cX6_mayBe 84 = .ok (.ireturn, 1) := by decide +kernel
theorem dX6_change_0 : decode cX6_change 0 = .ok (.aload_n 0, 1) := by decide +kernel
theorem dX6_change_1 : decode cX6_change 1 = .ok (.iload_n 1, 1) := by decide +kernel
theorem dX6_change_2 : decode cX6_change 2 = .ok (.invokevirtual 109, 3) := by decide +kernel
theorem dX6_change_5 : decode cX6_change 5 = .ok (.ifCond .eq 27, 3) := by decide +kernel
theorem dX6_change_8 : decode cX6_change 8 = .ok (.iload_n 2, 1) := by decide +kernel
theorem dX6_change_9 : decode cX6_change 9 = .ok (.iload_n 3, 1) := by decide +kernel
theorem dX6_change_10 : decode cX6_change 10 = .ok (.invokestatic 122, 3) := by decide +kernel
theorem dX6_change_13 : decode cX6_change 13 = .ok (.ifCond .eq 19, 3) := by decide +kernel
theorem dX6_change_16 : decode cX6_change 16 = .ok (.aload_n 0, 1) := by decide +kernel
theorem dX6_change_17 : decode cX6_change 17 = .ok (.bipush 23, 2) := by decide +kernel
theorem dX6_change_19 : decode cX6_change 19 = .ok (.iconst 5, 1) := by decide +kernel
theorem dX6_change_20 : decode cX6_change 20 = .ok (.iload_n 1, 1) := by decide +kernel
theorem dX6_change_21 : decode cX6_change 21 = .ok (.imul, 1) := by decide +kernel
theorem dX6_change_22 : decode cX6_change 22 = .ok (.iadd, 1) := by decide +kernel
theorem dX6_change_23 : decode cX6_change 23 = .ok (.iload_n 2, 1) := by decide +kernel
theorem dX6_change_24 : decode cX6_change 24 = .ok (.iadd, 1) := by decide +kernel
theorem dX6_change_25 : decode cX6_change 25 = .ok (.iload_n 3, 1) := by decide +kernel
theorem dX6_change_26 : decode cX6_change 26 = .ok (.invokevirtual 126, 3) := by decide +kernel
theorem dX6_change_29 : decode cX6_change 29 = .ok (.goto 8, 3) := by decide +kernel
theorem dX6_change_32 : decode cX6_change 32 = .ok (.aload_n 0, 1) := by decide +kernel
theorem dX6_change_33 : decode cX6_change 33 = .ok (.iconst 0, 1) := by decide +kernel
theorem dX6_change_34 : decode cX6_change 34 = .ok (.invokevirtual 103, 3) := by decide +kernel
theorem dX6_change_37 : decode cX6_change 37 = .ok (.ireturn, 1) := by decide +kernel
theorem dX6_addsJoke_0 : decode cX6_addsJoke 0 = .ok (.aload_n 0, 1) := by decide +kernel
theorem dX6_addsJoke_1 : decode cX6_addsJoke 1 = .ok (.getfield 9, 3) := by decide +kernel
theorem dX6_addsJoke_4 : decode cX6_addsJoke 4 = .ok (.bipush 6, 2) := by decide +kernel
theorem dX6_addsJoke_6 : decode cX6_addsJoke 6 = .ok (.iaload, 1) := by decide +kernel
theorem dX6_addsJoke_7 : decode cX6_addsJoke 7 = .ok (.istore_n 3, 1) := by decide +kernel
theorem dX6_addsJoke_8 : decode cX6_addsJoke 8 = .ok (.aload_n 0, 1) := by decide +kernel
theorem dX6_addsJoke_9 : decode cX6_addsJoke 9 = .ok (.getfield 9, 3) := by decide +kernel
theorem dX6_addsJoke_12 : decode cX6_addsJoke 12 = .ok (.bipush 6, 2) := by decide +kernel
theorem dX6_addsJoke_14 : decode cX6_addsJoke 14 = .ok (.dup2, 1) := by decide +kernel
theorem dX6_addsJoke_15 : decode cX6_addsJoke 15 = .ok (.iaload, 1) := by decide +kernel
theorem dX6_addsJoke_16 : decode cX6_addsJoke 16 = .ok (.iconst 1, 1) := by decide +kernel
theorem dX6_addsJoke_17 : decode cX6_addsJoke 17 = .ok (.iadd, 1) := by decide +kernel
theorem dX6_addsJoke_18 : decode cX6_addsJoke 18 = .ok (.iastore, 1) := by decide +kernel
theorem dX6_addsJoke_19 : decode cX6_addsJoke 19 = .ok (.aload_n 0, 1) := by decide +kernel
theorem dX6_addsJoke_20 : decode cX6_addsJoke 20 = .ok (.getfield 9, 3) := by decide +kernel
theorem dX6_addsJoke_23 : decode cX6_addsJoke 23 = .ok (.bipush 7, 2) := by decide +kernel
theorem dX6_addsJoke_25 : decode cX6_addsJoke 25 = .ok (.iconst 2, 1) := by decide +kernel
theorem dX6_addsJoke_26 : decode cX6_addsJoke 26 = .ok (.iload_n 3, 1) := by decide +kernel
theorem dX6_addsJoke_27 : decode cX6_addsJoke 27 = .ok (.imul, 1) := by decide +kernel
theorem dX6_addsJoke_28 : decode cX6_addsJoke 28 = .ok (.iadd, 1) := by decide +kernel
theorem dX6_addsJoke_29 : decode cX6_addsJoke 29 = .ok (.iload_n 1, 1) := by decide +kernel
theorem dX6_addsJoke_30 : decode cX6_addsJoke 30 = .ok (.iastore, 1) := by decide +kernel
theorem dX6_addsJoke_31 : decode cX6_addsJoke 31 = .ok (.aload_n 0, 1) := by decide +kernel
theorem dX6_addsJoke_32 : decode cX6_addsJoke 32 = .ok (.getfield 9, 3) := by decide +kernel
theorem dX6_addsJoke_35 : decode cX6_addsJoke 35 = .ok (.bipush 7, 2) := by decide +kernel
theorem dX6_addsJoke_37 : decode cX6_addsJoke 37 = .ok (.iconst 2, 1) := by decide +kernel
theorem dX6_addsJoke_38 : decode cX6_addsJoke 38 = .ok (.iload_n 3, 1) := by decide +kernel
theorem dX6_addsJoke_39 : decode cX6_addsJoke 39 = .ok (.imul, 1) := by decide +kernel
theorem dX6_addsJoke_40 : decode cX6_addsJoke 40 = .ok (.iadd, 1) := by decide +kernel
theorem dX6_addsJoke_41 : decode cX6_addsJoke 41 = .ok (.iconst 1, 1) := by decide +kernel
theorem dX6_addsJoke_42 : decode cX6_addsJoke 42 = .ok (.iadd, 1) := by decide +kernel
theorem dX6_addsJoke_43 : decode cX6_addsJoke 43 = .ok (.iload_n 2, 1) := by decide +kernel
theorem dX6_addsJoke_44 : decode cX6_addsJoke 44 = .ok (.iastore, 1) := by decide +kernel
theorem dX6_addsJoke_45 : decode cX6_addsJoke 45 = .ok (.iload_n 3, 1) := by decide +kernel
theorem dX6_addsJoke_46 : decode cX6_addsJoke 46 = .ok (.ireturn, 1) := by decide +kernel
theorem dX6_joke_0 : decode cX6_joke 0 = .ok (.iload_n 1, 1) := by decide +kernel
theorem dX6_joke_1 : decode cX6_joke 1 = .ok (.invokestatic 129, 3) := by decide +kernel
theorem dX6_joke_4 : decode cX6_joke 4 = .ok (.ifCond .eq 10, 3) := by decide +kernel
theorem dX6_joke_7 : decode cX6_joke 7 = .ok (.iload_n 2, 1) := by decide +kernel
theorem dX6_joke_8 : decode cX6_joke 8 = .ok (.invokestatic 132, 3) := by decide +kernel
theorem dX6_joke_11 : decode cX6_joke 11 = .ok (.ifCond .ne 9, 3) := by decide +kernel
theorem dX6_joke_14 : decode cX6_joke 14 = .ok (.aload_n 0, 1) := by decide +kernel
theorem dX6_joke_15 : decode cX6_joke 15 = .ok (.iconst 0, 1) := by decide +kernel
theorem dX6_joke_16 : decode cX6_joke 16 = .ok (.invokevirtual 103, 3) := by decide +kernel
theorem dX6_joke_19 : decode cX6_joke 19 = .ok (.ireturn, 1) := by decide +kernel
theorem dX6_joke_20 : decode cX6_joke 20 = .ok (.aload_n 0, 1) := by decide +kernel
theorem dX6_joke_21 : decode cX6_joke 21 = .ok (.getfield 9, 3) := by decide +kernel
theorem dX6_joke_24 : decode cX6_joke 24 = .ok (.bipush 6, 2) := by decide +kernel
theorem dX6_joke_26 : decode cX6_joke 26 = .ok (.iaload, 1) := by decide +kernel
theorem dX6_joke_27 : decode cX6_joke 27 = .ok (.bipush 8, 2) := by decide +kernel
theorem dX6_joke_29 : decode cX6_joke 29 = .ok (.if_icmp .ne 11, 3) := by decide +kernel
theorem dX6_joke_32 : decode cX6_joke 32 = .ok (.aload_n 0, 1) := by decide +kernel
theorem dX6_joke_33 : decode cX6_joke 33 = .ok (.iconst 1, 1) := by decide +kernel
theorem dX6_joke_34 : decode cX6_joke 34 = .ok (.invokevirtual 103, 3) := by decide +kernel
theorem dX6_joke_37 : decode cX6_joke 37 = .ok (.goto 9, 3) := by decide +kernel
theorem dX6_joke_40 : decode cX6_joke 40 = .ok (.aload_n 0, 1) := by decide +kernel
theorem dX6_joke_41 : decode cX6_joke 41 = .ok (.iload_n 1, 1) := by decide +kernel
theorem dX6_joke_42 : decode cX6_joke 42 = .ok (.iload_n 2, 1) := by decide +kernel
theorem dX6_joke_43 : decode cX6_joke 43 = .ok (.invokevirtual 135, 3) := by decide +kernel
theorem dX6_joke_46 : decode cX6_joke 46 = .ok (.ireturn, 1) := by decide +kernel
theorem dX6_jokeOf_0 : decode cX6_jokeOf 0 = .ok (.aload_n 0, 1) := by decide +kernel
theorem dX6_jokeOf_1 : decode cX6_jokeOf 1 = .ok (.iload_n 1, 1) := by decide +kernel
theorem dX6_jokeOf_2 : decode cX6_jokeOf 2 = .ok (.invokevirtual 138, 3) := by decide +kernel
theorem dX6_jokeOf_5 : decode cX6_jokeOf 5 = .ok (.ifCond .eq 29, 3) := by decide +kernel
theorem dX6_jokeOf_8 : decode cX6_jokeOf 8 = .ok (.iload_n 2, 1) := by decide +kernel
theorem dX6_jokeOf_9 : decode cX6_jokeOf 9 = .ok (.i2l, 1) := by decide +kernel
theorem dX6_jokeOf_10 : decode cX6_jokeOf 10 = .ok (.lconst 0, 1) := by decide +kernel
theorem dX6_jokeOf_11 : decode cX6_jokeOf 11 = .ok (.lconst 1, 1) := by decide +kernel
theorem dX6_jokeOf_12 : decode cX6_jokeOf 12 = .ok (.invokestatic 48, 3) := by decide +kernel
theorem dX6_jokeOf_15 : decode cX6_jokeOf 15 = .ok (.ifCond .eq 19, 3) := by decide +kernel
theorem dX6_jokeOf_18 : decode cX6_jokeOf 18 = .ok (.aload_n 0, 1) := by decide +kernel
theorem dX6_jokeOf_19 : decode cX6_jokeOf 19 = .ok (.getfield 9, 3) := by decide +kernel
theorem dX6_jokeOf_22 : decode cX6_jokeOf 22 = .ok (.bipush 7, 2) := by decide +kernel
theorem dX6_jokeOf_24 : decode cX6_jokeOf 24 = .ok (.iconst 2, 1) := by decide +kernel
theorem dX6_jokeOf_25 : decode cX6_jokeOf 25 = .ok (.iload_n 1, 1) := by decide +kernel
theorem dX6_jokeOf_26 : decode cX6_jokeOf 26 = .ok (.imul, 1) := by decide +kernel
theorem dX6_jokeOf_27 : decode cX6_jokeOf 27 = .ok (.iadd, 1) := by decide +kernel
theorem dX6_jokeOf_28 : decode cX6_jokeOf 28 = .ok (.iload_n 2, 1) := by decide +kernel
theorem dX6_jokeOf_29 : decode cX6_jokeOf 29 = .ok (.iadd, 1) := by decide +kernel
theorem dX6_jokeOf_30 : decode cX6_jokeOf 30 = .ok (.iaload, 1) := by decide +kernel
theorem dX6_jokeOf_31 : decode cX6_jokeOf 31 = .ok (.goto 8, 3) := by decide +kernel
theorem dX6_jokeOf_34 : decode cX6_jokeOf 34 = .ok (.aload_n 0, 1) := by decide +kernel
theorem dX6_jokeOf_35 : decode cX6_jokeOf 35 = .ok (.iconst 0, 1) := by decide +kernel
theorem dX6_jokeOf_36 : decode cX6_jokeOf 36 = .ok (.invokevirtual 103, 3) := by decide +kernel
theorem dX6_jokeOf_39 : decode cX6_jokeOf 39 = .ok (.ireturn, 1) := by decide +kernel
theorem dX6_law_0 : decode cX6_law 0 = .ok (.iload_n 1, 1) := by decide +kernel
theorem dX6_law_1 : decode cX6_law 1 = .ok (.i2l, 1) := by decide +kernel
theorem dX6_law_2 : decode cX6_law 2 = .ok (.lconst 0, 1) := by decide +kernel
theorem dX6_law_3 : decode cX6_law 3 = .ok (.lconst 1, 1) := by decide +kernel
theorem dX6_law_4 : decode cX6_law 4 = .ok (.invokestatic 48, 3) := by decide +kernel
theorem dX6_law_7 : decode cX6_law 7 = .ok (.ifCond .eq 34, 3) := by decide +kernel
theorem dX6_law_10 : decode cX6_law 10 = .ok (.iload_n 2, 1) := by decide +kernel
theorem dX6_law_11 : decode cX6_law 11 = .ok (.i2l, 1) := by decide +kernel
theorem dX6_law_12 : decode cX6_law 12 = .ok (.lconst 0, 1) := by decide +kernel
theorem dX6_law_13 : decode cX6_law 13 = .ok (.iload_n 1, 1) := by decide +kernel
theorem dX6_law_14 : decode cX6_law 14 = .ok (.ifCond .ne 9, 3) := by decide +kernel
theorem dX6_law_17 : decode cX6_law 17 = .ok (.ldc2_w 141, 3) := by decide +kernel
theorem dX6_law_20 : decode cX6_law 20 = .ok (.goto 6, 3) := by decide +kernel
theorem dX6_law_23 : decode cX6_law 23 = .ok (.ldc2_w 52, 3) := by decide +kernel
theorem dX6_law_26 : decode cX6_law 26 = .ok (.invokestatic 48, 3) := by decide +kernel
theorem dX6_law_29 : decode cX6_law 29 = .ok (.ifCond .eq 12, 3) := by decide +kernel
theorem dX6_law_32 : decode cX6_law 32 = .ok (.aload_n 0, 1) := by decide +kernel
theorem dX6_law_33 : decode cX6_law 33 = .ok (.iload_n 1, 1) := by decide +kernel
theorem dX6_law_34 : decode cX6_law 34 = .ok (.iload_n 2, 1) := by decide +kernel
theorem dX6_law_35 : decode cX6_law 35 = .ok (.invokevirtual 126, 3) := by decide +kernel
theorem dX6_law_38 : decode cX6_law 38 = .ok (.goto 8, 3) := by decide +kernel
theorem dX6_law_41 : decode cX6_law 41 = .ok (.aload_n 0, 1) := by decide +kernel
theorem dX6_law_42 : decode cX6_law 42 = .ok (.iconst 0, 1) := by decide +kernel
theorem dX6_law_43 : decode cX6_law 43 = .ok (.invokevirtual 103, 3) := by decide +kernel
theorem dX6_law_46 : decode cX6_law 46 = .ok (.ireturn, 1) := by decide +kernel
theorem dX6_strength_0 : decode cX6_strength 0 = .ok (.aload_n 0, 1) := by decide +kernel
theorem dX6_strength_1 : decode cX6_strength 1 = .ok (.iload_n 1, 1) := by decide +kernel
theorem dX6_strength_2 : decode cX6_strength 2 = .ok (.invokevirtual 138, 3) := by decide +kernel
theorem dX6_strength_5 : decode cX6_strength 5 = .ok (.ifCond .eq 23, 3) := by decide +kernel
theorem dX6_strength_8 : decode cX6_strength 8 = .ok (.aload_n 0, 1) := by decide +kernel
theorem dX6_strength_9 : decode cX6_strength 9 = .ok (.iload_n 2, 1) := by decide +kernel
theorem dX6_strength_10 : decode cX6_strength 10 = .ok (.invokevirtual 109, 3) := by decide +kernel
theorem dX6_strength_13 : decode cX6_strength 13 = .ok (.ifCond .eq 15, 3) := by decide +kernel
theorem dX6_strength_16 : decode cX6_strength 16 = .ok (.iload_n 3, 1) := by decide +kernel
theorem dX6_strength_17 : decode cX6_strength 17 = .ok (.i2l, 1) := by decide +kernel
theorem dX6_strength_18 : decode cX6_strength 18 = .ok (.lconst 0, 1) := by decide +kernel
theorem dX6_strength_19 : decode cX6_strength 19 = .ok (.ldc2_w 143, 3) := by decide +kernel
theorem dX6_strength_22 : decode cX6_strength 22 = .ok (.invokestatic 48, 3) := by decide +kernel
theorem dX6_strength_25 : decode cX6_strength 25 = .ok (.ifCond .ne 9, 3) := by decide +kernel
theorem dX6_strength_28 : decode cX6_strength 28 = .ok (.aload_n 0, 1) := by decide +kernel
theorem dX6_strength_29 : decode cX6_strength 29 = .ok (.iconst 0, 1) := by decide +kernel
theorem dX6_strength_30 : decode cX6_strength 30 = .ok (.invokevirtual 103, 3) := by decide +kernel
theorem dX6_strength_33 : decode cX6_strength 33 = .ok (.ireturn, 1) := by decide +kernel
theorem dX6_strength_34 : decode cX6_strength 34 = .ok (.aload_n 0, 1) := by decide +kernel
theorem dX6_strength_35 : decode cX6_strength 35 = .ok (.getfield 9, 3) := by decide +kernel
theorem dX6_strength_38 : decode cX6_strength 38 = .ok (.bipush 7, 2) := by decide +kernel
theorem dX6_strength_40 : decode cX6_strength 40 = .ok (.iconst 2, 1) := by decide +kernel
theorem dX6_strength_41 : decode cX6_strength 41 = .ok (.iload_n 1, 1) := by decide +kernel
theorem dX6_strength_42 : decode cX6_strength 42 = .ok (.imul, 1) := by decide +kernel
theorem dX6_strength_43 : decode cX6_strength 43 = .ok (.iadd, 1) := by decide +kernel
theorem dX6_strength_44 : decode cX6_strength 44 = .ok (.iaload, 1) := by decide +kernel
theorem dX6_strength_45 : decode cX6_strength 45 = .ok (.istore 4, 2) := by decide +kernel
theorem dX6_strength_47 : decode cX6_strength 47 = .ok (.aload_n 0, 1) := by decide +kernel
theorem dX6_strength_48 : decode cX6_strength 48 = .ok (.getfield 9, 3) := by decide +kernel
theorem dX6_strength_51 : decode cX6_strength 51 = .ok (.bipush 7, 2) := by decide +kernel
theorem dX6_strength_53 : decode cX6_strength 53 = .ok (.iconst 2, 1) := by decide +kernel
theorem dX6_strength_54 : decode cX6_strength 54 = .ok (.iload_n 1, 1) := by decide +kernel
theorem dX6_strength_55 : decode cX6_strength 55 = .ok (.imul, 1) := by decide +kernel
theorem dX6_strength_56 : decode cX6_strength 56 = .ok (.iadd, 1) := by decide +kernel
theorem dX6_strength_57 : decode cX6_strength 57 = .ok (.iconst 1, 1) := by decide +kernel
theorem dX6_strength_58 : decode cX6_strength 58 = .ok (.iadd, 1) := by decide +kernel
theorem dX6_strength_59 : decode cX6_strength 59 = .ok (.iaload, 1) := by decide +kernel
theorem dX6_strength_60 : decode cX6_strength 60 = .ok (.istore 5, 2) := by decide +kernel
theorem dX6_strength_62 : decode cX6_strength 62 = .ok (.iload_n 3, 1) := by decide +kernel
theorem dX6_strength_63 : decode cX6_strength 63 = .ok (.ifCond .ne 15, 3) := by decide +kernel
theorem dX6_strength_66 : decode cX6_strength 66 = .ok (.aload_n 0, 1) := by decide +kernel
theorem dX6_strength_67 : decode cX6_strength 67 = .ok (.iload 4, 2) := by decide +kernel
theorem dX6_strength_69 : decode cX6_strength 69 = .ok (.iload 5, 2) := by decide +kernel
theorem dX6_strength_71 : decode cX6_strength 71 = .ok (.iload_n 2, 1) := by decide +kernel
theorem dX6_strength_72 : decode cX6_strength 72 = .ok (.invokevirtual 79, 3) := by decide +kernel
theorem dX6_strength_75 : decode cX6_strength 75 = .ok (.goto 29, 3) := by decide +kernel
theorem dX6_strength_78 : decode cX6_strength 78 = .ok (.iload_n 3, 1) := by decide +kernel
theorem dX6_strength_79 : decode cX6_strength 79 = .ok (.iconst 1, 1) := by decide +kernel
theorem dX6_strength_80 : decode cX6_strength 80 = .ok (.if_icmp .ne 15, 3) := by decide +kernel
theorem dX6_strength_83 : decode cX6_strength 83 = .ok (.aload_n 0, 1) := by decide +kernel
theorem dX6_strength_84 : decode cX6_strength 84 = .ok (.iload 4, 2) := by decide +kernel
theorem dX6_strength_86 : decode cX6_strength 86 = .ok (.iload 5, 2) := by decide +kernel
theorem dX6_strength_88 : decode cX6_strength 88 = .ok (.iload_n 2, 1) := by decide +kernel
theorem dX6_strength_89 : decode cX6_strength 89 = .ok (.invokevirtual 86, 3) := by decide +kernel
theorem dX6_strength_92 : decode cX6_strength 92 = .ok (.goto 12, 3) := by decide +kernel
theorem dX6_strength_95 : decode cX6_strength 95 = .ok (.aload_n 0, 1) := by decide +kernel
theorem dX6_strength_96 : decode cX6_strength 96 = .ok (.iload 4, 2) := by decide +kernel
theorem dX6_strength_98 : decode cX6_strength 98 = .ok (.iload 5, 2) := by decide +kernel
theorem dX6_strength_100 : decode cX6_strength 100 = .ok (.iload_n 2, 1) := by decide +kernel
theorem dX6_strength_101 : decode cX6_strength 101 = .ok (.invokevirtual 145, 3) := by decide +kernel
theorem dX6_strength_104 : decode cX6_strength 104 = .ok (.ireturn, 1) := by decide +kernel
theorem dX6_caughtFrom_0 : decode cX6_caughtFrom 0 = .ok (.iload_n 1, 1) := by decide +kernel
theorem dX6_caughtFrom_1 : decode cX6_caughtFrom 1 = .ok (.iload_n 2, 1) := by decide +kernel
theorem dX6_caughtFrom_2 : decode cX6_caughtFrom 2 = .ok (.iand, 1) := by decide +kernel
theorem dX6_caughtFrom_3 : decode cX6_caughtFrom 3 = .ok (.istore_n 3, 1) := by decide +kernel
theorem dX6_caughtFrom_4 : decode cX6_caughtFrom 4 = .ok (.aload_n 0, 1) := by decide +kernel
theorem dX6_caughtFrom_5 : decode cX6_caughtFrom 5 = .ok (.iconst 0, 1) := by decide +kernel
theorem dX6_caughtFrom_6 : decode cX6_caughtFrom 6 = .ok (.putfield 148, 3) := by decide +kernel
theorem dX6_caughtFrom_9 : decode cX6_caughtFrom 9 = .ok (.iconst 0, 1) := by decide +kernel
theorem dX6_caughtFrom_10 : decode cX6_caughtFrom 10 = .ok (.istore 4, 2) := by decide +kernel
theorem dX6_caughtFrom_12 : decode cX6_caughtFrom 12 = .ok (.iload 4, 2) := by decide +kernel
theorem dX6_caughtFrom_14 : decode cX6_caughtFrom 14 = .ok (.aload_n 0, 1) := by decide +kernel
theorem dX6_caughtFrom_15 : decode cX6_caughtFrom 15 = .ok (.getfield 9, 3) := by decide +kernel
theorem dX6_caughtFrom_18 : decode cX6_caughtFrom 18 = .ok (.iconst 5, 1) := by decide +kernel
theorem dX6_caughtFrom_19 : decode cX6_caughtFrom 19 = .ok (.iaload, 1) := by decide +kernel
theorem dX6_caughtFrom_20 : decode cX6_caughtFrom 20 = .ok (.if_icmp .ge 31, 3) := by decide +kernel
theorem dX6_caughtFrom_23 : decode cX6_caughtFrom 23 = .ok (.aload_n 0, 1) := by decide +kernel
theorem dX6_caughtFrom_24 : decode cX6_caughtFrom 24 = .ok (.getfield 22, 3) := by decide +kernel
theorem dX6_caughtFrom_27 : decode cX6_caughtFrom 27 = .ok (.iload 4, 2) := by decide +kernel
theorem dX6_caughtFrom_29 : decode cX6_caughtFrom 29 = .ok (.iload_n 3, 1) := by decide +kernel
theorem dX6_caughtFrom_30 : decode cX6_caughtFrom 30 = .ok (.iload 4, 2) := by decide +kernel
theorem dX6_caughtFrom_32 : decode cX6_caughtFrom 32 = .ok (.ishr, 1) := by decide +kernel
theorem dX6_caughtFrom_33 : decode cX6_caughtFrom 33 = .ok (.iconst 1, 1) := by decide +kernel
theorem dX6_caughtFrom_34 : decode cX6_caughtFrom 34 = .ok (.iand, 1) := by decide +kernel
theorem dX6_caughtFrom_35 : decode cX6_caughtFrom 35 = .ok (.iconst 1, 1) := by decide +kernel
theorem dX6_caughtFrom_36 : decode cX6_caughtFrom 36 = .ok (.if_icmp .ne 7, 3) := by decide +kernel
theorem dX6_caughtFrom_39 : decode cX6_caughtFrom 39 = .ok (.iconst 0, 1) := by decide +kernel
theorem dX6_caughtFrom_40 : decode cX6_caughtFrom 40 = .ok (.goto 4, 3) := by decide +kernel
theorem dX6_caughtFrom_43 : decode cX6_caughtFrom 43 = .ok (.iconst (-1), 1) := by decide +kernel
theorem dX6_caughtFrom_44 : decode cX6_caughtFrom 44 = .ok (.iastore, 1) := by decide +kernel
theorem dX6_caughtFrom_45 : decode cX6_caughtFrom 45 = .ok (.iinc 4 1, 3) := by decide +kernel
theorem dX6_caughtFrom_48 : decode cX6_caughtFrom 48 = .ok (.goto (-36), 3) := by decide +kernel
theorem dX6_caughtFrom_51 : decode cX6_caughtFrom 51 = .ok (.iconst 1, 1) := by decide +kernel
theorem dX6_caughtFrom_52 : decode cX6_caughtFrom 52 = .ok (.istore 4, 2) := by decide +kernel
theorem dX6_caughtFrom_54 : decode cX6_caughtFrom 54 = .ok (.iload 4, 2) := by decide +kernel
theorem dX6_caughtFrom_56 : decode cX6_caughtFrom 56 = .ok (.ifCond .eq 190, 3) := by decide +kernel
theorem dX6_caughtFrom_59 : decode cX6_caughtFrom 59 = .ok (.iload_n 3, 1) := by decide +kernel
theorem dX6_caughtFrom_60 : decode cX6_caughtFrom 60 = .ok (.istore 5, 2) := by decide +kernel
theorem dX6_caughtFrom_62 : decode cX6_caughtFrom 62 = .ok (.iconst 0, 1) := by decide +kernel
theorem dX6_caughtFrom_63 : decode cX6_caughtFrom 63 = .ok (.istore 6, 2) := by decide +kernel
theorem dX6_caughtFrom_65 : decode cX6_caughtFrom 65 = .ok (.iload 6, 2) := by decide +kernel
theorem dX6_caughtFrom_67 : decode cX6_caughtFrom 67 = .ok (.aload_n 0, 1) := by decide +kernel
theorem dX6_caughtFrom_68 : decode cX6_caughtFrom 68 = .ok (.getfield 9, 3) := by decide +kernel
theorem dX6_caughtFrom_71 : decode cX6_caughtFrom 71 = .ok (.iconst 5, 1) := by decide +kernel
theorem dX6_caughtFrom_72 : decode cX6_caughtFrom 72 = .ok (.iaload, 1) := by decide +kernel
theorem dX6_caughtFrom_73 : decode cX6_caughtFrom 73 = .ok (.if_icmp .ge 73, 3) := by decide +kernel
theorem dX6_caughtFrom_76 : decode cX6_caughtFrom 76 = .ok (.iload_n 2, 1) := by decide +kernel
theorem dX6_caughtFrom_77 : decode cX6_caughtFrom 77 = .ok (.iload 6, 2) := by decide +kernel
theorem dX6_caughtFrom_79 : decode cX6_caughtFrom 79 = .ok (.ishr, 1) := by decide +kernel
theorem dX6_caughtFrom_80 : decode cX6_caughtFrom 80 = .ok (.iconst 1, 1) := by decide +kernel
theorem dX6_caughtFrom_81 : decode cX6_caughtFrom 81 = .ok (.iand, 1) := by decide +kernel
theorem dX6_caughtFrom_82 : decode cX6_caughtFrom 82 = .ok (.iconst 1, 1) := by decide +kernel
theorem dX6_caughtFrom_83 : decode cX6_caughtFrom 83 = .ok (.if_icmp .ne 16, 3) := by decide +kernel
theorem dX6_caughtFrom_86 : decode cX6_caughtFrom 86 = .ok (.iload_n 3, 1) := by decide +kernel
theorem dX6_caughtFrom_87 : decode cX6_caughtFrom 87 = .ok (.iload 6, 2) := by decide +kernel
theorem dX6_caughtFrom_89 : decode cX6_caughtFrom 89 = .ok (.ishr, 1) := by decide +kernel
theorem dX6_caughtFrom_90 : decode cX6_caughtFrom 90 = .ok (.iconst 1, 1) := by decide +kernel
theorem dX6_caughtFrom_91 : decode cX6_caughtFrom 91 = .ok (.iand, 1) := by decide +kernel
theorem dX6_caughtFrom_92 : decode cX6_caughtFrom 92 = .ok (.ifCond .ne 7, 3) := by decide +kernel
theorem dX6_caughtFrom_95 : decode cX6_caughtFrom 95 = .ok (.iconst 1, 1) := by decide +kernel
theorem dX6_caughtFrom_96 : decode cX6_caughtFrom 96 = .ok (.goto 4, 3) := by decide +kernel
theorem dX6_caughtFrom_99 : decode cX6_caughtFrom 99 = .ok (.iconst 0, 1) := by decide +kernel
theorem dX6_caughtFrom_100 : decode cX6_caughtFrom 100 = .ok (.istore 7, 2) := by decide +kernel
theorem dX6_caughtFrom_102 : decode cX6_caughtFrom 102 = .ok (.iload 5, 2) := by decide +kernel
theorem dX6_caughtFrom_104 : decode cX6_caughtFrom 104 = .ok (.iload 7, 2) := by decide +kernel
theorem dX6_caughtFrom_106 : decode cX6_caughtFrom 106 = .ok (.ifCond .eq 30, 3) := by decide +kernel
theorem dX6_caughtFrom_109 : decode cX6_caughtFrom 109 = .ok (.aload_n 0, 1) := by decide +kernel
theorem dX6_caughtFrom_110 : decode cX6_caughtFrom 110 = .ok (.iload 6, 2) := by decide +kernel
theorem dX6_caughtFrom_112 : decode cX6_caughtFrom 112 = .ok (.invokevirtual 89, 3) := by decide +kernel
theorem dX6_caughtFrom_115 : decode cX6_caughtFrom 115 = .ok (.iload_n 3, 1) := by decide +kernel
theorem dX6_caughtFrom_116 : decode cX6_caughtFrom 116 = .ok (.iand, 1) := by decide +kernel
theorem dX6_caughtFrom_117 : decode cX6_caughtFrom 117 = .ok (.invokestatic 76, 3) := by decide +kernel
theorem dX6_caughtFrom_120 : decode cX6_caughtFrom 120 = .ok (.aload_n 0, 1) := by decide +kernel
theorem dX6_caughtFrom_121 : decode cX6_caughtFrom 121 = .ok (.iload 6, 2) := by decide +kernel
theorem dX6_caughtFrom_123 : decode cX6_caughtFrom 123 = .ok (.invokevirtual 117, 3) := by decide +kernel
theorem dX6_caughtFrom_126 : decode cX6_caughtFrom 126 = .ok (.if_icmp .lt 10, 3) := by decide +kernel
theorem dX6_caughtFrom_129 : decode cX6_caughtFrom 129 = .ok (.iconst 1, 1) := by decide +kernel
theorem dX6_caughtFrom_130 : decode cX6_caughtFrom 130 = .ok (.iload 6, 2) := by decide +kernel
theorem dX6_caughtFrom_132 : decode cX6_caughtFrom 132 = .ok (.ishl, 1) := by decide +kernel
theorem dX6_caughtFrom_133 : decode cX6_caughtFrom 133 = .ok (.goto 4, 3) := by decide +kernel
theorem dX6_caughtFrom_136 : decode cX6_caughtFrom 136 = .ok (.iconst 0, 1) := by decide +kernel
theorem dX6_caughtFrom_137 : decode cX6_caughtFrom 137 = .ok (.ior, 1) := by decide +kernel
theorem dX6_caughtFrom_138 : decode cX6_caughtFrom 138 = .ok (.istore 5, 2) := by decide +kernel
theorem dX6_caughtFrom_140 : decode cX6_caughtFrom 140 = .ok (.iinc 6 1, 3) := by decide +kernel
theorem dX6_caughtFrom_143 : decode cX6_caughtFrom 143 = .ok (.goto (-78), 3) := by decide +kernel
theorem dX6_caughtFrom_146 : decode cX6_caughtFrom 146 = .ok (.iload 5, 2) := by decide +kernel
theorem dX6_caughtFrom_148 : decode cX6_caughtFrom 148 = .ok (.iload_n 3, 1) := by decide +kernel
theorem dX6_caughtFrom_149 : decode cX6_caughtFrom 149 = .ok (.if_icmp .eq 7, 3) := by decide +kernel
theorem dX6_caughtFrom_152 : decode cX6_caughtFrom 152 = .ok (.iconst 1, 1) := by decide +kernel
theorem dX6_caughtFrom_153 : decode cX6_caughtFrom 153 = .ok (.goto 4, 3) := by decide +kernel
theorem dX6_caughtFrom_156 : decode cX6_caughtFrom 156 = .ok (.iconst 0, 1) := by decide +kernel
theorem dX6_caughtFrom_157 : decode cX6_caughtFrom 157 = .ok (.istore 4, 2) := by decide +kernel
theorem dX6_caughtFrom_159 : decode cX6_caughtFrom 159 = .ok (.aload_n 0, 1) := by decide +kernel
theorem dX6_caughtFrom_160 : decode cX6_caughtFrom 160 = .ok (.dup, 1) := by decide +kernel
theorem dX6_caughtFrom_161 : decode cX6_caughtFrom 161 = .ok (.getfield 148, 3) := by decide +kernel
theorem dX6_caughtFrom_164 : decode cX6_caughtFrom 164 = .ok (.iload 4, 2) := by decide +kernel
theorem dX6_caughtFrom_166 : decode cX6_caughtFrom 166 = .ok (.ifCond .eq 7, 3) := by decide +kernel
theorem dX6_caughtFrom_169 : decode cX6_caughtFrom 169 = .ok (.iconst 1, 1) := by decide +kernel
theorem dX6_caughtFrom_170 : decode cX6_caughtFrom 170 = .ok (.goto 4, 3) := by decide +kernel
theorem dX6_caughtFrom_173 : decode cX6_caughtFrom 173 = .ok (.iconst 0, 1) := by decide +kernel
theorem dX6_caughtFrom_174 : decode cX6_caughtFrom 174 = .ok (.iadd, 1) := by decide +kernel
theorem dX6_caughtFrom_175 : decode cX6_caughtFrom 175 = .ok (.putfield 148, 3) := by decide +kernel
theorem dX6_caughtFrom_178 : decode cX6_caughtFrom 178 = .ok (.iconst 0, 1) := by decide +kernel
theorem dX6_caughtFrom_179 : decode cX6_caughtFrom 179 = .ok (.istore 6, 2) := by decide +kernel
theorem dX6_caughtFrom_181 : decode cX6_caughtFrom 181 = .ok (.iload 6, 2) := by decide +kernel
theorem dX6_caughtFrom_183 : decode cX6_caughtFrom 183 = .ok (.aload_n 0, 1) := by decide +kernel
theorem dX6_caughtFrom_184 : decode cX6_caughtFrom 184 = .ok (.getfield 9, 3) := by decide +kernel
theorem dX6_caughtFrom_187 : decode cX6_caughtFrom 187 = .ok (.iconst 5, 1) := by decide +kernel
theorem dX6_caughtFrom_188 : decode cX6_caughtFrom 188 = .ok (.iaload, 1) := by decide +kernel
theorem dX6_caughtFrom_189 : decode cX6_caughtFrom 189 = .ok (.if_icmp .ge 51, 3) := by decide +kernel
theorem dX6_caughtFrom_192 : decode cX6_caughtFrom 192 = .ok (.aload_n 0, 1) := by decide +kernel
theorem dX6_caughtFrom_193 : decode cX6_caughtFrom 193 = .ok (.getfield 22, 3) := by decide +kernel
theorem dX6_caughtFrom_196 : decode cX6_caughtFrom 196 = .ok (.iload 6, 2) := by decide +kernel
theorem dX6_caughtFrom_198 : decode cX6_caughtFrom 198 = .ok (.iload 5, 2) := by decide +kernel
theorem dX6_caughtFrom_200 : decode cX6_caughtFrom 200 = .ok (.iload 6, 2) := by decide +kernel
theorem dX6_caughtFrom_202 : decode cX6_caughtFrom 202 = .ok (.ishr, 1) := by decide +kernel
theorem dX6_caughtFrom_203 : decode cX6_caughtFrom 203 = .ok (.iconst 1, 1) := by decide +kernel
theorem dX6_caughtFrom_204 : decode cX6_caughtFrom 204 = .ok (.iand, 1) := by decide +kernel
theorem dX6_caughtFrom_205 : decode cX6_caughtFrom 205 = .ok (.iconst 1, 1) := by decide +kernel
theorem dX6_caughtFrom_206 : decode cX6_caughtFrom 206 = .ok (.if_icmp .ne 20, 3) := by decide +kernel
theorem dX6_caughtFrom_209 : decode cX6_caughtFrom 209 = .ok (.aload_n 0, 1) := by decide +kernel
theorem dX6_caughtFrom_210 : decode cX6_caughtFrom 210 = .ok (.getfield 22, 3) := by decide +kernel
theorem dX6_caughtFrom_213 : decode cX6_caughtFrom 213 = .ok (.iload 6, 2) := by decide +kernel
theorem dX6_caughtFrom_215 : decode cX6_caughtFrom 215 = .ok (.iaload, 1) := by decide +kernel
theorem dX6_caughtFrom_216 : decode cX6_caughtFrom 216 = .ok (.ifCond .ge 10, 3) := by decide +kernel
theorem dX6_caughtFrom_219 : decode cX6_caughtFrom 219 = .ok (.aload_n 0, 1) := by decide +kernel
theorem dX6_caughtFrom_220 : decode cX6_caughtFrom 220 = .ok (.getfield 148, 3) := by decide +kernel
theorem dX6_caughtFrom_223 : decode cX6_caughtFrom 223 = .ok (.goto 10, 3) := by decide +kernel
theorem dX6_caughtFrom_226 : decode cX6_caughtFrom 226 = .ok (.aload_n 0, 1) := by decide +kernel
theorem dX6_caughtFrom_227 : decode cX6_caughtFrom 227 = .ok (.getfield 22, 3) := by decide +kernel
theorem dX6_caughtFrom_230 : decode cX6_caughtFrom 230 = .ok (.iload 6, 2) := by decide +kernel
theorem dX6_caughtFrom_232 : decode cX6_caughtFrom 232 = .ok (.iaload, 1) := by decide +kernel
theorem dX6_caughtFrom_233 : decode cX6_caughtFrom 233 = .ok (.iastore, 1) := by decide +kernel
theorem dX6_caughtFrom_234 : decode cX6_caughtFrom 234 = .ok (.iinc 6 1, 3) := by decide +kernel
theorem dX6_caughtFrom_237 : decode cX6_caughtFrom 237 = .ok (.goto (-56), 3) := by decide +kernel
theorem dX6_caughtFrom_240 : decode cX6_caughtFrom 240 = .ok (.iload 5, 2) := by decide +kernel
theorem dX6_caughtFrom_242 : decode cX6_caughtFrom 242 = .ok (.istore_n 3, 1) := by decide +kernel
theorem dX6_caughtFrom_243 : decode cX6_caughtFrom 243 = .ok (.goto (-189), 3) := by decide +kernel
theorem dX6_caughtFrom_246 : decode cX6_caughtFrom 246 = .ok (.iload_n 3, 1) := by decide +kernel
theorem dX6_caughtFrom_247 : decode cX6_caughtFrom 247 = .ok (.ireturn, 1) := by decide +kernel
theorem dX6_byThemselves_0 : decode cX6_byThemselves 0 = .ok (.iconst 0, 1) := by decide +kernel
theorem dX6_byThemselves_1 : decode cX6_byThemselves 1 = .ok (.istore_n 3, 1) := by decide +kernel
theorem dX6_byThemselves_2 : decode cX6_byThemselves 2 = .ok (.iconst 0, 1) := by decide +kernel
theorem dX6_byThemselves_3 : decode cX6_byThemselves 3 = .ok (.istore 4, 2) := by decide +kernel
theorem dX6_byThemselves_5 : decode cX6_byThemselves 5 = .ok (.iload 4, 2) := by decide +kernel
theorem dX6_byThemselves_7 : decode cX6_byThemselves 7 = .ok (.aload_n 0, 1) := by decide +kernel
theorem dX6_byThemselves_8 : decode cX6_byThemselves 8 = .ok (.getfield 9, 3) := by decide +kernel
theorem dX6_byThemselves_11 : decode cX6_byThemselves 11 = .ok (.iconst 5, 1) := by decide +kernel
theorem dX6_byThemselves_12 : decode cX6_byThemselves 12 = .ok (.iaload, 1) := by decide +kernel
theorem dX6_byThemselves_13 : decode cX6_byThemselves 13 = .ok (.if_icmp .ge 37, 3) := by decide +kernel
theorem dX6_byThemselves_16 : decode cX6_byThemselves 16 = .ok (.iload_n 3, 1) := by decide +kernel
theorem dX6_byThemselves_17 : decode cX6_byThemselves 17 = .ok (.aload_n 0, 1) := by decide +kernel
theorem dX6_byThemselves_18 : decode cX6_byThemselves 18 = .ok (.iload_n 1, 1) := by decide +kernel
theorem dX6_byThemselves_19 : decode cX6_byThemselves 19 = .ok (.iload_n 2, 1) := by decide +kernel
theorem dX6_byThemselves_20 : decode cX6_byThemselves 20 = .ok (.iload 4, 2) := by decide +kernel
theorem dX6_byThemselves_22 : decode cX6_byThemselves 22 = .ok (.invokevirtual 79, 3) := by decide +kernel
theorem dX6_byThemselves_25 : decode cX6_byThemselves 25 = .ok (.aload_n 0, 1) := by decide +kernel
theorem dX6_byThemselves_26 : decode cX6_byThemselves 26 = .ok (.iload 4, 2) := by decide +kernel
theorem dX6_byThemselves_28 : decode cX6_byThemselves 28 = .ok (.invokevirtual 114, 3) := by decide +kernel
theorem dX6_byThemselves_31 : decode cX6_byThemselves 31 = .ok (.if_icmp .lt 10, 3) := by decide +kernel
theorem dX6_byThemselves_34 : decode cX6_byThemselves 34 = .ok (.iconst 1, 1) := by decide +kernel
theorem dX6_byThemselves_35 : decode cX6_byThemselves 35 = .ok (.iload 4, 2) := by decide +kernel
theorem dX6_byThemselves_37 : decode cX6_byThemselves 37 = .ok (.ishl, 1) := by decide +kernel
theorem dX6_byThemselves_38 : decode cX6_byThemselves 38 = .ok (.goto 4, 3) := by decide +kernel
theorem dX6_byThemselves_41 : decode cX6_byThemselves 41 = .ok (.iconst 0, 1) := by decide +kernel
theorem dX6_byThemselves_42 : decode cX6_byThemselves 42 = .ok (.ior, 1) := by decide +kernel
theorem dX6_byThemselves_43 : decode cX6_byThemselves 43 = .ok (.istore_n 3, 1) := by decide +kernel
theorem dX6_byThemselves_44 : decode cX6_byThemselves 44 = .ok (.iinc 4 1, 3) := by decide +kernel
theorem dX6_byThemselves_47 : decode cX6_byThemselves 47 = .ok (.goto (-42), 3) := by decide +kernel
theorem dX6_byThemselves_50 : decode cX6_byThemselves 50 = .ok (.iload_n 3, 1) := by decide +kernel
theorem dX6_byThemselves_51 : decode cX6_byThemselves 51 = .ok (.ireturn, 1) := by decide +kernel
theorem dX6_laughAt_0 : decode cX6_laughAt 0 = .ok (.aload_n 0, 1) := by decide +kernel
theorem dX6_laughAt_1 : decode cX6_laughAt 1 = .ok (.aload_n 0, 1) := by decide +kernel
theorem dX6_laughAt_2 : decode cX6_laughAt 2 = .ok (.iload_n 1, 1) := by decide +kernel
theorem dX6_laughAt_3 : decode cX6_laughAt 3 = .ok (.iload_n 2, 1) := by decide +kernel
theorem dX6_laughAt_4 : decode cX6_laughAt 4 = .ok (.invokevirtual 152, 3) := by decide +kernel
theorem dX6_laughAt_7 : decode cX6_laughAt 7 = .ok (.aload_n 0, 1) := by decide +kernel
theorem dX6_laughAt_8 : decode cX6_laughAt 8 = .ok (.invokevirtual 155, 3) := by decide +kernel
theorem dX6_laughAt_11 : decode cX6_laughAt 11 = .ok (.invokevirtual 159, 3) := by decide +kernel
theorem dX6_laughAt_14 : decode cX6_laughAt 14 = .ok (.ireturn, 1) := by decide +kernel
theorem dX6_laughAt__0 : decode cX6_laughAt_ 0 = .ok (.aload_n 0, 1) := by decide +kernel
theorem dX6_laughAt__1 : decode cX6_laughAt_ 1 = .ok (.aload_n 0, 1) := by decide +kernel
theorem dX6_laughAt__2 : decode cX6_laughAt_ 2 = .ok (.getfield 9, 3) := by decide +kernel
theorem dX6_laughAt__5 : decode cX6_laughAt_ 5 = .ok (.bipush 7, 2) := by decide +kernel
theorem dX6_laughAt__7 : decode cX6_laughAt_ 7 = .ok (.iconst 2, 1) := by decide +kernel
theorem dX6_laughAt__8 : decode cX6_laughAt_ 8 = .ok (.iload_n 1, 1) := by decide +kernel
theorem dX6_laughAt__9 : decode cX6_laughAt_ 9 = .ok (.imul, 1) := by decide +kernel
theorem dX6_laughAt__10 : decode cX6_laughAt_ 10 = .ok (.iadd, 1) := by decide +kernel
theorem dX6_laughAt__11 : decode cX6_laughAt_ 11 = .ok (.iaload, 1) := by decide +kernel
theorem dX6_laughAt__12 : decode cX6_laughAt_ 12 = .ok (.aload_n 0, 1) := by decide +kernel
theorem dX6_laughAt__13 : decode cX6_laughAt_ 13 = .ok (.getfield 9, 3) := by decide +kernel
theorem dX6_laughAt__16 : decode cX6_laughAt_ 16 = .ok (.bipush 7, 2) := by decide +kernel
theorem dX6_laughAt__18 : decode cX6_laughAt_ 18 = .ok (.iconst 2, 1) := by decide +kernel
theorem dX6_laughAt__19 : decode cX6_laughAt_ 19 = .ok (.iload_n 1, 1) := by decide +kernel
theorem dX6_laughAt__20 : decode cX6_laughAt_ 20 = .ok (.imul, 1) := by decide +kernel
theorem dX6_laughAt__21 : decode cX6_laughAt_ 21 = .ok (.iadd, 1) := by decide +kernel
theorem dX6_laughAt__22 : decode cX6_laughAt_ 22 = .ok (.iconst 1, 1) := by decide +kernel
theorem dX6_laughAt__23 : decode cX6_laughAt_ 23 = .ok (.iadd, 1) := by decide +kernel
theorem dX6_laughAt__24 : decode cX6_laughAt_ 24 = .ok (.iaload, 1) := by decide +kernel
theorem dX6_laughAt__25 : decode cX6_laughAt_ 25 = .ok (.invokevirtual 162, 3) := by decide +kernel
theorem dX6_laughAt__28 : decode cX6_laughAt_ 28 = .ok (.ireturn, 1) := by decide +kernel
theorem dX6_tells_0 : decode cX6_tells 0 = .ok (.aload_n 0, 1) := by decide +kernel
theorem dX6_tells_1 : decode cX6_tells 1 = .ok (.getfield 9, 3) := by decide +kernel
theorem dX6_tells_4 : decode cX6_tells 4 = .ok (.bipush 7, 2) := by decide +kernel
theorem dX6_tells_6 : decode cX6_tells 6 = .ok (.iconst 2, 1) := by decide +kernel
theorem dX6_tells_7 : decode cX6_tells 7 = .ok (.iload_n 1, 1) := by decide +kernel
theorem dX6_tells_8 : decode cX6_tells 8 = .ok (.imul, 1) := by decide +kernel
theorem dX6_tells_9 : decode cX6_tells 9 = .ok (.iadd, 1) := by decide +kernel
theorem dX6_tells_10 : decode cX6_tells 10 = .ok (.iaload, 1) := by decide +kernel
theorem dX6_tells_11 : decode cX6_tells 11 = .ok (.istore_n 2, 1) := by decide +kernel
theorem dX6_tells_12 : decode cX6_tells 12 = .ok (.aload_n 0, 1) := by decide +kernel
theorem dX6_tells_13 : decode cX6_tells 13 = .ok (.getfield 9, 3) := by decide +kernel
theorem dX6_tells_16 : decode cX6_tells 16 = .ok (.bipush 7, 2) := by decide +kernel
theorem dX6_tells_18 : decode cX6_tells 18 = .ok (.iconst 2, 1) := by decide +kernel
theorem dX6_tells_19 : decode cX6_tells 19 = .ok (.iload_n 1, 1) := by decide +kernel
theorem dX6_tells_20 : decode cX6_tells 20 = .ok (.imul, 1) := by decide +kernel
theorem dX6_tells_21 : decode cX6_tells 21 = .ok (.iadd, 1) := by decide +kernel
theorem dX6_tells_22 : decode cX6_tells 22 = .ok (.iconst 1, 1) := by decide +kernel
theorem dX6_tells_23 : decode cX6_tells 23 = .ok (.iadd, 1) := by decide +kernel
theorem dX6_tells_24 : decode cX6_tells 24 = .ok (.iaload, 1) := by decide +kernel
theorem dX6_tells_25 : decode cX6_tells 25 = .ok (.istore_n 3, 1) := by decide +kernel
theorem dX6_tells_26 : decode cX6_tells 26 = .ok (.aload_n 0, 1) := by decide +kernel
theorem dX6_tells_27 : decode cX6_tells 27 = .ok (.iload_n 2, 1) := by decide +kernel
theorem dX6_tells_28 : decode cX6_tells 28 = .ok (.iload_n 3, 1) := by decide +kernel
theorem dX6_tells_29 : decode cX6_tells 29 = .ok (.invokevirtual 162, 3) := by decide +kernel
theorem dX6_tells_32 : decode cX6_tells 32 = .ok (.istore 4, 2) := by decide +kernel
theorem dX6_tells_34 : decode cX6_tells 34 = .ok (.iconst 0, 1) := by decide +kernel
theorem dX6_tells_35 : decode cX6_tells 35 = .ok (.istore 5, 2) := by decide +kernel
theorem dX6_tells_37 : decode cX6_tells 37 = .ok (.iload 5, 2) := by decide +kernel
theorem dX6_tells_39 : decode cX6_tells 39 = .ok (.aload_n 0, 1) := by decide +kernel
theorem dX6_tells_40 : decode cX6_tells 40 = .ok (.getfield 9, 3) := by decide +kernel
theorem dX6_tells_43 : decode cX6_tells 43 = .ok (.iconst 5, 1) := by decide +kernel
theorem dX6_tells_44 : decode cX6_tells 44 = .ok (.iaload, 1) := by decide +kernel
theorem dX6_tells_45 : decode cX6_tells 45 = .ok (.if_icmp .ge 93, 3) := by decide +kernel
theorem dX6_tells_48 : decode cX6_tells 48 = .ok (.iload 4, 2) := by decide +kernel
theorem dX6_tells_50 : decode cX6_tells 50 = .ok (.iload 5, 2) := by decide +kernel
theorem dX6_tells_52 : decode cX6_tells 52 = .ok (.ishr, 1) := by decide +kernel
theorem dX6_tells_53 : decode cX6_tells 53 = .ok (.iconst 1, 1) := by decide +kernel
theorem dX6_tells_54 : decode cX6_tells 54 = .ok (.iand, 1) := by decide +kernel
theorem dX6_tells_55 : decode cX6_tells 55 = .ok (.iconst 1, 1) := by decide +kernel
theorem dX6_tells_56 : decode cX6_tells 56 = .ok (.if_icmp .ne 7, 3) := by decide +kernel
theorem dX6_tells_59 : decode cX6_tells 59 = .ok (.iconst 1, 1) := by decide +kernel
theorem dX6_tells_60 : decode cX6_tells 60 = .ok (.goto 4, 3) := by decide +kernel
theorem dX6_tells_63 : decode cX6_tells 63 = .ok (.iconst 0, 1) := by decide +kernel
theorem dX6_tells_64 : decode cX6_tells 64 = .ok (.istore 6, 2) := by decide +kernel
theorem dX6_tells_66 : decode cX6_tells 66 = .ok (.iload 6, 2) := by decide +kernel
theorem dX6_tells_68 : decode cX6_tells 68 = .ok (.ifCond .eq 14, 3) := by decide +kernel
theorem dX6_tells_71 : decode cX6_tells 71 = .ok (.aload_n 0, 1) := by decide +kernel
theorem dX6_tells_72 : decode cX6_tells 72 = .ok (.iload_n 2, 1) := by decide +kernel
theorem dX6_tells_73 : decode cX6_tells 73 = .ok (.iload_n 3, 1) := by decide +kernel
theorem dX6_tells_74 : decode cX6_tells 74 = .ok (.iload 5, 2) := by decide +kernel
theorem dX6_tells_76 : decode cX6_tells 76 = .ok (.invokevirtual 145, 3) := by decide +kernel
theorem dX6_tells_79 : decode cX6_tells 79 = .ok (.goto 4, 3) := by decide +kernel
theorem dX6_tells_82 : decode cX6_tells 82 = .ok (.iconst 0, 1) := by decide +kernel
theorem dX6_tells_83 : decode cX6_tells 83 = .ok (.istore 7, 2) := by decide +kernel
theorem dX6_tells_85 : decode cX6_tells 85 = .ok (.aload_n 0, 1) := by decide +kernel
theorem dX6_tells_86 : decode cX6_tells 86 = .ok (.getfield 25, 3) := by decide +kernel
theorem dX6_tells_89 : decode cX6_tells 89 = .ok (.iload 5, 2) := by decide +kernel
theorem dX6_tells_91 : decode cX6_tells 91 = .ok (.iload 7, 2) := by decide +kernel
theorem dX6_tells_93 : decode cX6_tells 93 = .ok (.aload_n 0, 1) := by decide +kernel
theorem dX6_tells_94 : decode cX6_tells 94 = .ok (.iload 5, 2) := by decide +kernel
theorem dX6_tells_96 : decode cX6_tells 96 = .ok (.iconst 4, 1) := by decide +kernel
theorem dX6_tells_97 : decode cX6_tells 97 = .ok (.invokevirtual 64, 3) := by decide +kernel
theorem dX6_tells_100 : decode cX6_tells 100 = .ok (.ldc 165, 2) := by decide +kernel
theorem dX6_tells_102 : decode cX6_tells 102 = .ok (.aload_n 0, 1) := by decide +kernel
theorem dX6_tells_103 : decode cX6_tells 103 = .ok (.getfield 9, 3) := by decide +kernel
theorem dX6_tells_106 : decode cX6_tells 106 = .ok (.iconst 2, 1) := by decide +kernel
theorem dX6_tells_107 : decode cX6_tells 107 = .ok (.iaload, 1) := by decide +kernel
theorem dX6_tells_108 : decode cX6_tells 108 = .ok (.isub, 1) := by decide +kernel
theorem dX6_tells_109 : decode cX6_tells 109 = .ok (.invokestatic 68, 3) := by decide +kernel
theorem dX6_tells_112 : decode cX6_tells 112 = .ok (.invokestatic 68, 3) := by decide +kernel
theorem dX6_tells_115 : decode cX6_tells 115 = .ok (.iastore, 1) := by decide +kernel
theorem dX6_tells_116 : decode cX6_tells 116 = .ok (.aload_n 0, 1) := by decide +kernel
theorem dX6_tells_117 : decode cX6_tells 117 = .ok (.getfield 9, 3) := by decide +kernel
theorem dX6_tells_120 : decode cX6_tells 120 = .ok (.iconst 2, 1) := by decide +kernel
theorem dX6_tells_121 : decode cX6_tells 121 = .ok (.dup2, 1) := by decide +kernel
theorem dX6_tells_122 : decode cX6_tells 122 = .ok (.iaload, 1) := by decide +kernel
theorem dX6_tells_123 : decode cX6_tells 123 = .ok (.aload_n 0, 1) := by decide +kernel
theorem dX6_tells_124 : decode cX6_tells 124 = .ok (.getfield 25, 3) := by decide +kernel
theorem dX6_tells_127 : decode cX6_tells 127 = .ok (.iload 5, 2) := by decide +kernel
theorem dX6_tells_129 : decode cX6_tells 129 = .ok (.iaload, 1) := by decide +kernel
theorem dX6_tells_130 : decode cX6_tells 130 = .ok (.iadd, 1) := by decide +kernel
theorem dX6_tells_131 : decode cX6_tells 131 = .ok (.iastore, 1) := by decide +kernel
theorem dX6_tells_132 : decode cX6_tells 132 = .ok (.iinc 5 1, 3) := by decide +kernel
theorem dX6_tells_135 : decode cX6_tells 135 = .ok (.goto (-98), 3) := by decide +kernel
theorem dX6_tells_138 : decode cX6_tells 138 = .ok (.iconst 0, 1) := by decide +kernel
theorem dX6_tells_139 : decode cX6_tells 139 = .ok (.istore 5, 2) := by decide +kernel
theorem dX6_tells_141 : decode cX6_tells 141 = .ok (.iload 5, 2) := by decide +kernel
theorem dX6_tells_143 : decode cX6_tells 143 = .ok (.aload_n 0, 1) := by decide +kernel
theorem dX6_tells_144 : decode cX6_tells 144 = .ok (.getfield 9, 3) := by decide +kernel
theorem dX6_tells_147 : decode cX6_tells 147 = .ok (.iconst 5, 1) := by decide +kernel
theorem dX6_tells_148 : decode cX6_tells 148 = .ok (.iaload, 1) := by decide +kernel
theorem dX6_tells_149 : decode cX6_tells 149 = .ok (.if_icmp .ge 83, 3) := by decide +kernel
theorem dX6_tells_152 : decode cX6_tells 152 = .ok (.iload 4, 2) := by decide +kernel
theorem dX6_tells_154 : decode cX6_tells 154 = .ok (.iload 5, 2) := by decide +kernel
theorem dX6_tells_156 : decode cX6_tells 156 = .ok (.ishr, 1) := by decide +kernel
theorem dX6_tells_157 : decode cX6_tells 157 = .ok (.iconst 1, 1) := by decide +kernel
theorem dX6_tells_158 : decode cX6_tells 158 = .ok (.iand, 1) := by decide +kernel
theorem dX6_tells_159 : decode cX6_tells 159 = .ok (.iconst 1, 1) := by decide +kernel
theorem dX6_tells_160 : decode cX6_tells 160 = .ok (.if_icmp .ne 7, 3) := by decide +kernel
theorem dX6_tells_163 : decode cX6_tells 163 = .ok (.iconst 1, 1) := by decide +kernel
theorem dX6_tells_164 : decode cX6_tells 164 = .ok (.goto 4, 3) := by decide +kernel
theorem dX6_tells_167 : decode cX6_tells 167 = .ok (.iconst 0, 1) := by decide +kernel
theorem dX6_tells_168 : decode cX6_tells 168 = .ok (.istore 6, 2) := by decide +kernel
theorem dX6_tells_170 : decode cX6_tells 170 = .ok (.aload_n 0, 1) := by decide +kernel
theorem dX6_tells_171 : decode cX6_tells 171 = .ok (.iload 5, 2) := by decide +kernel
theorem dX6_tells_173 : decode cX6_tells 173 = .ok (.iconst 4, 1) := by decide +kernel
theorem dX6_tells_174 : decode cX6_tells 174 = .ok (.aload_n 0, 1) := by decide +kernel
theorem dX6_tells_175 : decode cX6_tells 175 = .ok (.iload 5, 2) := by decide +kernel
theorem dX6_tells_177 : decode cX6_tells 177 = .ok (.iconst 4, 1) := by decide +kernel
theorem dX6_tells_178 : decode cX6_tells 178 = .ok (.invokevirtual 64, 3) := by decide +kernel
theorem dX6_tells_181 : decode cX6_tells 181 = .ok (.aload_n 0, 1) := by decide +kernel
theorem dX6_tells_182 : decode cX6_tells 182 = .ok (.getfield 25, 3) := by decide +kernel
theorem dX6_tells_185 : decode cX6_tells 185 = .ok (.iload 5, 2) := by decide +kernel
theorem dX6_tells_187 : decode cX6_tells 187 = .ok (.iaload, 1) := by decide +kernel
theorem dX6_tells_188 : decode cX6_tells 188 = .ok (.isub, 1) := by decide +kernel
theorem dX6_tells_189 : decode cX6_tells 189 = .ok (.invokevirtual 92, 3) := by decide +kernel
theorem dX6_tells_192 : decode cX6_tells 192 = .ok (.aload_n 0, 1) := by decide +kernel
theorem dX6_tells_193 : decode cX6_tells 193 = .ok (.iload 5, 2) := by decide +kernel
theorem dX6_tells_195 : decode cX6_tells 195 = .ok (.iconst 3, 1) := by decide +kernel
theorem dX6_tells_196 : decode cX6_tells 196 = .ok (.iconst 0, 1) := by decide +kernel
theorem dX6_tells_197 : decode cX6_tells 197 = .ok (.bipush 9, 2) := by decide +kernel
theorem dX6_tells_199 : decode cX6_tells 199 = .ok (.aload_n 0, 1) := by decide +kernel
theorem dX6_tells_200 : decode cX6_tells 200 = .ok (.iload 5, 2) := by decide +kernel
theorem dX6_tells_202 : decode cX6_tells 202 = .ok (.iconst 3, 1) := by decide +kernel
theorem dX6_tells_203 : decode cX6_tells 203 = .ok (.invokevirtual 64, 3) := by decide +kernel
theorem dX6_tells_206 : decode cX6_tells 206 = .ok (.iload 6, 2) := by decide +kernel
theorem dX6_tells_208 : decode cX6_tells 208 = .ok (.ifCond .eq 7, 3) := by decide +kernel
theorem dX6_tells_211 : decode cX6_tells 211 = .ok (.iconst 1, 1) := by decide +kernel
theorem dX6_tells_212 : decode cX6_tells 212 = .ok (.goto 4, 3) := by decide +kernel
theorem dX6_tells_215 : decode cX6_tells 215 = .ok (.iconst (-1), 1) := by decide +kernel
theorem dX6_tells_216 : decode cX6_tells 216 = .ok (.iadd, 1) := by decide +kernel
theorem dX6_tells_217 : decode cX6_tells 217 = .ok (.invokestatic 68, 3) := by decide +kernel
theorem dX6_tells_220 : decode cX6_tells 220 = .ok (.invokestatic 83, 3) := by decide +kernel
theorem dX6_tells_223 : decode cX6_tells 223 = .ok (.invokevirtual 92, 3) := by decide +kernel
theorem dX6_tells_226 : decode cX6_tells 226 = .ok (.iinc 5 1, 3) := by decide +kernel
theorem dX6_tells_229 : decode cX6_tells 229 = .ok (.goto (-88), 3) := by decide +kernel
theorem dX6_tells_232 : decode cX6_tells 232 = .ok (.aload_n 0, 1) := by decide +kernel
theorem dX6_tells_233 : decode cX6_tells 233 = .ok (.getfield 9, 3) := by decide +kernel
theorem dX6_tells_236 : decode cX6_tells 236 = .ok (.iconst 3, 1) := by decide +kernel
theorem dX6_tells_237 : decode cX6_tells 237 = .ok (.dup2, 1) := by decide +kernel
theorem dX6_tells_238 : decode cX6_tells 238 = .ok (.iaload, 1) := by decide +kernel
theorem dX6_tells_239 : decode cX6_tells 239 = .ok (.iconst 1, 1) := by decide +kernel
theorem dX6_tells_240 : decode cX6_tells 240 = .ok (.iadd, 1) := by decide +kernel
theorem dX6_tells_241 : decode cX6_tells 241 = .ok (.iastore, 1) := by decide +kernel
theorem dX6_tells_242 : decode cX6_tells 242 = .ok (.iload 4, 2) := by decide +kernel
theorem dX6_tells_244 : decode cX6_tells 244 = .ok (.ireturn, 1) := by decide +kernel
theorem dX6_allPaid_0 : decode cX6_allPaid 0 = .ok (.iconst 0, 1) := by decide +kernel
theorem dX6_allPaid_1 : decode cX6_allPaid 1 = .ok (.istore_n 1, 1) := by decide +kernel
theorem dX6_allPaid_2 : decode cX6_allPaid 2 = .ok (.iconst 0, 1) := by decide +kernel
theorem dX6_allPaid_3 : decode cX6_allPaid 3 = .ok (.istore_n 2, 1) := by decide +kernel
theorem dX6_allPaid_4 : decode cX6_allPaid 4 = .ok (.iload_n 2, 1) := by decide +kernel
theorem dX6_allPaid_5 : decode cX6_allPaid 5 = .ok (.aload_n 0, 1) := by decide +kernel
theorem dX6_allPaid_6 : decode cX6_allPaid 6 = .ok (.getfield 9, 3) := by decide +kernel
theorem dX6_allPaid_9 : decode cX6_allPaid 9 = .ok (.iconst 5, 1) := by decide +kernel
theorem dX6_allPaid_10 : decode cX6_allPaid 10 = .ok (.iaload, 1) := by decide +kernel
theorem dX6_allPaid_11 : decode cX6_allPaid 11 = .ok (.if_icmp .ge 18, 3) := by decide +kernel
theorem dX6_allPaid_14 : decode cX6_allPaid 14 = .ok (.iload_n 1, 1) := by decide +kernel
theorem dX6_allPaid_15 : decode cX6_allPaid 15 = .ok (.aload_n 0, 1) := by decide +kernel
theorem dX6_allPaid_16 : decode cX6_allPaid 16 = .ok (.getfield 25, 3) := by decide +kernel
theorem dX6_allPaid_19 : decode cX6_allPaid 19 = .ok (.iload_n 2, 1) := by decide +kernel
theorem dX6_allPaid_20 : decode cX6_allPaid 20 = .ok (.iaload, 1) := by decide +kernel
theorem dX6_allPaid_21 : decode cX6_allPaid 21 = .ok (.iadd, 1) := by decide +kernel
theorem dX6_allPaid_22 : decode cX6_allPaid 22 = .ok (.istore_n 1, 1) := by decide +kernel
theorem dX6_allPaid_23 : decode cX6_allPaid 23 = .ok (.iinc 2 1, 3) := by decide +kernel
theorem dX6_allPaid_26 : decode cX6_allPaid 26 = .ok (.goto (-22), 3) := by decide +kernel
theorem dX6_allPaid_29 : decode cX6_allPaid 29 = .ok (.iload_n 1, 1) := by decide +kernel
theorem dX6_allPaid_30 : decode cX6_allPaid 30 = .ok (.ireturn, 1) := by decide +kernel
theorem dX6_tell_0 : decode cX6_tell 0 = .ok (.aload_n 0, 1) := by decide +kernel
theorem dX6_tell_1 : decode cX6_tell 1 = .ok (.iload_n 1, 1) := by decide +kernel
theorem dX6_tell_2 : decode cX6_tell 2 = .ok (.invokevirtual 138, 3) := by decide +kernel
theorem dX6_tell_5 : decode cX6_tell 5 = .ok (.ifCond .ne 9, 3) := by decide +kernel
theorem dX6_tell_8 : decode cX6_tell 8 = .ok (.aload_n 0, 1) := by decide +kernel
theorem dX6_tell_9 : decode cX6_tell 9 = .ok (.iconst 0, 1) := by decide +kernel
theorem dX6_tell_10 : decode cX6_tell 10 = .ok (.invokevirtual 103, 3) := by decide +kernel
theorem dX6_tell_13 : decode cX6_tell 13 = .ok (.ireturn, 1) := by decide +kernel
theorem dX6_tell_14 : decode cX6_tell 14 = .ok (.aload_n 0, 1) := by decide +kernel
theorem dX6_tell_15 : decode cX6_tell 15 = .ok (.getfield 9, 3) := by decide +kernel
theorem dX6_tell_18 : decode cX6_tell 18 = .ok (.iconst 3, 1) := by decide +kernel
theorem dX6_tell_19 : decode cX6_tell 19 = .ok (.iaload, 1) := by decide +kernel
theorem dX6_tell_20 : decode cX6_tell 20 = .ok (.ldc 166, 2) := by decide +kernel
theorem dX6_tell_22 : decode cX6_tell 22 = .ok (.if_icmp .ne 11, 3) := by decide +kernel
theorem dX6_tell_25 : decode cX6_tell 25 = .ok (.aload_n 0, 1) := by decide +kernel
theorem dX6_tell_26 : decode cX6_tell 26 = .ok (.iconst 4, 1) := by decide +kernel
theorem dX6_tell_27 : decode cX6_tell 27 = .ok (.invokevirtual 103, 3) := by decide +kernel
theorem dX6_tell_30 : decode cX6_tell 30 = .ok (.goto 8, 3) := by decide +kernel
theorem dX6_tell_33 : decode cX6_tell 33 = .ok (.aload_n 0, 1) := by decide +kernel
theorem dX6_tell_34 : decode cX6_tell 34 = .ok (.iload_n 1, 1) := by decide +kernel
theorem dX6_tell_35 : decode cX6_tell 35 = .ok (.invokevirtual 167, 3) := by decide +kernel
theorem dX6_tell_38 : decode cX6_tell 38 = .ok (.ireturn, 1) := by decide +kernel
theorem dX6_evening_0 : decode cX6_evening 0 = .ok (.aload_n 0, 1) := by decide +kernel
theorem dX6_evening_1 : decode cX6_evening 1 = .ok (.iload_n 1, 1) := by decide +kernel
theorem dX6_evening_2 : decode cX6_evening 2 = .ok (.invokevirtual 138, 3) := by decide +kernel
theorem dX6_evening_5 : decode cX6_evening 5 = .ok (.ifCond .eq 15, 3) := by decide +kernel
theorem dX6_evening_8 : decode cX6_evening 8 = .ok (.iload_n 2, 1) := by decide +kernel
theorem dX6_evening_9 : decode cX6_evening 9 = .ok (.i2l, 1) := by decide +kernel
theorem dX6_evening_10 : decode cX6_evening 10 = .ok (.lconst 1, 1) := by decide +kernel
theorem dX6_evening_11 : decode cX6_evening 11 = .ok (.ldc2_w 170, 3) := by decide +kernel
theorem dX6_evening_14 : decode cX6_evening 14 = .ok (.invokestatic 48, 3) := by decide +kernel
theorem dX6_evening_17 : decode cX6_evening 17 = .ok (.ifCond .ne 9, 3) := by decide +kernel
theorem dX6_evening_20 : decode cX6_evening 20 = .ok (.aload_n 0, 1) := by decide +kernel
theorem dX6_evening_21 : decode cX6_evening 21 = .ok (.iconst 0, 1) := by decide +kernel
theorem dX6_evening_22 : decode cX6_evening 22 = .ok (.invokevirtual 103, 3) := by decide +kernel
theorem dX6_evening_25 : decode cX6_evening 25 = .ok (.ireturn, 1) := by decide +kernel
theorem dX6_evening_26 : decode cX6_evening 26 = .ok (.aload_n 0, 1) := by decide +kernel
theorem dX6_evening_27 : decode cX6_evening 27 = .ok (.getfield 9, 3) := by decide +kernel
theorem dX6_evening_30 : decode cX6_evening 30 = .ok (.iconst 3, 1) := by decide +kernel
theorem dX6_evening_31 : decode cX6_evening 31 = .ok (.iaload, 1) := by decide +kernel
theorem dX6_evening_32 : decode cX6_evening 32 = .ok (.iload_n 2, 1) := by decide +kernel
theorem dX6_evening_33 : decode cX6_evening 33 = .ok (.iadd, 1) := by decide +kernel
theorem dX6_evening_34 : decode cX6_evening 34 = .ok (.ldc 166, 2) := by decide +kernel
theorem dX6_evening_36 : decode cX6_evening 36 = .ok (.if_icmp .le 9, 3) := by decide +kernel
theorem dX6_evening_39 : decode cX6_evening 39 = .ok (.aload_n 0, 1) := by decide +kernel
theorem dX6_evening_40 : decode cX6_evening 40 = .ok (.iconst 4, 1) := by decide +kernel
theorem dX6_evening_41 : decode cX6_evening 41 = .ok (.invokevirtual 103, 3) := by decide +kernel
theorem dX6_evening_44 : decode cX6_evening 44 = .ok (.ireturn, 1) := by decide +kernel
theorem dX6_evening_45 : decode cX6_evening 45 = .ok (.iconst 0, 1) := by decide +kernel
theorem dX6_evening_46 : decode cX6_evening 46 = .ok (.istore_n 3, 1) := by decide +kernel
theorem dX6_evening_47 : decode cX6_evening 47 = .ok (.iload_n 3, 1) := by decide +kernel
theorem dX6_evening_48 : decode cX6_evening 48 = .ok (.iload_n 2, 1) := by decide +kernel
theorem dX6_evening_49 : decode cX6_evening 49 = .ok (.if_icmp .ge 16, 3) := by decide +kernel
theorem dX6_evening_52 : decode cX6_evening 52 = .ok (.aload_n 0, 1) := by decide +kernel
theorem dX6_evening_53 : decode cX6_evening 53 = .ok (.iload_n 1, 1) := by decide +kernel
theorem dX6_evening_54 : decode cX6_evening 54 = .ok (.invokevirtual 167, 3) := by decide +kernel
theorem dX6_evening_57 : decode cX6_evening 57 = .ok (.istore 4, 2) := by decide +kernel
theorem dX6_evening_59 : decode cX6_evening 59 = .ok (.iinc 3 1, 3) := by decide +kernel
theorem dX6_evening_62 : decode cX6_evening 62 = .ok (.goto (-15), 3) := by decide +kernel
theorem dX6_evening_65 : decode cX6_evening 65 = .ok (.aload_n 0, 1) := by decide +kernel
theorem dX6_evening_66 : decode cX6_evening 66 = .ok (.getfield 9, 3) := by decide +kernel
theorem dX6_evening_69 : decode cX6_evening 69 = .ok (.iconst 2, 1) := by decide +kernel
theorem dX6_evening_70 : decode cX6_evening 70 = .ok (.iaload, 1) := by decide +kernel
theorem dX6_evening_71 : decode cX6_evening 71 = .ok (.ireturn, 1) := by decide +kernel
theorem dX6_sumOf_0 : decode cX6_sumOf 0 = .ok (.iconst 0, 1) := by decide +kernel
theorem dX6_sumOf_1 : decode cX6_sumOf 1 = .ok (.istore_n 2, 1) := by decide +kernel
theorem dX6_sumOf_2 : decode cX6_sumOf 2 = .ok (.iconst 0, 1) := by decide +kernel
theorem dX6_sumOf_3 : decode cX6_sumOf 3 = .ok (.istore_n 3, 1) := by decide +kernel
theorem dX6_sumOf_4 : decode cX6_sumOf 4 = .ok (.iload_n 3, 1) := by decide +kernel
theorem dX6_sumOf_5 : decode cX6_sumOf 5 = .ok (.aload_n 0, 1) := by decide +kernel
theorem dX6_sumOf_6 : decode cX6_sumOf 6 = .ok (.getfield 9, 3) := by decide +kernel
theorem dX6_sumOf_9 : decode cX6_sumOf 9 = .ok (.iconst 5, 1) := by decide +kernel
theorem dX6_sumOf_10 : decode cX6_sumOf 10 = .ok (.iaload, 1) := by decide +kernel
theorem dX6_sumOf_11 : decode cX6_sumOf 11 = .ok (.if_icmp .ge 18, 3) := by decide +kernel
theorem dX6_sumOf_14 : decode cX6_sumOf 14 = .ok (.iload_n 2, 1) := by decide +kernel
theorem dX6_sumOf_15 : decode cX6_sumOf 15 = .ok (.aload_n 0, 1) := by decide +kernel
theorem dX6_sumOf_16 : decode cX6_sumOf 16 = .ok (.iload_n 3, 1) := by decide +kernel
theorem dX6_sumOf_17 : decode cX6_sumOf 17 = .ok (.iload_n 1, 1) := by decide +kernel
theorem dX6_sumOf_18 : decode cX6_sumOf 18 = .ok (.invokevirtual 64, 3) := by decide +kernel
theorem dX6_sumOf_21 : decode cX6_sumOf 21 = .ok (.iadd, 1) := by decide +kernel
theorem dX6_sumOf_22 : decode cX6_sumOf 22 = .ok (.istore_n 2, 1) := by decide +kernel
theorem dX6_sumOf_23 : decode cX6_sumOf 23 = .ok (.iinc 3 1, 3) := by decide +kernel
theorem dX6_sumOf_26 : decode cX6_sumOf 26 = .ok (.goto (-22), 3) := by decide +kernel
theorem dX6_sumOf_29 : decode cX6_sumOf 29 = .ok (.iload_n 2, 1) := by decide +kernel
theorem dX6_sumOf_30 : decode cX6_sumOf 30 = .ok (.ireturn, 1) := by decide +kernel
theorem dX6_now_0 : decode cX6_now 0 = .ok (.iload_n 1, 1) := by decide +kernel
theorem dX6_now_1 : decode cX6_now 1 = .ok (.tableswitch 79 0 5 #[39, 46, 53, 59, 65, 72], 39) := by decide +kernel
theorem dX6_now_40 : decode cX6_now 40 = .ok (.aload_n 0, 1) := by decide +kernel
theorem dX6_now_41 : decode cX6_now 41 = .ok (.getfield 9, 3) := by decide +kernel
theorem dX6_now_44 : decode cX6_now 44 = .ok (.iconst 3, 1) := by decide +kernel
theorem dX6_now_45 : decode cX6_now 45 = .ok (.iaload, 1) := by decide +kernel
theorem dX6_now_46 : decode cX6_now 46 = .ok (.ireturn, 1) := by decide +kernel
theorem dX6_now_47 : decode cX6_now 47 = .ok (.aload_n 0, 1) := by decide +kernel
theorem dX6_now_48 : decode cX6_now 48 = .ok (.getfield 9, 3) := by decide +kernel
theorem dX6_now_51 : decode cX6_now 51 = .ok (.iconst 2, 1) := by decide +kernel
theorem dX6_now_52 : decode cX6_now 52 = .ok (.iaload, 1) := by decide +kernel
theorem dX6_now_53 : decode cX6_now 53 = .ok (.ireturn, 1) := by decide +kernel
theorem dX6_now_54 : decode cX6_now 54 = .ok (.aload_n 0, 1) := by decide +kernel
theorem dX6_now_55 : decode cX6_now 55 = .ok (.iconst 4, 1) := by decide +kernel
theorem dX6_now_56 : decode cX6_now 56 = .ok (.invokevirtual 172, 3) := by decide +kernel
theorem dX6_now_59 : decode cX6_now 59 = .ok (.ireturn, 1) := by decide +kernel
theorem dX6_now_60 : decode cX6_now 60 = .ok (.aload_n 0, 1) := by decide +kernel
theorem dX6_now_61 : decode cX6_now 61 = .ok (.iconst 3, 1) := by decide +kernel
theorem dX6_now_62 : decode cX6_now 62 = .ok (.invokevirtual 172, 3) := by decide +kernel
theorem dX6_now_65 : decode cX6_now 65 = .ok (.ireturn, 1) := by decide +kernel
theorem dX6_now_66 : decode cX6_now 66 = .ok (.aload_n 0, 1) := by decide +kernel
theorem dX6_now_67 : decode cX6_now 67 = .ok (.getfield 9, 3) := by decide +kernel
theorem dX6_now_70 : decode cX6_now 70 = .ok (.iconst 0, 1) := by decide +kernel
theorem dX6_now_71 : decode cX6_now 71 = .ok (.iaload, 1) := by decide +kernel
theorem dX6_now_72 : decode cX6_now 72 = .ok (.ireturn, 1) := by decide +kernel
theorem dX6_now_73 : decode cX6_now 73 = .ok (.aload_n 0, 1) := by decide +kernel
theorem dX6_now_74 : decode cX6_now 74 = .ok (.getfield 9, 3) := by decide +kernel
theorem dX6_now_77 : decode cX6_now 77 = .ok (.iconst 1, 1) := by decide +kernel
theorem dX6_now_78 : decode cX6_now 78 = .ok (.iaload, 1) := by decide +kernel
theorem dX6_now_79 : decode cX6_now 79 = .ok (.ireturn, 1) := by decide +kernel
theorem dX6_now_80 : decode cX6_now 80 = .ok (.aload_n 0, 1) := by decide +kernel
theorem dX6_now_81 : decode cX6_now 81 = .ok (.iconst 0, 1) := by decide +kernel
theorem dX6_now_82 : decode cX6_now 82 = .ok (.invokevirtual 103, 3) := by decide +kernel
theorem dX6_now_85 : decode cX6_now 85 = .ok (.ireturn, 1) := by decide +kernel
theorem dX6_poorest_0 : decode cX6_poorest 0 = .ok (.iconst 0, 1) := by decide +kernel
theorem dX6_poorest_1 : decode cX6_poorest 1 = .ok (.istore_n 1, 1) := by decide +kernel
theorem dX6_poorest_2 : decode cX6_poorest 2 = .ok (.iconst 1, 1) := by decide +kernel
theorem dX6_poorest_3 : decode cX6_poorest 3 = .ok (.istore_n 2, 1) := by decide +kernel
theorem dX6_poorest_4 : decode cX6_poorest 4 = .ok (.iload_n 2, 1) := by decide +kernel
theorem dX6_poorest_5 : decode cX6_poorest 5 = .ok (.aload_n 0, 1) := by decide +kernel
theorem dX6_poorest_6 : decode cX6_poorest 6 = .ok (.getfield 9, 3) := by decide +kernel
theorem dX6_poorest_9 : decode cX6_poorest 9 = .ok (.iconst 5, 1) := by decide +kernel
theorem dX6_poorest_10 : decode cX6_poorest 10 = .ok (.iaload, 1) := by decide +kernel
theorem dX6_poorest_11 : decode cX6_poorest 11 = .ok (.if_icmp .ge 30, 3) := by decide +kernel
theorem dX6_poorest_14 : decode cX6_poorest 14 = .ok (.aload_n 0, 1) := by decide +kernel
theorem dX6_poorest_15 : decode cX6_poorest 15 = .ok (.iload_n 2, 1) := by decide +kernel
theorem dX6_poorest_16 : decode cX6_poorest 16 = .ok (.iconst 4, 1) := by decide +kernel
theorem dX6_poorest_17 : decode cX6_poorest 17 = .ok (.invokevirtual 64, 3) := by decide +kernel
theorem dX6_poorest_20 : decode cX6_poorest 20 = .ok (.aload_n 0, 1) := by decide +kernel
theorem dX6_poorest_21 : decode cX6_poorest 21 = .ok (.iload_n 1, 1) := by decide +kernel
theorem dX6_poorest_22 : decode cX6_poorest 22 = .ok (.iconst 4, 1) := by decide +kernel
theorem dX6_poorest_23 : decode cX6_poorest 23 = .ok (.invokevirtual 64, 3) := by decide +kernel
theorem dX6_poorest_26 : decode cX6_poorest 26 = .ok (.if_icmp .ge 7, 3) := by decide +kernel
theorem dX6_poorest_29 : decode cX6_poorest 29 = .ok (.iload_n 2, 1) := by decide +kernel
theorem dX6_poorest_30 : decode cX6_poorest 30 = .ok (.goto 4, 3) := by decide +kernel
theorem dX6_poorest_33 : decode cX6_poorest 33 = .ok (.iload_n 1, 1) := by decide +kernel
theorem dX6_poorest_34 : decode cX6_poorest 34 = .ok (.istore_n 1, 1) := by decide +kernel
theorem dX6_poorest_35 : decode cX6_poorest 35 = .ok (.iinc 2 1, 3) := by decide +kernel
theorem dX6_poorest_38 : decode cX6_poorest 38 = .ok (.goto (-34), 3) := by decide +kernel
theorem dX6_poorest_41 : decode cX6_poorest 41 = .ok (.iload_n 1, 1) := by decide +kernel
theorem dX6_poorest_42 : decode cX6_poorest 42 = .ok (.ireturn, 1) := by decide +kernel
theorem dX6_relief_0 : decode cX6_relief 0 = .ok (.iload_n 1, 1) := by decide +kernel
theorem dX6_relief_1 : decode cX6_relief 1 = .ok (.i2l, 1) := by decide +kernel
theorem dX6_relief_2 : decode cX6_relief 2 = .ok (.lconst 0, 1) := by decide +kernel
theorem dX6_relief_3 : decode cX6_relief 3 = .ok (.ldc2_w 120, 3) := by decide +kernel
theorem dX6_relief_6 : decode cX6_relief 6 = .ok (.invokestatic 48, 3) := by decide +kernel
theorem dX6_relief_9 : decode cX6_relief 9 = .ok (.ifCond .ne 9, 3) := by decide +kernel
theorem dX6_relief_12 : decode cX6_relief 12 = .ok (.aload_n 0, 1) := by decide +kernel
theorem dX6_relief_13 : decode cX6_relief 13 = .ok (.iconst 0, 1) := by decide +kernel
theorem dX6_relief_14 : decode cX6_relief 14 = .ok (.invokevirtual 103, 3) := by decide +kernel
theorem dX6_relief_17 : decode cX6_relief 17 = .ok (.ireturn, 1) := by decide +kernel
theorem dX6_relief_18 : decode cX6_relief 18 = .ok (.aload_n 0, 1) := by decide +kernel
theorem dX6_relief_19 : decode cX6_relief 19 = .ok (.getfield 9, 3) := by decide +kernel
theorem dX6_relief_22 : decode cX6_relief 22 = .ok (.iconst 5, 1) := by decide +kernel
theorem dX6_relief_23 : decode cX6_relief 23 = .ok (.iaload, 1) := by decide +kernel
theorem dX6_relief_24 : decode cX6_relief 24 = .ok (.ifCond .ne 9, 3) := by decide +kernel
theorem dX6_relief_27 : decode cX6_relief 27 = .ok (.aload_n 0, 1) := by decide +kernel
theorem dX6_relief_28 : decode cX6_relief 28 = .ok (.iconst 3, 1) := by decide +kernel
theorem dX6_relief_29 : decode cX6_relief 29 = .ok (.invokevirtual 103, 3) := by decide +kernel
theorem dX6_relief_32 : decode cX6_relief 32 = .ok (.ireturn, 1) := by decide +kernel
theorem dX6_relief_33 : decode cX6_relief 33 = .ok (.iconst 0, 1) := by decide +kernel
theorem dX6_relief_34 : decode cX6_relief 34 = .ok (.istore_n 2, 1) := by decide +kernel
theorem dX6_relief_35 : decode cX6_relief 35 = .ok (.iload_n 2, 1) := by decide +kernel
theorem dX6_relief_36 : decode cX6_relief 36 = .ok (.iload_n 1, 1) := by decide +kernel
theorem dX6_relief_37 : decode cX6_relief 37 = .ok (.if_icmp .ge 62, 3) := by decide +kernel
theorem dX6_relief_40 : decode cX6_relief 40 = .ok (.aload_n 0, 1) := by decide +kernel
theorem dX6_relief_41 : decode cX6_relief 41 = .ok (.getfield 9, 3) := by decide +kernel
theorem dX6_relief_44 : decode cX6_relief 44 = .ok (.iconst 2, 1) := by decide +kernel
theorem dX6_relief_45 : decode cX6_relief 45 = .ok (.iaload, 1) := by decide +kernel
theorem dX6_relief_46 : decode cX6_relief 46 = .ok (.ifCond .le 53, 3) := by decide +kernel
theorem dX6_relief_49 : decode cX6_relief 49 = .ok (.aload_n 0, 1) := by decide +kernel
theorem dX6_relief_50 : decode cX6_relief 50 = .ok (.aload_n 0, 1) := by decide +kernel
theorem dX6_relief_51 : decode cX6_relief 51 = .ok (.invokevirtual 175, 3) := by decide +kernel
theorem dX6_relief_54 : decode cX6_relief 54 = .ok (.iconst 4, 1) := by decide +kernel
theorem dX6_relief_55 : decode cX6_relief 55 = .ok (.invokevirtual 64, 3) := by decide +kernel
theorem dX6_relief_58 : decode cX6_relief 58 = .ok (.sipush 9999, 3) := by decide +kernel
theorem dX6_relief_61 : decode cX6_relief 61 = .ok (.if_icmp .ge 38, 3) := by decide +kernel
theorem dX6_relief_64 : decode cX6_relief 64 = .ok (.aload_n 0, 1) := by decide +kernel
theorem dX6_relief_65 : decode cX6_relief 65 = .ok (.invokevirtual 175, 3) := by decide +kernel
theorem dX6_relief_68 : decode cX6_relief 68 = .ok (.istore_n 3, 1) := by decide +kernel
theorem dX6_relief_69 : decode cX6_relief 69 = .ok (.aload_n 0, 1) := by decide +kernel
theorem dX6_relief_70 : decode cX6_relief 70 = .ok (.iload_n 3, 1) := by decide +kernel
theorem dX6_relief_71 : decode cX6_relief 71 = .ok (.iconst 4, 1) := by decide +kernel
theorem dX6_relief_72 : decode cX6_relief 72 = .ok (.aload_n 0, 1) := by decide +kernel
theorem dX6_relief_73 : decode cX6_relief 73 = .ok (.iload_n 3, 1) := by decide +kernel
theorem dX6_relief_74 : decode cX6_relief 74 = .ok (.iconst 4, 1) := by decide +kernel
theorem dX6_relief_75 : decode cX6_relief 75 = .ok (.invokevirtual 64, 3) := by decide +kernel
theorem dX6_relief_78 : decode cX6_relief 78 = .ok (.iconst 1, 1) := by decide +kernel
theorem dX6_relief_79 : decode cX6_relief 79 = .ok (.iadd, 1) := by decide +kernel
theorem dX6_relief_80 : decode cX6_relief 80 = .ok (.invokevirtual 92, 3) := by decide +kernel
theorem dX6_relief_83 : decode cX6_relief 83 = .ok (.aload_n 0, 1) := by decide +kernel
theorem dX6_relief_84 : decode cX6_relief 84 = .ok (.getfield 9, 3) := by decide +kernel
theorem dX6_relief_87 : decode cX6_relief 87 = .ok (.iconst 2, 1) := by decide +kernel
theorem dX6_relief_88 : decode cX6_relief 88 = .ok (.dup2, 1) := by decide +kernel
theorem dX6_relief_89 : decode cX6_relief 89 = .ok (.iaload, 1) := by decide +kernel
theorem dX6_relief_90 : decode cX6_relief 90 = .ok (.iconst 1, 1) := by decide +kernel
theorem dX6_relief_91 : decode cX6_relief 91 = .ok (.isub, 1) := by decide +kernel
theorem dX6_relief_92 : decode cX6_relief 92 = .ok (.iastore, 1) := by decide +kernel
theorem dX6_relief_93 : decode cX6_relief 93 = .ok (.iinc 2 1, 3) := by decide +kernel
theorem dX6_relief_96 : decode cX6_relief 96 = .ok (.goto (-61), 3) := by decide +kernel
theorem dX6_relief_99 : decode cX6_relief 99 = .ok (.iload_n 2, 1) := by decide +kernel
theorem dX6_relief_100 : decode cX6_relief 100 = .ok (.ireturn, 1) := by decide +kernel
theorem dX6_laugh_0 : decode cX6_laugh 0 = .ok (.aload_n 0, 1) := by decide +kernel
theorem dX6_laugh_1 : decode cX6_laugh 1 = .ok (.iload_n 1, 1) := by decide +kernel
theorem dX6_laugh_2 : decode cX6_laugh 2 = .ok (.invokevirtual 138, 3) := by decide +kernel
theorem dX6_laugh_5 : decode cX6_laugh 5 = .ok (.ifCond .eq 13, 3) := by decide +kernel
theorem dX6_laugh_8 : decode cX6_laugh 8 = .ok (.iload_n 2, 1) := by decide +kernel
theorem dX6_laugh_9 : decode cX6_laugh 9 = .ok (.i2l, 1) := by decide +kernel
theorem dX6_laugh_10 : decode cX6_laugh 10 = .ok (.lconst 0, 1) := by decide +kernel
theorem dX6_laugh_11 : decode cX6_laugh 11 = .ok (.lconst 1, 1) := by decide +kernel
theorem dX6_laugh_12 : decode cX6_laugh 12 = .ok (.invokestatic 48, 3) := by decide +kernel
theorem dX6_laugh_15 : decode cX6_laugh 15 = .ok (.ifCond .ne 9, 3) := by decide +kernel
theorem dX6_laugh_18 : decode cX6_laugh 18 = .ok (.aload_n 0, 1) := by decide +kernel
theorem dX6_laugh_19 : decode cX6_laugh 19 = .ok (.iconst 0, 1) := by decide +kernel
theorem dX6_laugh_20 : decode cX6_laugh 20 = .ok (.invokevirtual 103, 3) := by decide +kernel
theorem dX6_laugh_23 : decode cX6_laugh 23 = .ok (.ireturn, 1) := by decide +kernel
theorem dX6_laugh_24 : decode cX6_laugh 24 = .ok (.iload_n 2, 1) := by decide +kernel
theorem dX6_laugh_25 : decode cX6_laugh 25 = .ok (.ifCond .ne 34, 3) := by decide +kernel
theorem dX6_laugh_28 : decode cX6_laugh 28 = .ok (.aload_n 0, 1) := by decide +kernel
theorem dX6_laugh_29 : decode cX6_laugh 29 = .ok (.aload_n 0, 1) := by decide +kernel
theorem dX6_laugh_30 : decode cX6_laugh 30 = .ok (.getfield 9, 3) := by decide +kernel
theorem dX6_laugh_33 : decode cX6_laugh 33 = .ok (.bipush 7, 2) := by decide +kernel
theorem dX6_laugh_35 : decode cX6_laugh 35 = .ok (.iconst 2, 1) := by decide +kernel
theorem dX6_laugh_36 : decode cX6_laugh 36 = .ok (.iload_n 1, 1) := by decide +kernel
theorem dX6_laugh_37 : decode cX6_laugh 37 = .ok (.imul, 1) := by decide +kernel
theorem dX6_laugh_38 : decode cX6_laugh 38 = .ok (.iadd, 1) := by decide +kernel
theorem dX6_laugh_39 : decode cX6_laugh 39 = .ok (.iaload, 1) := by decide +kernel
theorem dX6_laugh_40 : decode cX6_laugh 40 = .ok (.aload_n 0, 1) := by decide +kernel
theorem dX6_laugh_41 : decode cX6_laugh 41 = .ok (.getfield 9, 3) := by decide +kernel
theorem dX6_laugh_44 : decode cX6_laugh 44 = .ok (.bipush 7, 2) := by decide +kernel
theorem dX6_laugh_46 : decode cX6_laugh 46 = .ok (.iconst 2, 1) := by decide +kernel
theorem dX6_laugh_47 : decode cX6_laugh 47 = .ok (.iload_n 1, 1) := by decide +kernel
theorem dX6_laugh_48 : decode cX6_laugh 48 = .ok (.imul, 1) := by decide +kernel
theorem dX6_laugh_49 : decode cX6_laugh 49 = .ok (.iadd, 1) := by decide +kernel
theorem dX6_laugh_50 : decode cX6_laugh 50 = .ok (.iconst 1, 1) := by decide +kernel
theorem dX6_laugh_51 : decode cX6_laugh 51 = .ok (.iadd, 1) := by decide +kernel
theorem dX6_laugh_52 : decode cX6_laugh 52 = .ok (.iaload, 1) := by decide +kernel
theorem dX6_laugh_53 : decode cX6_laugh 53 = .ok (.invokevirtual 152, 3) := by decide +kernel
theorem dX6_laugh_56 : decode cX6_laugh 56 = .ok (.goto 8, 3) := by decide +kernel
theorem dX6_laugh_59 : decode cX6_laugh 59 = .ok (.aload_n 0, 1) := by decide +kernel
theorem dX6_laugh_60 : decode cX6_laugh 60 = .ok (.iload_n 1, 1) := by decide +kernel
theorem dX6_laugh_61 : decode cX6_laugh 61 = .ok (.invokevirtual 178, 3) := by decide +kernel
theorem dX6_laugh_64 : decode cX6_laugh 64 = .ok (.ireturn, 1) := by decide +kernel
theorem dX6_rounds_0 : decode cX6_rounds 0 = .ok (.aload_n 0, 1) := by decide +kernel
theorem dX6_rounds_1 : decode cX6_rounds 1 = .ok (.iload_n 1, 1) := by decide +kernel
theorem dX6_rounds_2 : decode cX6_rounds 2 = .ok (.invokevirtual 138, 3) := by decide +kernel
theorem dX6_rounds_5 : decode cX6_rounds 5 = .ok (.ifCond .ne 9, 3) := by decide +kernel
theorem dX6_rounds_8 : decode cX6_rounds 8 = .ok (.aload_n 0, 1) := by decide +kernel
theorem dX6_rounds_9 : decode cX6_rounds 9 = .ok (.iconst 0, 1) := by decide +kernel
theorem dX6_rounds_10 : decode cX6_rounds 10 = .ok (.invokevirtual 103, 3) := by decide +kernel
theorem dX6_rounds_13 : decode cX6_rounds 13 = .ok (.ireturn, 1) := by decide +kernel
theorem dX6_rounds_14 : decode cX6_rounds 14 = .ok (.aload_n 0, 1) := by decide +kernel
theorem dX6_rounds_15 : decode cX6_rounds 15 = .ok (.iload_n 1, 1) := by decide +kernel
theorem dX6_rounds_16 : decode cX6_rounds 16 = .ok (.invokevirtual 178, 3) := by decide +kernel
theorem dX6_rounds_19 : decode cX6_rounds 19 = .ok (.istore_n 2, 1) := by decide +kernel
theorem dX6_rounds_20 : decode cX6_rounds 20 = .ok (.aload_n 0, 1) := by decide +kernel
theorem dX6_rounds_21 : decode cX6_rounds 21 = .ok (.getfield 148, 3) := by decide +kernel
theorem dX6_rounds_24 : decode cX6_rounds 24 = .ok (.ireturn, 1) := by decide +kernel
theorem dX6_raised_0 : decode cX6_raised 0 = .ok (.aload_n 0, 1) := by decide +kernel
theorem dX6_raised_1 : decode cX6_raised 1 = .ok (.iload_n 1, 1) := by decide +kernel
theorem dX6_raised_2 : decode cX6_raised 2 = .ok (.invokevirtual 138, 3) := by decide +kernel
theorem dX6_raised_5 : decode cX6_raised 5 = .ok (.ifCond .ne 9, 3) := by decide +kernel
theorem dX6_raised_8 : decode cX6_raised 8 = .ok (.aload_n 0, 1) := by decide +kernel
theorem dX6_raised_9 : decode cX6_raised 9 = .ok (.iconst 0, 1) := by decide +kernel
theorem dX6_raised_10 : decode cX6_raised 10 = .ok (.invokevirtual 103, 3) := by decide +kernel
theorem dX6_raised_13 : decode cX6_raised 13 = .ok (.ireturn, 1) := by decide +kernel
theorem dX6_raised_14 : decode cX6_raised 14 = .ok (.aload_n 0, 1) := by decide +kernel
theorem dX6_raised_15 : decode cX6_raised 15 = .ok (.invokevirtual 180, 3) := by decide +kernel
theorem dX6_raised_18 : decode cX6_raised 18 = .ok (.aload_n 0, 1) := by decide +kernel
theorem dX6_raised_19 : decode cX6_raised 19 = .ok (.iload_n 1, 1) := by decide +kernel
theorem dX6_raised_20 : decode cX6_raised 20 = .ok (.invokevirtual 167, 3) := by decide +kernel
theorem dX6_raised_23 : decode cX6_raised 23 = .ok (.istore_n 2, 1) := by decide +kernel
theorem dX6_raised_24 : decode cX6_raised 24 = .ok (.aload_n 0, 1) := by decide +kernel
theorem dX6_raised_25 : decode cX6_raised 25 = .ok (.invokevirtual 183, 3) := by decide +kernel
theorem dX6_raised_28 : decode cX6_raised 28 = .ok (.aload_n 0, 1) := by decide +kernel
theorem dX6_raised_29 : decode cX6_raised 29 = .ok (.invokevirtual 186, 3) := by decide +kernel
theorem dX6_raised_32 : decode cX6_raised 32 = .ok (.ireturn, 1) := by decide +kernel
theorem dX6_ahead_0 : decode cX6_ahead 0 = .ok (.aload_n 0, 1) := by decide +kernel
theorem dX6_ahead_1 : decode cX6_ahead 1 = .ok (.iload_n 1, 1) := by decide +kernel
theorem dX6_ahead_2 : decode cX6_ahead 2 = .ok (.invokevirtual 138, 3) := by decide +kernel
theorem dX6_ahead_5 : decode cX6_ahead 5 = .ok (.ifCond .eq 15, 3) := by decide +kernel
theorem dX6_ahead_8 : decode cX6_ahead 8 = .ok (.iload_n 2, 1) := by decide +kernel
theorem dX6_ahead_9 : decode cX6_ahead 9 = .ok (.i2l, 1) := by decide +kernel
theorem dX6_ahead_10 : decode cX6_ahead 10 = .ok (.lconst 0, 1) := by decide +kernel
theorem dX6_ahead_11 : decode cX6_ahead 11 = .ok (.ldc2_w 170, 3) := by decide +kernel
theorem dX6_ahead_14 : decode cX6_ahead 14 = .ok (.invokestatic 48, 3) := by decide +kernel
theorem dX6_ahead_17 : decode cX6_ahead 17 = .ok (.ifCond .ne 9, 3) := by decide +kernel
theorem dX6_ahead_20 : decode cX6_ahead 20 = .ok (.aload_n 0, 1) := by decide +kernel
theorem dX6_ahead_21 : decode cX6_ahead 21 = .ok (.iconst 0, 1) := by decide +kernel
theorem dX6_ahead_22 : decode cX6_ahead 22 = .ok (.invokevirtual 103, 3) := by decide +kernel
theorem dX6_ahead_25 : decode cX6_ahead 25 = .ok (.ireturn, 1) := by decide +kernel
theorem dX6_ahead_26 : decode cX6_ahead 26 = .ok (.aload_n 0, 1) := by decide +kernel
theorem dX6_ahead_27 : decode cX6_ahead 27 = .ok (.invokevirtual 180, 3) := by decide +kernel
theorem dX6_ahead_30 : decode cX6_ahead 30 = .ok (.iconst 0, 1) := by decide +kernel
theorem dX6_ahead_31 : decode cX6_ahead 31 = .ok (.istore_n 3, 1) := by decide +kernel
theorem dX6_ahead_32 : decode cX6_ahead 32 = .ok (.iload_n 3, 1) := by decide +kernel
theorem dX6_ahead_33 : decode cX6_ahead 33 = .ok (.iload_n 2, 1) := by decide +kernel
theorem dX6_ahead_34 : decode cX6_ahead 34 = .ok (.if_icmp .ge 16, 3) := by decide +kernel
theorem dX6_ahead_37 : decode cX6_ahead 37 = .ok (.aload_n 0, 1) := by decide +kernel
theorem dX6_ahead_38 : decode cX6_ahead 38 = .ok (.iload_n 1, 1) := by decide +kernel
theorem dX6_ahead_39 : decode cX6_ahead 39 = .ok (.invokevirtual 167, 3) := by decide +kernel
theorem dX6_ahead_42 : decode cX6_ahead 42 = .ok (.istore 4, 2) := by decide +kernel
theorem dX6_ahead_44 : decode cX6_ahead 44 = .ok (.iinc 3 1, 3) := by decide +kernel
theorem dX6_ahead_47 : decode cX6_ahead 47 = .ok (.goto (-15), 3) := by decide +kernel
theorem dX6_ahead_50 : decode cX6_ahead 50 = .ok (.aload_n 0, 1) := by decide +kernel
theorem dX6_ahead_51 : decode cX6_ahead 51 = .ok (.getfield 9, 3) := by decide +kernel
theorem dX6_ahead_54 : decode cX6_ahead 54 = .ok (.iconst 2, 1) := by decide +kernel
theorem dX6_ahead_55 : decode cX6_ahead 55 = .ok (.iaload, 1) := by decide +kernel
theorem dX6_ahead_56 : decode cX6_ahead 56 = .ok (.istore_n 3, 1) := by decide +kernel
theorem dX6_ahead_57 : decode cX6_ahead 57 = .ok (.aload_n 0, 1) := by decide +kernel
theorem dX6_ahead_58 : decode cX6_ahead 58 = .ok (.invokevirtual 183, 3) := by decide +kernel
theorem dX6_ahead_61 : decode cX6_ahead 61 = .ok (.iload_n 3, 1) := by decide +kernel
theorem dX6_ahead_62 : decode cX6_ahead 62 = .ok (.ireturn, 1) := by decide +kernel
theorem dX6_orNone_0 : decode cX6_orNone 0 = .ok (.iload_n 1, 1) := by decide +kernel
theorem dX6_orNone_1 : decode cX6_orNone 1 = .ok (.bipush 60, 2) := by decide +kernel
theorem dX6_orNone_3 : decode cX6_orNone 3 = .ok (.if_icmp .gt 7, 3) := by decide +kernel
theorem dX6_orNone_6 : decode cX6_orNone 6 = .ok (.iload_n 1, 1) := by decide +kernel
theorem dX6_orNone_7 : decode cX6_orNone 7 = .ok (.goto 8, 3) := by decide +kernel
theorem dX6_orNone_10 : decode cX6_orNone 10 = .ok (.aload_n 0, 1) := by decide +kernel
theorem dX6_orNone_11 : decode cX6_orNone 11 = .ok (.iconst 3, 1) := by decide +kernel
theorem dX6_orNone_12 : decode cX6_orNone 12 = .ok (.invokevirtual 103, 3) := by decide +kernel
theorem dX6_orNone_15 : decode cX6_orNone 15 = .ok (.ireturn, 1) := by decide +kernel
theorem dX6_stale_0 : decode cX6_stale 0 = .ok (.aload_n 0, 1) := by decide +kernel
theorem dX6_stale_1 : decode cX6_stale 1 = .ok (.iload_n 1, 1) := by decide +kernel
theorem dX6_stale_2 : decode cX6_stale 2 = .ok (.invokevirtual 138, 3) := by decide +kernel
theorem dX6_stale_5 : decode cX6_stale 5 = .ok (.ifCond .ne 9, 3) := by decide +kernel
theorem dX6_stale_8 : decode cX6_stale 8 = .ok (.aload_n 0, 1) := by decide +kernel
theorem dX6_stale_9 : decode cX6_stale 9 = .ok (.iconst 0, 1) := by decide +kernel
theorem dX6_stale_10 : decode cX6_stale 10 = .ok (.invokevirtual 103, 3) := by decide +kernel
theorem dX6_stale_13 : decode cX6_stale 13 = .ok (.ireturn, 1) := by decide +kernel
theorem dX6_stale_14 : decode cX6_stale 14 = .ok (.aload_n 0, 1) := by decide +kernel
theorem dX6_stale_15 : decode cX6_stale 15 = .ok (.invokevirtual 180, 3) := by decide +kernel
theorem dX6_stale_18 : decode cX6_stale 18 = .ok (.iconst 0, 1) := by decide +kernel
theorem dX6_stale_19 : decode cX6_stale 19 = .ok (.istore_n 2, 1) := by decide +kernel
theorem dX6_stale_20 : decode cX6_stale 20 = .ok (.iload_n 2, 1) := by decide +kernel
theorem dX6_stale_21 : decode cX6_stale 21 = .ok (.bipush 60, 2) := by decide +kernel
theorem dX6_stale_23 : decode cX6_stale 23 = .ok (.if_icmp .gt 23, 3) := by decide +kernel
theorem dX6_stale_26 : decode cX6_stale 26 = .ok (.aload_n 0, 1) := by decide +kernel
theorem dX6_stale_27 : decode cX6_stale 27 = .ok (.iload_n 1, 1) := by decide +kernel
theorem dX6_stale_28 : decode cX6_stale 28 = .ok (.invokevirtual 178, 3) := by decide +kernel
theorem dX6_stale_31 : decode cX6_stale 31 = .ok (.ifCond .eq 15, 3) := by decide +kernel
theorem dX6_stale_34 : decode cX6_stale 34 = .ok (.aload_n 0, 1) := by decide +kernel
theorem dX6_stale_35 : decode cX6_stale 35 = .ok (.iload_n 1, 1) := by decide +kernel
theorem dX6_stale_36 : decode cX6_stale 36 = .ok (.invokevirtual 167, 3) := by decide +kernel
theorem dX6_stale_39 : decode cX6_stale 39 = .ok (.istore_n 3, 1) := by decide +kernel
theorem dX6_stale_40 : decode cX6_stale 40 = .ok (.iinc 2 1, 3) := by decide +kernel
theorem dX6_stale_43 : decode cX6_stale 43 = .ok (.goto (-23), 3) := by decide +kernel
theorem dX6_stale_46 : decode cX6_stale 46 = .ok (.aload_n 0, 1) := by decide +kernel
theorem dX6_stale_47 : decode cX6_stale 47 = .ok (.invokevirtual 183, 3) := by decide +kernel
theorem dX6_stale_50 : decode cX6_stale 50 = .ok (.aload_n 0, 1) := by decide +kernel
theorem dX6_stale_51 : decode cX6_stale 51 = .ok (.iload_n 2, 1) := by decide +kernel
theorem dX6_stale_52 : decode cX6_stale 52 = .ok (.invokevirtual 189, 3) := by decide +kernel
theorem dX6_stale_55 : decode cX6_stale 55 = .ok (.ireturn, 1) := by decide +kernel
theorem dX6_broke_0 : decode cX6_broke 0 = .ok (.aload_n 0, 1) := by decide +kernel
theorem dX6_broke_1 : decode cX6_broke 1 = .ok (.iload_n 1, 1) := by decide +kernel
theorem dX6_broke_2 : decode cX6_broke 2 = .ok (.invokevirtual 138, 3) := by decide +kernel
theorem dX6_broke_5 : decode cX6_broke 5 = .ok (.ifCond .eq 11, 3) := by decide +kernel
theorem dX6_broke_8 : decode cX6_broke 8 = .ok (.aload_n 0, 1) := by decide +kernel
theorem dX6_broke_9 : decode cX6_broke 9 = .ok (.iload_n 2, 1) := by decide +kernel
theorem dX6_broke_10 : decode cX6_broke 10 = .ok (.invokevirtual 109, 3) := by decide +kernel
theorem dX6_broke_13 : decode cX6_broke 13 = .ok (.ifCond .ne 9, 3) := by decide +kernel
theorem dX6_broke_16 : decode cX6_broke 16 = .ok (.aload_n 0, 1) := by decide +kernel
theorem dX6_broke_17 : decode cX6_broke 17 = .ok (.iconst 0, 1) := by decide +kernel
theorem dX6_broke_18 : decode cX6_broke 18 = .ok (.invokevirtual 103, 3) := by decide +kernel
theorem dX6_broke_21 : decode cX6_broke 21 = .ok (.ireturn, 1) := by decide +kernel
theorem dX6_broke_22 : decode cX6_broke 22 = .ok (.aload_n 0, 1) := by decide +kernel
theorem dX6_broke_23 : decode cX6_broke 23 = .ok (.invokevirtual 180, 3) := by decide +kernel
theorem dX6_broke_26 : decode cX6_broke 26 = .ok (.iconst 0, 1) := by decide +kernel
theorem dX6_broke_27 : decode cX6_broke 27 = .ok (.istore_n 3, 1) := by decide +kernel
theorem dX6_broke_28 : decode cX6_broke 28 = .ok (.iload_n 3, 1) := by decide +kernel
theorem dX6_broke_29 : decode cX6_broke 29 = .ok (.bipush 60, 2) := by decide +kernel
theorem dX6_broke_31 : decode cX6_broke 31 = .ok (.if_icmp .gt 25, 3) := by decide +kernel
theorem dX6_broke_34 : decode cX6_broke 34 = .ok (.aload_n 0, 1) := by decide +kernel
theorem dX6_broke_35 : decode cX6_broke 35 = .ok (.iload_n 2, 1) := by decide +kernel
theorem dX6_broke_36 : decode cX6_broke 36 = .ok (.iconst 4, 1) := by decide +kernel
theorem dX6_broke_37 : decode cX6_broke 37 = .ok (.invokevirtual 64, 3) := by decide +kernel
theorem dX6_broke_40 : decode cX6_broke 40 = .ok (.ifCond .le 16, 3) := by decide +kernel
theorem dX6_broke_43 : decode cX6_broke 43 = .ok (.aload_n 0, 1) := by decide +kernel
theorem dX6_broke_44 : decode cX6_broke 44 = .ok (.iload_n 1, 1) := by decide +kernel
theorem dX6_broke_45 : decode cX6_broke 45 = .ok (.invokevirtual 167, 3) := by decide +kernel
theorem dX6_broke_48 : decode cX6_broke 48 = .ok (.istore 4, 2) := by decide +kernel
theorem dX6_broke_50 : decode cX6_broke 50 = .ok (.iinc 3 1, 3) := by decide +kernel
theorem dX6_broke_53 : decode cX6_broke 53 = .ok (.goto (-25), 3) := by decide +kernel
theorem dX6_broke_56 : decode cX6_broke 56 = .ok (.aload_n 0, 1) := by decide +kernel
theorem dX6_broke_57 : decode cX6_broke 57 = .ok (.invokevirtual 183, 3) := by decide +kernel
theorem dX6_broke_60 : decode cX6_broke 60 = .ok (.aload_n 0, 1) := by decide +kernel
theorem dX6_broke_61 : decode cX6_broke 61 = .ok (.iload_n 3, 1) := by decide +kernel
theorem dX6_broke_62 : decode cX6_broke 62 = .ok (.invokevirtual 189, 3) := by decide +kernel
theorem dX6_broke_65 : decode cX6_broke 65 = .ok (.ireturn, 1) := by decide +kernel
theorem dX6_caught_0 : decode cX6_caught 0 = .ok (.iload_n 1, 1) := by decide +kernel
theorem dX6_caught_1 : decode cX6_caught 1 = .ok (.i2l, 1) := by decide +kernel
theorem dX6_caught_2 : decode cX6_caught 2 = .ok (.lconst 0, 1) := by decide +kernel
theorem dX6_caught_3 : decode cX6_caught 3 = .ok (.aload_n 0, 1) := by decide +kernel
theorem dX6_caught_4 : decode cX6_caught 4 = .ok (.invokevirtual 155, 3) := by decide +kernel
theorem dX6_caught_7 : decode cX6_caught 7 = .ok (.i2l, 1) := by decide +kernel
theorem dX6_caught_8 : decode cX6_caught 8 = .ok (.invokestatic 48, 3) := by decide +kernel
theorem dX6_caught_11 : decode cX6_caught 11 = .ok (.ifCond .eq 15, 3) := by decide +kernel
theorem dX6_caught_14 : decode cX6_caught 14 = .ok (.aload_n 0, 1) := by decide +kernel
theorem dX6_caught_15 : decode cX6_caught 15 = .ok (.iload_n 1, 1) := by decide +kernel
theorem dX6_caught_16 : decode cX6_caught 16 = .ok (.aload_n 0, 1) := by decide +kernel
theorem dX6_caught_17 : decode cX6_caught 17 = .ok (.invokevirtual 155, 3) := by decide +kernel
theorem dX6_caught_20 : decode cX6_caught 20 = .ok (.invokevirtual 159, 3) := by decide +kernel
theorem dX6_caught_23 : decode cX6_caught 23 = .ok (.goto 8, 3) := by decide +kernel
theorem dX6_caught_26 : decode cX6_caught 26 = .ok (.aload_n 0, 1) := by decide +kernel
theorem dX6_caught_27 : decode cX6_caught 27 = .ok (.iconst 0, 1) := by decide +kernel
theorem dX6_caught_28 : decode cX6_caught 28 = .ok (.invokevirtual 103, 3) := by decide +kernel
theorem dX6_caught_31 : decode cX6_caught 31 = .ok (.ireturn, 1) := by decide +kernel
theorem dX6_starter_0 : decode cX6_starter 0 = .ok (.iconst (-1), 1) := by decide +kernel
theorem dX6_starter_1 : decode cX6_starter 1 = .ok (.istore_n 1, 1) := by decide +kernel
theorem dX6_starter_2 : decode cX6_starter 2 = .ok (.iconst 0, 1) := by decide +kernel
theorem dX6_starter_3 : decode cX6_starter 3 = .ok (.istore_n 2, 1) := by decide +kernel
theorem dX6_starter_4 : decode cX6_starter 4 = .ok (.iconst 0, 1) := by decide +kernel
theorem dX6_starter_5 : decode cX6_starter 5 = .ok (.istore_n 3, 1) := by decide +kernel
theorem dX6_starter_6 : decode cX6_starter 6 = .ok (.iload_n 3, 1) := by decide +kernel
theorem dX6_starter_7 : decode cX6_starter 7 = .ok (.aload_n 0, 1) := by decide +kernel
theorem dX6_starter_8 : decode cX6_starter 8 = .ok (.getfield 9, 3) := by decide +kernel
theorem dX6_starter_11 : decode cX6_starter 11 = .ok (.iconst 5, 1) := by decide +kernel
theorem dX6_starter_12 : decode cX6_starter 12 = .ok (.iaload, 1) := by decide +kernel
theorem dX6_starter_13 : decode cX6_starter 13 = .ok (.if_icmp .ge 44, 3) := by decide +kernel
theorem dX6_starter_16 : decode cX6_starter 16 = .ok (.aload_n 0, 1) := by decide +kernel
theorem dX6_starter_17 : decode cX6_starter 17 = .ok (.iconst 1, 1) := by decide +kernel
theorem dX6_starter_18 : decode cX6_starter 18 = .ok (.iload_n 3, 1) := by decide +kernel
theorem dX6_starter_19 : decode cX6_starter 19 = .ok (.ishl, 1) := by decide +kernel
theorem dX6_starter_20 : decode cX6_starter 20 = .ok (.aload_n 0, 1) := by decide +kernel
theorem dX6_starter_21 : decode cX6_starter 21 = .ok (.invokevirtual 155, 3) := by decide +kernel
theorem dX6_starter_24 : decode cX6_starter 24 = .ok (.invokevirtual 159, 3) := by decide +kernel
theorem dX6_starter_27 : decode cX6_starter 27 = .ok (.invokestatic 76, 3) := by decide +kernel
theorem dX6_starter_30 : decode cX6_starter 30 = .ok (.istore 4, 2) := by decide +kernel
theorem dX6_starter_32 : decode cX6_starter 32 = .ok (.iload 4, 2) := by decide +kernel
theorem dX6_starter_34 : decode cX6_starter 34 = .ok (.iload_n 2, 1) := by decide +kernel
theorem dX6_starter_35 : decode cX6_starter 35 = .ok (.if_icmp .le 7, 3) := by decide +kernel
theorem dX6_starter_38 : decode cX6_starter 38 = .ok (.iload_n 3, 1) := by decide +kernel
theorem dX6_starter_39 : decode cX6_starter 39 = .ok (.goto 4, 3) := by decide +kernel
theorem dX6_starter_42 : decode cX6_starter 42 = .ok (.iload_n 1, 1) := by decide +kernel
theorem dX6_starter_43 : decode cX6_starter 43 = .ok (.istore_n 1, 1) := by decide +kernel
theorem dX6_starter_44 : decode cX6_starter 44 = .ok (.iload_n 2, 1) := by decide +kernel
theorem dX6_starter_45 : decode cX6_starter 45 = .ok (.iload 4, 2) := by decide +kernel
theorem dX6_starter_47 : decode cX6_starter 47 = .ok (.invokestatic 83, 3) := by decide +kernel
theorem dX6_starter_50 : decode cX6_starter 50 = .ok (.istore_n 2, 1) := by decide +kernel
theorem dX6_starter_51 : decode cX6_starter 51 = .ok (.iinc 3 1, 3) := by decide +kernel
theorem dX6_starter_54 : decode cX6_starter 54 = .ok (.goto (-48), 3) := by decide +kernel
theorem dX6_starter_57 : decode cX6_starter 57 = .ok (.iload_n 1, 1) := by decide +kernel
theorem dX6_starter_58 : decode cX6_starter 58 = .ok (.ifCond .ge 11, 3) := by decide +kernel
theorem dX6_starter_61 : decode cX6_starter 61 = .ok (.aload_n 0, 1) := by decide +kernel
theorem dX6_starter_62 : decode cX6_starter 62 = .ok (.iconst 3, 1) := by decide +kernel
theorem dX6_starter_63 : decode cX6_starter 63 = .ok (.invokevirtual 103, 3) := by decide +kernel
theorem dX6_starter_66 : decode cX6_starter 66 = .ok (.goto 4, 3) := by decide +kernel
theorem dX6_starter_69 : decode cX6_starter 69 = .ok (.iload_n 1, 1) := by decide +kernel
theorem dX6_starter_70 : decode cX6_starter 70 = .ok (.ireturn, 1) := by decide +kernel
theorem dX6_fewest_0 : decode cX6_fewest 0 = .ok (.aload_n 0, 1) := by decide +kernel
theorem dX6_fewest_1 : decode cX6_fewest 1 = .ok (.invokevirtual 155, 3) := by decide +kernel
theorem dX6_fewest_4 : decode cX6_fewest 4 = .ok (.istore_n 1, 1) := by decide +kernel
theorem dX6_fewest_5 : decode cX6_fewest 5 = .ok (.aload_n 0, 1) := by decide +kernel
theorem dX6_fewest_6 : decode cX6_fewest 6 = .ok (.invokevirtual 155, 3) := by decide +kernel
theorem dX6_fewest_9 : decode cX6_fewest 9 = .ok (.istore_n 2, 1) := by decide +kernel
theorem dX6_fewest_10 : decode cX6_fewest 10 = .ok (.iload_n 2, 1) := by decide +kernel
theorem dX6_fewest_11 : decode cX6_fewest 11 = .ok (.ifCond .lt 52, 3) := by decide +kernel
theorem dX6_fewest_14 : decode cX6_fewest 14 = .ok (.aload_n 0, 1) := by decide +kernel
theorem dX6_fewest_15 : decode cX6_fewest 15 = .ok (.iload_n 2, 1) := by decide +kernel
theorem dX6_fewest_16 : decode cX6_fewest 16 = .ok (.aload_n 0, 1) := by decide +kernel
theorem dX6_fewest_17 : decode cX6_fewest 17 = .ok (.invokevirtual 155, 3) := by decide +kernel
theorem dX6_fewest_20 : decode cX6_fewest 20 = .ok (.invokevirtual 159, 3) := by decide +kernel
theorem dX6_fewest_23 : decode cX6_fewest 23 = .ok (.aload_n 0, 1) := by decide +kernel
theorem dX6_fewest_24 : decode cX6_fewest 24 = .ok (.invokevirtual 155, 3) := by decide +kernel
theorem dX6_fewest_27 : decode cX6_fewest 27 = .ok (.if_icmp .ne 7, 3) := by decide +kernel
theorem dX6_fewest_30 : decode cX6_fewest 30 = .ok (.iconst 1, 1) := by decide +kernel
theorem dX6_fewest_31 : decode cX6_fewest 31 = .ok (.goto 4, 3) := by decide +kernel
theorem dX6_fewest_34 : decode cX6_fewest 34 = .ok (.iconst 0, 1) := by decide +kernel
theorem dX6_fewest_35 : decode cX6_fewest 35 = .ok (.istore_n 3, 1) := by decide +kernel
theorem dX6_fewest_36 : decode cX6_fewest 36 = .ok (.iload_n 3, 1) := by decide +kernel
theorem dX6_fewest_37 : decode cX6_fewest 37 = .ok (.ifCond .eq 18, 3) := by decide +kernel
theorem dX6_fewest_40 : decode cX6_fewest 40 = .ok (.iload_n 2, 1) := by decide +kernel
theorem dX6_fewest_41 : decode cX6_fewest 41 = .ok (.invokestatic 76, 3) := by decide +kernel
theorem dX6_fewest_44 : decode cX6_fewest 44 = .ok (.iload_n 1, 1) := by decide +kernel
theorem dX6_fewest_45 : decode cX6_fewest 45 = .ok (.invokestatic 76, 3) := by decide +kernel
theorem dX6_fewest_48 : decode cX6_fewest 48 = .ok (.if_icmp .gt 7, 3) := by decide +kernel
theorem dX6_fewest_51 : decode cX6_fewest 51 = .ok (.iload_n 2, 1) := by decide +kernel
theorem dX6_fewest_52 : decode cX6_fewest 52 = .ok (.goto 4, 3) := by decide +kernel
theorem dX6_fewest_55 : decode cX6_fewest 55 = .ok (.iload_n 1, 1) := by decide +kernel
theorem dX6_fewest_56 : decode cX6_fewest 56 = .ok (.istore_n 1, 1) := by decide +kernel
theorem dX6_fewest_57 : decode cX6_fewest 57 = .ok (.iinc 2 (-1), 3) := by decide +kernel
theorem dX6_fewest_60 : decode cX6_fewest 60 = .ok (.goto (-50), 3) := by decide +kernel
theorem dX6_fewest_63 : decode cX6_fewest 63 = .ok (.iload_n 1, 1) := by decide +kernel
theorem dX6_fewest_64 : decode cX6_fewest 64 = .ok (.ireturn, 1) := by decide +kernel
theorem dX6_leftWithout_0 : decode cX6_leftWithout 0 = .ok (.aload_n 0, 1) := by decide +kernel
theorem dX6_leftWithout_1 : decode cX6_leftWithout 1 = .ok (.iload_n 2, 1) := by decide +kernel
theorem dX6_leftWithout_2 : decode cX6_leftWithout 2 = .ok (.aload_n 0, 1) := by decide +kernel
theorem dX6_leftWithout_3 : decode cX6_leftWithout 3 = .ok (.invokevirtual 155, 3) := by decide +kernel
theorem dX6_leftWithout_6 : decode cX6_leftWithout 6 = .ok (.iload_n 1, 1) := by decide +kernel
theorem dX6_leftWithout_7 : decode cX6_leftWithout 7 = .ok (.iconst (-1), 1) := by decide +kernel
theorem dX6_leftWithout_8 : decode cX6_leftWithout 8 = .ok (.ixor, 1) := by decide +kernel
theorem dX6_leftWithout_9 : decode cX6_leftWithout 9 = .ok (.iand, 1) := by decide +kernel
theorem dX6_leftWithout_10 : decode cX6_leftWithout 10 = .ok (.invokevirtual 159, 3) := by decide +kernel
theorem dX6_leftWithout_13 : decode cX6_leftWithout 13 = .ok (.ireturn, 1) := by decide +kernel
theorem dX6_away_0 : decode cX6_away 0 = .ok (.aload_n 0, 1) := by decide +kernel
theorem dX6_away_1 : decode cX6_away 1 = .ok (.iload_n 1, 1) := by decide +kernel
theorem dX6_away_2 : decode cX6_away 2 = .ok (.invokevirtual 138, 3) := by decide +kernel
theorem dX6_away_5 : decode cX6_away 5 = .ok (.ifCond .eq 15, 3) := by decide +kernel
theorem dX6_away_8 : decode cX6_away 8 = .ok (.iload_n 2, 1) := by decide +kernel
theorem dX6_away_9 : decode cX6_away 9 = .ok (.i2l, 1) := by decide +kernel
theorem dX6_away_10 : decode cX6_away 10 = .ok (.lconst 0, 1) := by decide +kernel
theorem dX6_away_11 : decode cX6_away 11 = .ok (.ldc2_w 192, 3) := by decide +kernel
theorem dX6_away_14 : decode cX6_away 14 = .ok (.invokestatic 48, 3) := by decide +kernel
theorem dX6_away_17 : decode cX6_away 17 = .ok (.ifCond .ne 9, 3) := by decide +kernel
theorem dX6_away_20 : decode cX6_away 20 = .ok (.aload_n 0, 1) := by decide +kernel
theorem dX6_away_21 : decode cX6_away 21 = .ok (.iconst 0, 1) := by decide +kernel
theorem dX6_away_22 : decode cX6_away 22 = .ok (.invokevirtual 103, 3) := by decide +kernel
theorem dX6_away_25 : decode cX6_away 25 = .ok (.ireturn, 1) := by decide +kernel
theorem dX6_away_26 : decode cX6_away 26 = .ok (.aload_n 0, 1) := by decide +kernel
theorem dX6_away_27 : decode cX6_away 27 = .ok (.aload_n 0, 1) := by decide +kernel
theorem dX6_away_28 : decode cX6_away 28 = .ok (.getfield 9, 3) := by decide +kernel
theorem dX6_away_31 : decode cX6_away 31 = .ok (.bipush 7, 2) := by decide +kernel
theorem dX6_away_33 : decode cX6_away 33 = .ok (.iconst 2, 1) := by decide +kernel
theorem dX6_away_34 : decode cX6_away 34 = .ok (.iload_n 1, 1) := by decide +kernel
theorem dX6_away_35 : decode cX6_away 35 = .ok (.imul, 1) := by decide +kernel
theorem dX6_away_36 : decode cX6_away 36 = .ok (.iadd, 1) := by decide +kernel
theorem dX6_away_37 : decode cX6_away 37 = .ok (.iaload, 1) := by decide +kernel
theorem dX6_away_38 : decode cX6_away 38 = .ok (.aload_n 0, 1) := by decide +kernel
theorem dX6_away_39 : decode cX6_away 39 = .ok (.getfield 9, 3) := by decide +kernel
theorem dX6_away_42 : decode cX6_away 42 = .ok (.bipush 7, 2) := by decide +kernel
theorem dX6_away_44 : decode cX6_away 44 = .ok (.iconst 2, 1) := by decide +kernel
theorem dX6_away_45 : decode cX6_away 45 = .ok (.iload_n 1, 1) := by decide +kernel
theorem dX6_away_46 : decode cX6_away 46 = .ok (.imul, 1) := by decide +kernel
theorem dX6_away_47 : decode cX6_away 47 = .ok (.iadd, 1) := by decide +kernel
theorem dX6_away_48 : decode cX6_away 48 = .ok (.iconst 1, 1) := by decide +kernel
theorem dX6_away_49 : decode cX6_away 49 = .ok (.iadd, 1) := by decide +kernel
theorem dX6_away_50 : decode cX6_away 50 = .ok (.iaload, 1) := by decide +kernel
theorem dX6_away_51 : decode cX6_away 51 = .ok (.invokevirtual 152, 3) := by decide +kernel
theorem dX6_away_54 : decode cX6_away 54 = .ok (.istore_n 3, 1) := by decide +kernel
theorem dX6_away_55 : decode cX6_away 55 = .ok (.aload_n 0, 1) := by decide +kernel
theorem dX6_away_56 : decode cX6_away 56 = .ok (.invokevirtual 155, 3) := by decide +kernel
theorem dX6_away_59 : decode cX6_away 59 = .ok (.istore 4, 2) := by decide +kernel
theorem dX6_away_61 : decode cX6_away 61 = .ok (.aload_n 0, 1) := by decide +kernel
theorem dX6_away_62 : decode cX6_away 62 = .ok (.invokevirtual 155, 3) := by decide +kernel
theorem dX6_away_65 : decode cX6_away 65 = .ok (.istore 5, 2) := by decide +kernel
theorem dX6_away_67 : decode cX6_away 67 = .ok (.iload 5, 2) := by decide +kernel
theorem dX6_away_69 : decode cX6_away 69 = .ok (.ifCond .lt 45, 3) := by decide +kernel
theorem dX6_away_72 : decode cX6_away 72 = .ok (.aload_n 0, 1) := by decide +kernel
theorem dX6_away_73 : decode cX6_away 73 = .ok (.iload 5, 2) := by decide +kernel
theorem dX6_away_75 : decode cX6_away 75 = .ok (.iload_n 3, 1) := by decide +kernel
theorem dX6_away_76 : decode cX6_away 76 = .ok (.invokevirtual 194, 3) := by decide +kernel
theorem dX6_away_79 : decode cX6_away 79 = .ok (.invokestatic 76, 3) := by decide +kernel
theorem dX6_away_82 : decode cX6_away 82 = .ok (.iload_n 2, 1) := by decide +kernel
theorem dX6_away_83 : decode cX6_away 83 = .ok (.if_icmp .gt 21, 3) := by decide +kernel
theorem dX6_away_86 : decode cX6_away 86 = .ok (.iload 5, 2) := by decide +kernel
theorem dX6_away_88 : decode cX6_away 88 = .ok (.invokestatic 76, 3) := by decide +kernel
theorem dX6_away_91 : decode cX6_away 91 = .ok (.iload 4, 2) := by decide +kernel
theorem dX6_away_93 : decode cX6_away 93 = .ok (.invokestatic 76, 3) := by decide +kernel
theorem dX6_away_96 : decode cX6_away 96 = .ok (.if_icmp .gt 8, 3) := by decide +kernel
theorem dX6_away_99 : decode cX6_away 99 = .ok (.iload 5, 2) := by decide +kernel
theorem dX6_away_101 : decode cX6_away 101 = .ok (.goto 5, 3) := by decide +kernel
theorem dX6_away_104 : decode cX6_away 104 = .ok (.iload 4, 2) := by decide +kernel
theorem dX6_away_106 : decode cX6_away 106 = .ok (.istore 4, 2) := by decide +kernel
theorem dX6_away_108 : decode cX6_away 108 = .ok (.iinc 5 (-1), 3) := by decide +kernel
theorem dX6_away_111 : decode cX6_away 111 = .ok (.goto (-44), 3) := by decide +kernel
theorem dX6_away_114 : decode cX6_away 114 = .ok (.iload 4, 2) := by decide +kernel
theorem dX6_away_116 : decode cX6_away 116 = .ok (.ireturn, 1) := by decide +kernel
theorem dX6_seatFor_0 : decode cX6_seatFor 0 = .ok (.aload_n 0, 1) := by decide +kernel
theorem dX6_seatFor_1 : decode cX6_seatFor 1 = .ok (.iload_n 1, 1) := by decide +kernel
theorem dX6_seatFor_2 : decode cX6_seatFor 2 = .ok (.invokevirtual 109, 3) := by decide +kernel
theorem dX6_seatFor_5 : decode cX6_seatFor 5 = .ok (.ifCond .eq 11, 3) := by decide +kernel
theorem dX6_seatFor_8 : decode cX6_seatFor 8 = .ok (.aload_n 0, 1) := by decide +kernel
theorem dX6_seatFor_9 : decode cX6_seatFor 9 = .ok (.iload_n 2, 1) := by decide +kernel
theorem dX6_seatFor_10 : decode cX6_seatFor 10 = .ok (.invokevirtual 138, 3) := by decide +kernel
theorem dX6_seatFor_13 : decode cX6_seatFor 13 = .ok (.ifCond .ne 9, 3) := by decide +kernel
theorem dX6_seatFor_16 : decode cX6_seatFor 16 = .ok (.aload_n 0, 1) := by decide +kernel
theorem dX6_seatFor_17 : decode cX6_seatFor 17 = .ok (.iconst 0, 1) := by decide +kernel
theorem dX6_seatFor_18 : decode cX6_seatFor 18 = .ok (.invokevirtual 103, 3) := by decide +kernel
theorem dX6_seatFor_21 : decode cX6_seatFor 21 = .ok (.ireturn, 1) := by decide +kernel
theorem dX6_seatFor_22 : decode cX6_seatFor 22 = .ok (.aload_n 0, 1) := by decide +kernel
theorem dX6_seatFor_23 : decode cX6_seatFor 23 = .ok (.iload_n 1, 1) := by decide +kernel
theorem dX6_seatFor_24 : decode cX6_seatFor 24 = .ok (.iconst 1, 1) := by decide +kernel
theorem dX6_seatFor_25 : decode cX6_seatFor 25 = .ok (.invokevirtual 64, 3) := by decide +kernel
theorem dX6_seatFor_28 : decode cX6_seatFor 28 = .ok (.istore_n 3, 1) := by decide +kernel
theorem dX6_seatFor_29 : decode cX6_seatFor 29 = .ok (.iconst (-1), 1) := by decide +kernel
theorem dX6_seatFor_30 : decode cX6_seatFor 30 = .ok (.istore 4, 2) := by decide +kernel
theorem dX6_seatFor_32 : decode cX6_seatFor 32 = .ok (.iconst 0, 1) := by decide +kernel
theorem dX6_seatFor_33 : decode cX6_seatFor 33 = .ok (.istore 5, 2) := by decide +kernel
theorem dX6_seatFor_35 : decode cX6_seatFor 35 = .ok (.iconst 0, 1) := by decide +kernel
theorem dX6_seatFor_36 : decode cX6_seatFor 36 = .ok (.istore 6, 2) := by decide +kernel
theorem dX6_seatFor_38 : decode cX6_seatFor 38 = .ok (.iload 6, 2) := by decide +kernel
theorem dX6_seatFor_40 : decode cX6_seatFor 40 = .ok (.bipush 16, 2) := by decide +kernel
theorem dX6_seatFor_42 : decode cX6_seatFor 42 = .ok (.if_icmp .ge 47, 3) := by decide +kernel
theorem dX6_seatFor_45 : decode cX6_seatFor 45 = .ok (.aload_n 0, 1) := by decide +kernel
theorem dX6_seatFor_46 : decode cX6_seatFor 46 = .ok (.iload_n 1, 1) := by decide +kernel
theorem dX6_seatFor_47 : decode cX6_seatFor 47 = .ok (.iconst 1, 1) := by decide +kernel
theorem dX6_seatFor_48 : decode cX6_seatFor 48 = .ok (.iload 6, 2) := by decide +kernel
theorem dX6_seatFor_50 : decode cX6_seatFor 50 = .ok (.invokevirtual 92, 3) := by decide +kernel
theorem dX6_seatFor_53 : decode cX6_seatFor 53 = .ok (.aload_n 0, 1) := by decide +kernel
theorem dX6_seatFor_54 : decode cX6_seatFor 54 = .ok (.iload_n 2, 1) := by decide +kernel
theorem dX6_seatFor_55 : decode cX6_seatFor 55 = .ok (.invokevirtual 178, 3) := by decide +kernel
theorem dX6_seatFor_58 : decode cX6_seatFor 58 = .ok (.invokestatic 76, 3) := by decide +kernel
theorem dX6_seatFor_61 : decode cX6_seatFor 61 = .ok (.istore 7, 2) := by decide +kernel
theorem dX6_seatFor_63 : decode cX6_seatFor 63 = .ok (.iload 4, 2) := by decide +kernel
theorem dX6_seatFor_65 : decode cX6_seatFor 65 = .ok (.ifCond .lt 10, 3) := by decide +kernel
theorem dX6_seatFor_68 : decode cX6_seatFor 68 = .ok (.iload 7, 2) := by decide +kernel
theorem dX6_seatFor_70 : decode cX6_seatFor 70 = .ok (.iload 5, 2) := by decide +kernel
theorem dX6_seatFor_72 : decode cX6_seatFor 72 = .ok (.if_icmp .ge 11, 3) := by decide +kernel
theorem dX6_seatFor_75 : decode cX6_seatFor 75 = .ok (.iload 6, 2) := by decide +kernel
theorem dX6_seatFor_77 : decode cX6_seatFor 77 = .ok (.istore 4, 2) := by decide +kernel
theorem dX6_seatFor_79 : decode cX6_seatFor 79 = .ok (.iload 7, 2) := by decide +kernel
theorem dX6_seatFor_81 : decode cX6_seatFor 81 = .ok (.istore 5, 2) := by decide +kernel
theorem dX6_seatFor_83 : decode cX6_seatFor 83 = .ok (.iinc 6 1, 3) := by decide +kernel
theorem dX6_seatFor_86 : decode cX6_seatFor 86 = .ok (.goto (-48), 3) := by decide +kernel
theorem dX6_seatFor_89 : decode cX6_seatFor 89 = .ok (.aload_n 0, 1) := by decide +kernel
theorem dX6_seatFor_90 : decode cX6_seatFor 90 = .ok (.iload_n 1, 1) := by decide +kernel
theorem dX6_seatFor_91 : decode cX6_seatFor 91 = .ok (.iconst 1, 1) := by decide +kernel
theorem dX6_seatFor_92 : decode cX6_seatFor 92 = .ok (.iload_n 3, 1) := by decide +kernel
theorem dX6_seatFor_93 : decode cX6_seatFor 93 = .ok (.invokevirtual 92, 3) := by decide +kernel
theorem dX6_seatFor_96 : decode cX6_seatFor 96 = .ok (.iload 4, 2) := by decide +kernel
theorem dX6_seatFor_98 : decode cX6_seatFor 98 = .ok (.ireturn, 1) := by decide +kernel
theorem dX6_kindFor_0 : decode cX6_kindFor 0 = .ok (.aload_n 0, 1) := by decide +kernel
theorem dX6_kindFor_1 : decode cX6_kindFor 1 = .ok (.iload_n 1, 1) := by decide +kernel
theorem dX6_kindFor_2 : decode cX6_kindFor 2 = .ok (.invokevirtual 109, 3) := by decide +kernel
theorem dX6_kindFor_5 : decode cX6_kindFor 5 = .ok (.ifCond .eq 11, 3) := by decide +kernel
theorem dX6_kindFor_8 : decode cX6_kindFor 8 = .ok (.aload_n 0, 1) := by decide +kernel
theorem dX6_kindFor_9 : decode cX6_kindFor 9 = .ok (.iload_n 2, 1) := by decide +kernel
theorem dX6_kindFor_10 : decode cX6_kindFor 10 = .ok (.invokevirtual 138, 3) := by decide +kernel
theorem dX6_kindFor_13 : decode cX6_kindFor 13 = .ok (.ifCond .ne 9, 3) := by decide +kernel
theorem dX6_kindFor_16 : decode cX6_kindFor 16 = .ok (.aload_n 0, 1) := by decide +kernel
theorem dX6_kindFor_17 : decode cX6_kindFor 17 = .ok (.iconst 0, 1) := by decide +kernel
theorem dX6_kindFor_18 : decode cX6_kindFor 18 = .ok (.invokevirtual 103, 3) := by decide +kernel
theorem dX6_kindFor_21 : decode cX6_kindFor 21 = .ok (.ireturn, 1) := by decide +kernel
theorem dX6_kindFor_22 : decode cX6_kindFor 22 = .ok (.aload_n 0, 1) := by decide +kernel
theorem dX6_kindFor_23 : decode cX6_kindFor 23 = .ok (.iload_n 1, 1) := by decide +kernel
theorem dX6_kindFor_24 : decode cX6_kindFor 24 = .ok (.iconst 0, 1) := by decide +kernel
theorem dX6_kindFor_25 : decode cX6_kindFor 25 = .ok (.invokevirtual 64, 3) := by decide +kernel
theorem dX6_kindFor_28 : decode cX6_kindFor 28 = .ok (.istore_n 3, 1) := by decide +kernel
theorem dX6_kindFor_29 : decode cX6_kindFor 29 = .ok (.iconst (-1), 1) := by decide +kernel
theorem dX6_kindFor_30 : decode cX6_kindFor 30 = .ok (.istore 4, 2) := by decide +kernel
theorem dX6_kindFor_32 : decode cX6_kindFor 32 = .ok (.iconst (-1), 1) := by decide +kernel
theorem dX6_kindFor_33 : decode cX6_kindFor 33 = .ok (.istore 5, 2) := by decide +kernel
theorem dX6_kindFor_35 : decode cX6_kindFor 35 = .ok (.iconst 0, 1) := by decide +kernel
theorem dX6_kindFor_36 : decode cX6_kindFor 36 = .ok (.istore 6, 2) := by decide +kernel
theorem dX6_kindFor_38 : decode cX6_kindFor 38 = .ok (.iload 6, 2) := by decide +kernel
theorem dX6_kindFor_40 : decode cX6_kindFor 40 = .ok (.bipush 6, 2) := by decide +kernel
theorem dX6_kindFor_42 : decode cX6_kindFor 42 = .ok (.if_icmp .gt 52, 3) := by decide +kernel
theorem dX6_kindFor_45 : decode cX6_kindFor 45 = .ok (.aload_n 0, 1) := by decide +kernel
theorem dX6_kindFor_46 : decode cX6_kindFor 46 = .ok (.iload_n 1, 1) := by decide +kernel
theorem dX6_kindFor_47 : decode cX6_kindFor 47 = .ok (.iconst 0, 1) := by decide +kernel
theorem dX6_kindFor_48 : decode cX6_kindFor 48 = .ok (.iload 6, 2) := by decide +kernel
theorem dX6_kindFor_50 : decode cX6_kindFor 50 = .ok (.invokevirtual 92, 3) := by decide +kernel
theorem dX6_kindFor_53 : decode cX6_kindFor 53 = .ok (.aload_n 0, 1) := by decide +kernel
theorem dX6_kindFor_54 : decode cX6_kindFor 54 = .ok (.iload_n 2, 1) := by decide +kernel
theorem dX6_kindFor_55 : decode cX6_kindFor 55 = .ok (.invokevirtual 178, 3) := by decide +kernel
theorem dX6_kindFor_58 : decode cX6_kindFor 58 = .ok (.invokestatic 76, 3) := by decide +kernel
theorem dX6_kindFor_61 : decode cX6_kindFor 61 = .ok (.istore 7, 2) := by decide +kernel
theorem dX6_kindFor_63 : decode cX6_kindFor 63 = .ok (.iload 7, 2) := by decide +kernel
theorem dX6_kindFor_65 : decode cX6_kindFor 65 = .ok (.iload 5, 2) := by decide +kernel
theorem dX6_kindFor_67 : decode cX6_kindFor 67 = .ok (.if_icmp .le 8, 3) := by decide +kernel
theorem dX6_kindFor_70 : decode cX6_kindFor 70 = .ok (.iload 6, 2) := by decide +kernel
theorem dX6_kindFor_72 : decode cX6_kindFor 72 = .ok (.goto 5, 3) := by decide +kernel
theorem dX6_kindFor_75 : decode cX6_kindFor 75 = .ok (.iload 4, 2) := by decide +kernel
theorem dX6_kindFor_77 : decode cX6_kindFor 77 = .ok (.istore 4, 2) := by decide +kernel
theorem dX6_kindFor_79 : decode cX6_kindFor 79 = .ok (.iload 5, 2) := by decide +kernel
theorem dX6_kindFor_81 : decode cX6_kindFor 81 = .ok (.iload 7, 2) := by decide +kernel
theorem dX6_kindFor_83 : decode cX6_kindFor 83 = .ok (.invokestatic 83, 3) := by decide +kernel
theorem dX6_kindFor_86 : decode cX6_kindFor 86 = .ok (.istore 5, 2) := by decide +kernel
theorem dX6_kindFor_88 : decode cX6_kindFor 88 = .ok (.iinc 6 1, 3) := by decide +kernel
theorem dX6_kindFor_91 : decode cX6_kindFor 91 = .ok (.goto (-53), 3) := by decide +kernel
theorem dX6_kindFor_94 : decode cX6_kindFor 94 = .ok (.aload_n 0, 1) := by decide +kernel
theorem dX6_kindFor_95 : decode cX6_kindFor 95 = .ok (.iload_n 1, 1) := by decide +kernel
theorem dX6_kindFor_96 : decode cX6_kindFor 96 = .ok (.iconst 0, 1) := by decide +kernel
theorem dX6_kindFor_97 : decode cX6_kindFor 97 = .ok (.iload_n 3, 1) := by decide +kernel
theorem dX6_kindFor_98 : decode cX6_kindFor 98 = .ok (.invokevirtual 92, 3) := by decide +kernel
theorem dX6_kindFor_101 : decode cX6_kindFor 101 = .ok (.iload 4, 2) := by decide +kernel
theorem dX6_kindFor_103 : decode cX6_kindFor 103 = .ok (.ireturn, 1) := by decide +kernel
theorem dX6_reachFor_0 : decode cX6_reachFor 0 = .ok (.aload_n 0, 1) := by decide +kernel
theorem dX6_reachFor_1 : decode cX6_reachFor 1 = .ok (.iload_n 1, 1) := by decide +kernel
theorem dX6_reachFor_2 : decode cX6_reachFor 2 = .ok (.invokevirtual 138, 3) := by decide +kernel
theorem dX6_reachFor_5 : decode cX6_reachFor 5 = .ok (.ifCond .ne 9, 3) := by decide +kernel
theorem dX6_reachFor_8 : decode cX6_reachFor 8 = .ok (.aload_n 0, 1) := by decide +kernel
theorem dX6_reachFor_9 : decode cX6_reachFor 9 = .ok (.iconst 0, 1) := by decide +kernel
theorem dX6_reachFor_10 : decode cX6_reachFor 10 = .ok (.invokevirtual 103, 3) := by decide +kernel
theorem dX6_reachFor_13 : decode cX6_reachFor 13 = .ok (.ireturn, 1) := by decide +kernel
theorem dX6_reachFor_14 : decode cX6_reachFor 14 = .ok (.aload_n 0, 1) := by decide +kernel
theorem dX6_reachFor_15 : decode cX6_reachFor 15 = .ok (.getfield 9, 3) := by decide +kernel
theorem dX6_reachFor_18 : decode cX6_reachFor 18 = .ok (.iconst 1, 1) := by decide +kernel
theorem dX6_reachFor_19 : decode cX6_reachFor 19 = .ok (.iaload, 1) := by decide +kernel
theorem dX6_reachFor_20 : decode cX6_reachFor 20 = .ok (.istore_n 2, 1) := by decide +kernel
theorem dX6_reachFor_21 : decode cX6_reachFor 21 = .ok (.iconst (-1), 1) := by decide +kernel
theorem dX6_reachFor_22 : decode cX6_reachFor 22 = .ok (.istore_n 3, 1) := by decide +kernel
theorem dX6_reachFor_23 : decode cX6_reachFor 23 = .ok (.bipush 15, 2) := by decide +kernel
theorem dX6_reachFor_25 : decode cX6_reachFor 25 = .ok (.istore 4, 2) := by decide +kernel
theorem dX6_reachFor_27 : decode cX6_reachFor 27 = .ok (.iload 4, 2) := by decide +kernel
theorem dX6_reachFor_29 : decode cX6_reachFor 29 = .ok (.ifCond .lt 36, 3) := by decide +kernel
theorem dX6_reachFor_32 : decode cX6_reachFor 32 = .ok (.aload_n 0, 1) := by decide +kernel
theorem dX6_reachFor_33 : decode cX6_reachFor 33 = .ok (.getfield 9, 3) := by decide +kernel
theorem dX6_reachFor_36 : decode cX6_reachFor 36 = .ok (.iconst 1, 1) := by decide +kernel
theorem dX6_reachFor_37 : decode cX6_reachFor 37 = .ok (.iload 4, 2) := by decide +kernel
theorem dX6_reachFor_39 : decode cX6_reachFor 39 = .ok (.iastore, 1) := by decide +kernel
theorem dX6_reachFor_40 : decode cX6_reachFor 40 = .ok (.aload_n 0, 1) := by decide +kernel
theorem dX6_reachFor_41 : decode cX6_reachFor 41 = .ok (.iload_n 1, 1) := by decide +kernel
theorem dX6_reachFor_42 : decode cX6_reachFor 42 = .ok (.invokevirtual 178, 3) := by decide +kernel
theorem dX6_reachFor_45 : decode cX6_reachFor 45 = .ok (.aload_n 0, 1) := by decide +kernel
theorem dX6_reachFor_46 : decode cX6_reachFor 46 = .ok (.invokevirtual 155, 3) := by decide +kernel
theorem dX6_reachFor_49 : decode cX6_reachFor 49 = .ok (.if_icmp .ne 8, 3) := by decide +kernel
theorem dX6_reachFor_52 : decode cX6_reachFor 52 = .ok (.iload 4, 2) := by decide +kernel
theorem dX6_reachFor_54 : decode cX6_reachFor 54 = .ok (.goto 4, 3) := by decide +kernel
theorem dX6_reachFor_57 : decode cX6_reachFor 57 = .ok (.iload_n 3, 1) := by decide +kernel
theorem dX6_reachFor_58 : decode cX6_reachFor 58 = .ok (.istore_n 3, 1) := by decide +kernel
theorem dX6_reachFor_59 : decode cX6_reachFor 59 = .ok (.iinc 4 (-1), 3) := by decide +kernel
theorem dX6_reachFor_62 : decode cX6_reachFor 62 = .ok (.goto (-35), 3) := by decide +kernel
theorem dX6_reachFor_65 : decode cX6_reachFor 65 = .ok (.aload_n 0, 1) := by decide +kernel
theorem dX6_reachFor_66 : decode cX6_reachFor 66 = .ok (.getfield 9, 3) := by decide +kernel
theorem dX6_reachFor_69 : decode cX6_reachFor 69 = .ok (.iconst 1, 1) := by decide +kernel
theorem dX6_reachFor_70 : decode cX6_reachFor 70 = .ok (.iload_n 2, 1) := by decide +kernel
theorem dX6_reachFor_71 : decode cX6_reachFor 71 = .ok (.iastore, 1) := by decide +kernel
theorem dX6_reachFor_72 : decode cX6_reachFor 72 = .ok (.iload_n 3, 1) := by decide +kernel
theorem dX6_reachFor_73 : decode cX6_reachFor 73 = .ok (.ifCond .ge 11, 3) := by decide +kernel
theorem dX6_reachFor_76 : decode cX6_reachFor 76 = .ok (.aload_n 0, 1) := by decide +kernel
theorem dX6_reachFor_77 : decode cX6_reachFor 77 = .ok (.iconst 3, 1) := by decide +kernel
theorem dX6_reachFor_78 : decode cX6_reachFor 78 = .ok (.invokevirtual 103, 3) := by decide +kernel
theorem dX6_reachFor_81 : decode cX6_reachFor 81 = .ok (.goto 4, 3) := by decide +kernel
theorem dX6_reachFor_84 : decode cX6_reachFor 84 = .ok (.iload_n 3, 1) := by decide +kernel
theorem dX6_reachFor_85 : decode cX6_reachFor 85 = .ok (.ireturn, 1) := by decide +kernel
theorem dX6_rateFor_0 : decode cX6_rateFor 0 = .ok (.aload_n 0, 1) := by decide +kernel
theorem dX6_rateFor_1 : decode cX6_rateFor 1 = .ok (.iload_n 1, 1) := by decide +kernel
theorem dX6_rateFor_2 : decode cX6_rateFor 2 = .ok (.invokevirtual 138, 3) := by decide +kernel
theorem dX6_rateFor_5 : decode cX6_rateFor 5 = .ok (.ifCond .eq 15, 3) := by decide +kernel
theorem dX6_rateFor_8 : decode cX6_rateFor 8 = .ok (.iload_n 2, 1) := by decide +kernel
theorem dX6_rateFor_9 : decode cX6_rateFor 9 = .ok (.i2l, 1) := by decide +kernel
theorem dX6_rateFor_10 : decode cX6_rateFor 10 = .ok (.lconst 1, 1) := by decide +kernel
theorem dX6_rateFor_11 : decode cX6_rateFor 11 = .ok (.ldc2_w 141, 3) := by decide +kernel
theorem dX6_rateFor_14 : decode cX6_rateFor 14 = .ok (.invokestatic 48, 3) := by decide +kernel
theorem dX6_rateFor_17 : decode cX6_rateFor 17 = .ok (.ifCond .ne 9, 3) := by decide +kernel
theorem dX6_rateFor_20 : decode cX6_rateFor 20 = .ok (.aload_n 0, 1) := by decide +kernel
theorem dX6_rateFor_21 : decode cX6_rateFor 21 = .ok (.iconst 0, 1) := by decide +kernel
theorem dX6_rateFor_22 : decode cX6_rateFor 22 = .ok (.invokevirtual 103, 3) := by decide +kernel
theorem dX6_rateFor_25 : decode cX6_rateFor 25 = .ok (.ireturn, 1) := by decide +kernel
theorem dX6_rateFor_26 : decode cX6_rateFor 26 = .ok (.iconst 0, 1) := by decide +kernel
theorem dX6_rateFor_27 : decode cX6_rateFor 27 = .ok (.istore_n 3, 1) := by decide +kernel
theorem dX6_rateFor_28 : decode cX6_rateFor 28 = .ok (.iconst (-1), 1) := by decide +kernel
theorem dX6_rateFor_29 : decode cX6_rateFor 29 = .ok (.istore 4, 2) := by decide +kernel
theorem dX6_rateFor_31 : decode cX6_rateFor 31 = .ok (.iconst 0, 1) := by decide +kernel
theorem dX6_rateFor_32 : decode cX6_rateFor 32 = .ok (.istore 5, 2) := by decide +kernel
theorem dX6_rateFor_34 : decode cX6_rateFor 34 = .ok (.iload 5, 2) := by decide +kernel
theorem dX6_rateFor_36 : decode cX6_rateFor 36 = .ok (.bipush 20, 2) := by decide +kernel
theorem dX6_rateFor_38 : decode cX6_rateFor 38 = .ok (.if_icmp .gt 82, 3) := by decide +kernel
theorem dX6_rateFor_41 : decode cX6_rateFor 41 = .ok (.aload_n 0, 1) := by decide +kernel
theorem dX6_rateFor_42 : decode cX6_rateFor 42 = .ok (.invokevirtual 180, 3) := by decide +kernel
theorem dX6_rateFor_45 : decode cX6_rateFor 45 = .ok (.aload_n 0, 1) := by decide +kernel
theorem dX6_rateFor_46 : decode cX6_rateFor 46 = .ok (.getfield 9, 3) := by decide +kernel
theorem dX6_rateFor_49 : decode cX6_rateFor 49 = .ok (.iconst 0, 1) := by decide +kernel
theorem dX6_rateFor_50 : decode cX6_rateFor 50 = .ok (.iload 5, 2) := by decide +kernel
theorem dX6_rateFor_52 : decode cX6_rateFor 52 = .ok (.iastore, 1) := by decide +kernel
theorem dX6_rateFor_53 : decode cX6_rateFor 53 = .ok (.iconst 0, 1) := by decide +kernel
theorem dX6_rateFor_54 : decode cX6_rateFor 54 = .ok (.istore 6, 2) := by decide +kernel
theorem dX6_rateFor_56 : decode cX6_rateFor 56 = .ok (.iconst 0, 1) := by decide +kernel
theorem dX6_rateFor_57 : decode cX6_rateFor 57 = .ok (.istore 7, 2) := by decide +kernel
theorem dX6_rateFor_59 : decode cX6_rateFor 59 = .ok (.iload 7, 2) := by decide +kernel
theorem dX6_rateFor_61 : decode cX6_rateFor 61 = .ok (.iload_n 2, 1) := by decide +kernel
theorem dX6_rateFor_62 : decode cX6_rateFor 62 = .ok (.if_icmp .ge 25, 3) := by decide +kernel
theorem dX6_rateFor_65 : decode cX6_rateFor 65 = .ok (.aload_n 0, 1) := by decide +kernel
theorem dX6_rateFor_66 : decode cX6_rateFor 66 = .ok (.iload_n 1, 1) := by decide +kernel
theorem dX6_rateFor_67 : decode cX6_rateFor 67 = .ok (.invokevirtual 167, 3) := by decide +kernel
theorem dX6_rateFor_70 : decode cX6_rateFor 70 = .ok (.istore 8, 2) := by decide +kernel
theorem dX6_rateFor_72 : decode cX6_rateFor 72 = .ok (.iload 6, 2) := by decide +kernel
theorem dX6_rateFor_74 : decode cX6_rateFor 74 = .ok (.aload_n 0, 1) := by decide +kernel
theorem dX6_rateFor_75 : decode cX6_rateFor 75 = .ok (.invokevirtual 186, 3) := by decide +kernel
theorem dX6_rateFor_78 : decode cX6_rateFor 78 = .ok (.iadd, 1) := by decide +kernel
theorem dX6_rateFor_79 : decode cX6_rateFor 79 = .ok (.istore 6, 2) := by decide +kernel
theorem dX6_rateFor_81 : decode cX6_rateFor 81 = .ok (.iinc 7 1, 3) := by decide +kernel
theorem dX6_rateFor_84 : decode cX6_rateFor 84 = .ok (.goto (-25), 3) := by decide +kernel
theorem dX6_rateFor_87 : decode cX6_rateFor 87 = .ok (.aload_n 0, 1) := by decide +kernel
theorem dX6_rateFor_88 : decode cX6_rateFor 88 = .ok (.invokevirtual 183, 3) := by decide +kernel
theorem dX6_rateFor_91 : decode cX6_rateFor 91 = .ok (.iload 6, 2) := by decide +kernel
theorem dX6_rateFor_93 : decode cX6_rateFor 93 = .ok (.iload 4, 2) := by decide +kernel
theorem dX6_rateFor_95 : decode cX6_rateFor 95 = .ok (.if_icmp .le 8, 3) := by decide +kernel
theorem dX6_rateFor_98 : decode cX6_rateFor 98 = .ok (.iload 5, 2) := by decide +kernel
theorem dX6_rateFor_100 : decode cX6_rateFor 100 = .ok (.goto 4, 3) := by decide +kernel
theorem dX6_rateFor_103 : decode cX6_rateFor 103 = .ok (.iload_n 3, 1) := by decide +kernel
theorem dX6_rateFor_104 : decode cX6_rateFor 104 = .ok (.istore_n 3, 1) := by decide +kernel
theorem dX6_rateFor_105 : decode cX6_rateFor 105 = .ok (.iload 4, 2) := by decide +kernel
theorem dX6_rateFor_107 : decode cX6_rateFor 107 = .ok (.iload 6, 2) := by decide +kernel
theorem dX6_rateFor_109 : decode cX6_rateFor 109 = .ok (.invokestatic 83, 3) := by decide +kernel
theorem dX6_rateFor_112 : decode cX6_rateFor 112 = .ok (.istore 4, 2) := by decide +kernel
theorem dX6_rateFor_114 : decode cX6_rateFor 114 = .ok (.iinc 5 1, 3) := by decide +kernel
theorem dX6_rateFor_117 : decode cX6_rateFor 117 = .ok (.goto (-83), 3) := by decide +kernel
theorem dX6_rateFor_120 : decode cX6_rateFor 120 = .ok (.iload_n 3, 1) := by decide +kernel
theorem dX6_rateFor_121 : decode cX6_rateFor 121 = .ok (.ireturn, 1) := by decide +kernel
theorem dX6_best_0 : decode cX6_best 0 = .ok (.iload_n 1, 1) := by decide +kernel
theorem dX6_best_1 : decode cX6_best 1 = .ok (.invokestatic 132, 3) := by decide +kernel
theorem dX6_best_4 : decode cX6_best 4 = .ok (.ifCond .ne 9, 3) := by decide +kernel
theorem dX6_best_7 : decode cX6_best 7 = .ok (.aload_n 0, 1) := by decide +kernel
theorem dX6_best_8 : decode cX6_best 8 = .ok (.iconst 0, 1) := by decide +kernel
theorem dX6_best_9 : decode cX6_best 9 = .ok (.invokevirtual 103, 3) := by decide +kernel
theorem dX6_best_12 : decode cX6_best 12 = .ok (.ireturn, 1) := by decide +kernel
theorem dX6_best_13 : decode cX6_best 13 = .ok (.iconst 0, 1) := by decide +kernel
theorem dX6_best_14 : decode cX6_best 14 = .ok (.istore_n 2, 1) := by decide +kernel
theorem dX6_best_15 : decode cX6_best 15 = .ok (.iconst (-1), 1) := by decide +kernel
theorem dX6_best_16 : decode cX6_best 16 = .ok (.istore_n 3, 1) := by decide +kernel
theorem dX6_best_17 : decode cX6_best 17 = .ok (.iconst 1, 1) := by decide +kernel
theorem dX6_best_18 : decode cX6_best 18 = .ok (.istore 4, 2) := by decide +kernel
theorem dX6_best_20 : decode cX6_best 20 = .ok (.iload 4, 2) := by decide +kernel
theorem dX6_best_22 : decode cX6_best 22 = .ok (.bipush 64, 2) := by decide +kernel
theorem dX6_best_24 : decode cX6_best 24 = .ok (.if_icmp .ge 41, 3) := by decide +kernel
theorem dX6_best_27 : decode cX6_best 27 = .ok (.aload_n 0, 1) := by decide +kernel
theorem dX6_best_28 : decode cX6_best 28 = .ok (.iload 4, 2) := by decide +kernel
theorem dX6_best_30 : decode cX6_best 30 = .ok (.iload_n 1, 1) := by decide +kernel
theorem dX6_best_31 : decode cX6_best 31 = .ok (.invokevirtual 162, 3) := by decide +kernel
theorem dX6_best_34 : decode cX6_best 34 = .ok (.invokestatic 76, 3) := by decide +kernel
theorem dX6_best_37 : decode cX6_best 37 = .ok (.istore 5, 2) := by decide +kernel
theorem dX6_best_39 : decode cX6_best 39 = .ok (.iload 5, 2) := by decide +kernel
theorem dX6_best_41 : decode cX6_best 41 = .ok (.iload_n 3, 1) := by decide +kernel
theorem dX6_best_42 : decode cX6_best 42 = .ok (.if_icmp .le 8, 3) := by decide +kernel
theorem dX6_best_45 : decode cX6_best 45 = .ok (.iload 4, 2) := by decide +kernel
theorem dX6_best_47 : decode cX6_best 47 = .ok (.goto 4, 3) := by decide +kernel
theorem dX6_best_50 : decode cX6_best 50 = .ok (.iload_n 2, 1) := by decide +kernel
theorem dX6_best_51 : decode cX6_best 51 = .ok (.istore_n 2, 1) := by decide +kernel
theorem dX6_best_52 : decode cX6_best 52 = .ok (.iload_n 3, 1) := by decide +kernel
theorem dX6_best_53 : decode cX6_best 53 = .ok (.iload 5, 2) := by decide +kernel
theorem dX6_best_55 : decode cX6_best 55 = .ok (.invokestatic 83, 3) := by decide +kernel
theorem dX6_best_58 : decode cX6_best 58 = .ok (.istore_n 3, 1) := by decide +kernel
theorem dX6_best_59 : decode cX6_best 59 = .ok (.iinc 4 1, 3) := by decide +kernel
theorem dX6_best_62 : decode cX6_best 62 = .ok (.goto (-42), 3) := by decide +kernel
theorem dX6_best_65 : decode cX6_best 65 = .ok (.iload_n 2, 1) := by decide +kernel
theorem dX6_best_66 : decode cX6_best 66 = .ok (.ireturn, 1) := by decide +kernel
theorem dX6_quiet_0 : decode cX6_quiet 0 = .ok (.iload_n 1, 1) := by decide +kernel
theorem dX6_quiet_1 : decode cX6_quiet 1 = .ok (.invokestatic 132, 3) := by decide +kernel
theorem dX6_quiet_4 : decode cX6_quiet 4 = .ok (.ifCond .ne 9, 3) := by decide +kernel
theorem dX6_quiet_7 : decode cX6_quiet 7 = .ok (.aload_n 0, 1) := by decide +kernel
theorem dX6_quiet_8 : decode cX6_quiet 8 = .ok (.iconst 0, 1) := by decide +kernel
theorem dX6_quiet_9 : decode cX6_quiet 9 = .ok (.invokevirtual 103, 3) := by decide +kernel
theorem dX6_quiet_12 : decode cX6_quiet 12 = .ok (.ireturn, 1) := by decide +kernel
theorem dX6_quiet_13 : decode cX6_quiet 13 = .ok (.iconst (-1), 1) := by decide +kernel
theorem dX6_quiet_14 : decode cX6_quiet 14 = .ok (.istore_n 2, 1) := by decide +kernel
theorem dX6_quiet_15 : decode cX6_quiet 15 = .ok (.bipush 9, 2) := by decide +kernel
theorem dX6_quiet_17 : decode cX6_quiet 17 = .ok (.istore_n 3, 1) := by decide +kernel
theorem dX6_quiet_18 : decode cX6_quiet 18 = .ok (.iconst 1, 1) := by decide +kernel
theorem dX6_quiet_19 : decode cX6_quiet 19 = .ok (.istore 4, 2) := by decide +kernel
theorem dX6_quiet_21 : decode cX6_quiet 21 = .ok (.iload 4, 2) := by decide +kernel
theorem dX6_quiet_23 : decode cX6_quiet 23 = .ok (.bipush 64, 2) := by decide +kernel
theorem dX6_quiet_25 : decode cX6_quiet 25 = .ok (.if_icmp .ge 38, 3) := by decide +kernel
theorem dX6_quiet_28 : decode cX6_quiet 28 = .ok (.aload_n 0, 1) := by decide +kernel
theorem dX6_quiet_29 : decode cX6_quiet 29 = .ok (.iload 4, 2) := by decide +kernel
theorem dX6_quiet_31 : decode cX6_quiet 31 = .ok (.iload_n 1, 1) := by decide +kernel
theorem dX6_quiet_32 : decode cX6_quiet 32 = .ok (.invokevirtual 162, 3) := by decide +kernel
theorem dX6_quiet_35 : decode cX6_quiet 35 = .ok (.invokestatic 76, 3) := by decide +kernel
theorem dX6_quiet_38 : decode cX6_quiet 38 = .ok (.istore 5, 2) := by decide +kernel
theorem dX6_quiet_40 : decode cX6_quiet 40 = .ok (.iload 5, 2) := by decide +kernel
theorem dX6_quiet_42 : decode cX6_quiet 42 = .ok (.ifCond .le 15, 3) := by decide +kernel
theorem dX6_quiet_45 : decode cX6_quiet 45 = .ok (.iload 5, 2) := by decide +kernel
theorem dX6_quiet_47 : decode cX6_quiet 47 = .ok (.iload_n 3, 1) := by decide +kernel
theorem dX6_quiet_48 : decode cX6_quiet 48 = .ok (.if_icmp .ge 9, 3) := by decide +kernel
theorem dX6_quiet_51 : decode cX6_quiet 51 = .ok (.iload 4, 2) := by decide +kernel
theorem dX6_quiet_53 : decode cX6_quiet 53 = .ok (.istore_n 2, 1) := by decide +kernel
theorem dX6_quiet_54 : decode cX6_quiet 54 = .ok (.iload 5, 2) := by decide +kernel
theorem dX6_quiet_56 : decode cX6_quiet 56 = .ok (.istore_n 3, 1) := by decide +kernel
theorem dX6_quiet_57 : decode cX6_quiet 57 = .ok (.iinc 4 1, 3) := by decide +kernel
theorem dX6_quiet_60 : decode cX6_quiet 60 = .ok (.goto (-39), 3) := by decide +kernel
theorem dX6_quiet_63 : decode cX6_quiet 63 = .ok (.iload_n 2, 1) := by decide +kernel
theorem dX6_quiet_64 : decode cX6_quiet 64 = .ok (.ifCond .ge 11, 3) := by decide +kernel
theorem dX6_quiet_67 : decode cX6_quiet 67 = .ok (.aload_n 0, 1) := by decide +kernel
theorem dX6_quiet_68 : decode cX6_quiet 68 = .ok (.iconst 3, 1) := by decide +kernel
theorem dX6_quiet_69 : decode cX6_quiet 69 = .ok (.invokevirtual 103, 3) := by decide +kernel
theorem dX6_quiet_72 : decode cX6_quiet 72 = .ok (.goto 4, 3) := by decide +kernel
theorem dX6_quiet_75 : decode cX6_quiet 75 = .ok (.iload_n 2, 1) := by decide +kernel
theorem dX6_quiet_76 : decode cX6_quiet 76 = .ok (.ireturn, 1) := by decide +kernel
theorem dX6_safe_0 : decode cX6_safe 0 = .ok (.iload_n 1, 1) := by decide +kernel
theorem dX6_safe_1 : decode cX6_safe 1 = .ok (.invokestatic 129, 3) := by decide +kernel
theorem dX6_safe_4 : decode cX6_safe 4 = .ok (.ifCond .ne 9, 3) := by decide +kernel
theorem dX6_safe_7 : decode cX6_safe 7 = .ok (.aload_n 0, 1) := by decide +kernel
theorem dX6_safe_8 : decode cX6_safe 8 = .ok (.iconst 0, 1) := by decide +kernel
theorem dX6_safe_9 : decode cX6_safe 9 = .ok (.invokevirtual 103, 3) := by decide +kernel
theorem dX6_safe_12 : decode cX6_safe 12 = .ok (.ireturn, 1) := by decide +kernel
theorem dX6_safe_13 : decode cX6_safe 13 = .ok (.iconst (-1), 1) := by decide +kernel
theorem dX6_safe_14 : decode cX6_safe 14 = .ok (.istore_n 2, 1) := by decide +kernel
theorem dX6_safe_15 : decode cX6_safe 15 = .ok (.iconst 0, 1) := by decide +kernel
theorem dX6_safe_16 : decode cX6_safe 16 = .ok (.istore_n 3, 1) := by decide +kernel
theorem dX6_safe_17 : decode cX6_safe 17 = .ok (.iload_n 3, 1) := by decide +kernel
theorem dX6_safe_18 : decode cX6_safe 18 = .ok (.bipush 9, 2) := by decide +kernel
theorem dX6_safe_20 : decode cX6_safe 20 = .ok (.if_icmp .gt 24, 3) := by decide +kernel
theorem dX6_safe_23 : decode cX6_safe 23 = .ok (.aload_n 0, 1) := by decide +kernel
theorem dX6_safe_24 : decode cX6_safe 24 = .ok (.iload_n 1, 1) := by decide +kernel
theorem dX6_safe_25 : decode cX6_safe 25 = .ok (.iload_n 3, 1) := by decide +kernel
theorem dX6_safe_26 : decode cX6_safe 26 = .ok (.invokevirtual 162, 3) := by decide +kernel
theorem dX6_safe_29 : decode cX6_safe 29 = .ok (.ifCond .ne 7, 3) := by decide +kernel
theorem dX6_safe_32 : decode cX6_safe 32 = .ok (.iload_n 3, 1) := by decide +kernel
theorem dX6_safe_33 : decode cX6_safe 33 = .ok (.goto 4, 3) := by decide +kernel
theorem dX6_safe_36 : decode cX6_safe 36 = .ok (.iload_n 2, 1) := by decide +kernel
theorem dX6_safe_37 : decode cX6_safe 37 = .ok (.istore_n 2, 1) := by decide +kernel
theorem dX6_safe_38 : decode cX6_safe 38 = .ok (.iinc 3 1, 3) := by decide +kernel
theorem dX6_safe_41 : decode cX6_safe 41 = .ok (.goto (-24), 3) := by decide +kernel
theorem dX6_safe_44 : decode cX6_safe 44 = .ok (.iload_n 2, 1) := by decide +kernel
theorem dX6_safe_45 : decode cX6_safe 45 = .ok (.ifCond .ge 11, 3) := by decide +kernel
theorem dX6_safe_48 : decode cX6_safe 48 = .ok (.aload_n 0, 1) := by decide +kernel
theorem dX6_safe_49 : decode cX6_safe 49 = .ok (.iconst 3, 1) := by decide +kernel
theorem dX6_safe_50 : decode cX6_safe 50 = .ok (.invokevirtual 103, 3) := by decide +kernel
theorem dX6_safe_53 : decode cX6_safe 53 = .ok (.goto 4, 3) := by decide +kernel
theorem dX6_safe_56 : decode cX6_safe 56 = .ok (.iload_n 2, 1) := by decide +kernel
theorem dX6_safe_57 : decode cX6_safe 57 = .ok (.ireturn, 1) := by decide +kernel
theorem dX6_paysSo_0 : decode cX6_paysSo 0 = .ok (.iconst 1, 1) := by decide +kernel
theorem dX6_paysSo_1 : decode cX6_paysSo 1 = .ok (.istore 4, 2) := by decide +kernel
theorem dX6_paysSo_3 : decode cX6_paysSo 3 = .ok (.iconst 0, 1) := by decide +kernel
theorem dX6_paysSo_4 : decode cX6_paysSo 4 = .ok (.istore 5, 2) := by decide +kernel
theorem dX6_paysSo_6 : decode cX6_paysSo 6 = .ok (.iload 5, 2) := by decide +kernel
theorem dX6_paysSo_8 : decode cX6_paysSo 8 = .ok (.aload_n 0, 1) := by decide +kernel
theorem dX6_paysSo_9 : decode cX6_paysSo 9 = .ok (.getfield 34, 3) := by decide +kernel
theorem dX6_paysSo_12 : decode cX6_paysSo 12 = .ok (.iload_n 1, 1) := by decide +kernel
theorem dX6_paysSo_13 : decode cX6_paysSo 13 = .ok (.iaload, 1) := by decide +kernel
theorem dX6_paysSo_14 : decode cX6_paysSo 14 = .ok (.if_icmp .ge 59, 3) := by decide +kernel
theorem dX6_paysSo_17 : decode cX6_paysSo 17 = .ok (.iload 4, 2) := by decide +kernel
theorem dX6_paysSo_19 : decode cX6_paysSo 19 = .ok (.ifCond .eq 54, 3) := by decide +kernel
theorem dX6_paysSo_22 : decode cX6_paysSo 22 = .ok (.aload_n 0, 1) := by decide +kernel
theorem dX6_paysSo_23 : decode cX6_paysSo 23 = .ok (.iload_n 3, 1) := by decide +kernel
theorem dX6_paysSo_24 : decode cX6_paysSo 24 = .ok (.invokevirtual 167, 3) := by decide +kernel
theorem dX6_paysSo_27 : decode cX6_paysSo 27 = .ok (.istore 6, 2) := by decide +kernel
theorem dX6_paysSo_29 : decode cX6_paysSo 29 = .ok (.aload_n 0, 1) := by decide +kernel
theorem dX6_paysSo_30 : decode cX6_paysSo 30 = .ok (.getfield 37, 3) := by decide +kernel
theorem dX6_paysSo_33 : decode cX6_paysSo 33 = .ok (.bipush 40, 2) := by decide +kernel
theorem dX6_paysSo_35 : decode cX6_paysSo 35 = .ok (.iload_n 1, 1) := by decide +kernel
theorem dX6_paysSo_36 : decode cX6_paysSo 36 = .ok (.imul, 1) := by decide +kernel
theorem dX6_paysSo_37 : decode cX6_paysSo 37 = .ok (.iload 5, 2) := by decide +kernel
theorem dX6_paysSo_39 : decode cX6_paysSo 39 = .ok (.iadd, 1) := by decide +kernel
theorem dX6_paysSo_40 : decode cX6_paysSo 40 = .ok (.iaload, 1) := by decide +kernel
theorem dX6_paysSo_41 : decode cX6_paysSo 41 = .ok (.istore 7, 2) := by decide +kernel
theorem dX6_paysSo_43 : decode cX6_paysSo 43 = .ok (.iload 7, 2) := by decide +kernel
theorem dX6_paysSo_45 : decode cX6_paysSo 45 = .ok (.iconst (-1), 1) := by decide +kernel
theorem dX6_paysSo_46 : decode cX6_paysSo 46 = .ok (.if_icmp .eq 14, 3) := by decide +kernel
theorem dX6_paysSo_49 : decode cX6_paysSo 49 = .ok (.iload 7, 2) := by decide +kernel
theorem dX6_paysSo_51 : decode cX6_paysSo 51 = .ok (.aload_n 0, 1) := by decide +kernel
theorem dX6_paysSo_52 : decode cX6_paysSo 52 = .ok (.getfield 25, 3) := by decide +kernel
theorem dX6_paysSo_55 : decode cX6_paysSo 55 = .ok (.iload_n 2, 1) := by decide +kernel
theorem dX6_paysSo_56 : decode cX6_paysSo 56 = .ok (.iaload, 1) := by decide +kernel
theorem dX6_paysSo_57 : decode cX6_paysSo 57 = .ok (.if_icmp .ne 7, 3) := by decide +kernel
theorem dX6_paysSo_60 : decode cX6_paysSo 60 = .ok (.iconst 1, 1) := by decide +kernel
theorem dX6_paysSo_61 : decode cX6_paysSo 61 = .ok (.goto 4, 3) := by decide +kernel
theorem dX6_paysSo_64 : decode cX6_paysSo 64 = .ok (.iconst 0, 1) := by decide +kernel
theorem dX6_paysSo_65 : decode cX6_paysSo 65 = .ok (.istore 4, 2) := by decide +kernel
theorem dX6_paysSo_67 : decode cX6_paysSo 67 = .ok (.iinc 5 1, 3) := by decide +kernel
theorem dX6_paysSo_70 : decode cX6_paysSo 70 = .ok (.goto (-64), 3) := by decide +kernel
theorem dX6_paysSo_73 : decode cX6_paysSo 73 = .ok (.iload 4, 2) := by decide +kernel
theorem dX6_paysSo_75 : decode cX6_paysSo 75 = .ok (.ireturn, 1) := by decide +kernel
theorem dX6_findTastes_0 : decode cX6_findTastes 0 = .ok (.iconst 0, 1) := by decide +kernel
theorem dX6_findTastes_1 : decode cX6_findTastes 1 = .ok (.istore 4, 2) := by decide +kernel
theorem dX6_findTastes_3 : decode cX6_findTastes 3 = .ok (.aload_n 0, 1) := by decide +kernel
theorem dX6_findTastes_4 : decode cX6_findTastes 4 = .ok (.iconst (-1), 1) := by decide +kernel
theorem dX6_findTastes_5 : decode cX6_findTastes 5 = .ok (.putfield 197, 3) := by decide +kernel
theorem dX6_findTastes_8 : decode cX6_findTastes 8 = .ok (.bipush 63, 2) := by decide +kernel
theorem dX6_findTastes_10 : decode cX6_findTastes 10 = .ok (.istore 5, 2) := by decide +kernel
theorem dX6_findTastes_12 : decode cX6_findTastes 12 = .ok (.iload 5, 2) := by decide +kernel
theorem dX6_findTastes_14 : decode cX6_findTastes 14 = .ok (.ifCond .lt 67, 3) := by decide +kernel
theorem dX6_findTastes_17 : decode cX6_findTastes 17 = .ok (.aload_n 0, 1) := by decide +kernel
theorem dX6_findTastes_18 : decode cX6_findTastes 18 = .ok (.invokevirtual 180, 3) := by decide +kernel
theorem dX6_findTastes_21 : decode cX6_findTastes 21 = .ok (.aload_n 0, 1) := by decide +kernel
theorem dX6_findTastes_22 : decode cX6_findTastes 22 = .ok (.iload_n 2, 1) := by decide +kernel
theorem dX6_findTastes_23 : decode cX6_findTastes 23 = .ok (.iconst 2, 1) := by decide +kernel
theorem dX6_findTastes_24 : decode cX6_findTastes 24 = .ok (.iload 5, 2) := by decide +kernel
theorem dX6_findTastes_26 : decode cX6_findTastes 26 = .ok (.invokevirtual 92, 3) := by decide +kernel
theorem dX6_findTastes_29 : decode cX6_findTastes 29 = .ok (.aload_n 0, 1) := by decide +kernel
theorem dX6_findTastes_30 : decode cX6_findTastes 30 = .ok (.iload_n 1, 1) := by decide +kernel
theorem dX6_findTastes_31 : decode cX6_findTastes 31 = .ok (.iload_n 2, 1) := by decide +kernel
theorem dX6_findTastes_32 : decode cX6_findTastes 32 = .ok (.iload_n 3, 1) := by decide +kernel
theorem dX6_findTastes_33 : decode cX6_findTastes 33 = .ok (.invokevirtual 200, 3) := by decide +kernel
theorem dX6_findTastes_36 : decode cX6_findTastes 36 = .ok (.istore 6, 2) := by decide +kernel
theorem dX6_findTastes_38 : decode cX6_findTastes 38 = .ok (.aload_n 0, 1) := by decide +kernel
theorem dX6_findTastes_39 : decode cX6_findTastes 39 = .ok (.invokevirtual 183, 3) := by decide +kernel
theorem dX6_findTastes_42 : decode cX6_findTastes 42 = .ok (.iload 4, 2) := by decide +kernel
theorem dX6_findTastes_44 : decode cX6_findTastes 44 = .ok (.iload 6, 2) := by decide +kernel
theorem dX6_findTastes_46 : decode cX6_findTastes 46 = .ok (.ifCond .eq 7, 3) := by decide +kernel
theorem dX6_findTastes_49 : decode cX6_findTastes 49 = .ok (.iconst 1, 1) := by decide +kernel
theorem dX6_findTastes_50 : decode cX6_findTastes 50 = .ok (.goto 4, 3) := by decide +kernel
theorem dX6_findTastes_53 : decode cX6_findTastes 53 = .ok (.iconst 0, 1) := by decide +kernel
theorem dX6_findTastes_54 : decode cX6_findTastes 54 = .ok (.iadd, 1) := by decide +kernel
theorem dX6_findTastes_55 : decode cX6_findTastes 55 = .ok (.istore 4, 2) := by decide +kernel
theorem dX6_findTastes_57 : decode cX6_findTastes 57 = .ok (.aload_n 0, 1) := by decide +kernel
theorem dX6_findTastes_58 : decode cX6_findTastes 58 = .ok (.iload 6, 2) := by decide +kernel
theorem dX6_findTastes_60 : decode cX6_findTastes 60 = .ok (.ifCond .eq 8, 3) := by decide +kernel
theorem dX6_findTastes_63 : decode cX6_findTastes 63 = .ok (.iload 5, 2) := by decide +kernel
theorem dX6_findTastes_65 : decode cX6_findTastes 65 = .ok (.goto 7, 3) := by decide +kernel
theorem dX6_findTastes_68 : decode cX6_findTastes 68 = .ok (.aload_n 0, 1) := by decide +kernel
theorem dX6_findTastes_69 : decode cX6_findTastes 69 = .ok (.getfield 197, 3) := by decide +kernel
theorem dX6_findTastes_72 : decode cX6_findTastes 72 = .ok (.putfield 197, 3) := by decide +kernel
theorem dX6_findTastes_75 : decode cX6_findTastes 75 = .ok (.iinc 5 (-1), 3) := by decide +kernel
theorem dX6_findTastes_78 : decode cX6_findTastes 78 = .ok (.goto (-66), 3) := by decide +kernel
theorem dX6_findTastes_81 : decode cX6_findTastes 81 = .ok (.iload 4, 2) := by decide +kernel
theorem dX6_findTastes_83 : decode cX6_findTastes 83 = .ok (.ireturn, 1) := by decide +kernel
theorem dX6_lacksTastes_0 : decode cX6_lacksTastes 0 = .ok (.aload_n 0, 1) := by decide +kernel
theorem dX6_lacksTastes_1 : decode cX6_lacksTastes 1 = .ok (.iload_n 1, 1) := by decide +kernel
theorem dX6_lacksTastes_2 : decode cX6_lacksTastes 2 = .ok (.invokevirtual 204, 3) := by decide +kernel
theorem dX6_lacksTastes_5 : decode cX6_lacksTastes 5 = .ok (.istore 4, 2) := by decide +kernel
theorem dX6_lacksTastes_7 : decode cX6_lacksTastes 7 = .ok (.iload 4, 2) := by decide +kernel
theorem dX6_lacksTastes_9 : decode cX6_lacksTastes 9 = .ok (.ifCond .lt 6, 3) := by decide +kernel
theorem dX6_lacksTastes_12 : decode cX6_lacksTastes 12 = .ok (.iload 4, 2) := by decide +kernel
theorem dX6_lacksTastes_14 : decode cX6_lacksTastes 14 = .ok (.ireturn, 1) := by decide +kernel
theorem dX6_lacksTastes_15 : decode cX6_lacksTastes 15 = .ok (.aload_n 0, 1) := by decide +kernel
theorem dX6_lacksTastes_16 : decode cX6_lacksTastes 16 = .ok (.iload_n 2, 1) := by decide +kernel
theorem dX6_lacksTastes_17 : decode cX6_lacksTastes 17 = .ok (.invokevirtual 109, 3) := by decide +kernel
theorem dX6_lacksTastes_20 : decode cX6_lacksTastes 20 = .ok (.ifCond .eq 15, 3) := by decide +kernel
theorem dX6_lacksTastes_23 : decode cX6_lacksTastes 23 = .ok (.aload_n 0, 1) := by decide +kernel
theorem dX6_lacksTastes_24 : decode cX6_lacksTastes 24 = .ok (.iload_n 3, 1) := by decide +kernel
theorem dX6_lacksTastes_25 : decode cX6_lacksTastes 25 = .ok (.invokevirtual 138, 3) := by decide +kernel
theorem dX6_lacksTastes_28 : decode cX6_lacksTastes 28 = .ok (.ifCond .eq 7, 3) := by decide +kernel
theorem dX6_lacksTastes_31 : decode cX6_lacksTastes 31 = .ok (.iconst (-1), 1) := by decide +kernel
theorem dX6_lacksTastes_32 : decode cX6_lacksTastes 32 = .ok (.goto 4, 3) := by decide +kernel
theorem dX6_lacksTastes_35 : decode cX6_lacksTastes 35 = .ok (.iconst 0, 1) := by decide +kernel
theorem dX6_lacksTastes_36 : decode cX6_lacksTastes 36 = .ok (.ireturn, 1) := by decide +kernel
theorem dX6_tastes_0 : decode cX6_tastes 0 = .ok (.aload_n 0, 1) := by decide +kernel
theorem dX6_tastes_1 : decode cX6_tastes 1 = .ok (.iload_n 1, 1) := by decide +kernel
theorem dX6_tastes_2 : decode cX6_tastes 2 = .ok (.iload_n 2, 1) := by decide +kernel
theorem dX6_tastes_3 : decode cX6_tastes 3 = .ok (.iload_n 3, 1) := by decide +kernel
theorem dX6_tastes_4 : decode cX6_tastes 4 = .ok (.invokevirtual 207, 3) := by decide +kernel
theorem dX6_tastes_7 : decode cX6_tastes 7 = .ok (.istore 4, 2) := by decide +kernel
theorem dX6_tastes_9 : decode cX6_tastes 9 = .ok (.iload 4, 2) := by decide +kernel
theorem dX6_tastes_11 : decode cX6_tastes 11 = .ok (.ifCond .lt 12, 3) := by decide +kernel
theorem dX6_tastes_14 : decode cX6_tastes 14 = .ok (.aload_n 0, 1) := by decide +kernel
theorem dX6_tastes_15 : decode cX6_tastes 15 = .ok (.iload 4, 2) := by decide +kernel
theorem dX6_tastes_17 : decode cX6_tastes 17 = .ok (.invokevirtual 103, 3) := by decide +kernel
theorem dX6_tastes_20 : decode cX6_tastes 20 = .ok (.goto 10, 3) := by decide +kernel
theorem dX6_tastes_23 : decode cX6_tastes 23 = .ok (.aload_n 0, 1) := by decide +kernel
theorem dX6_tastes_24 : decode cX6_tastes 24 = .ok (.iload_n 1, 1) := by decide +kernel
theorem dX6_tastes_25 : decode cX6_tastes 25 = .ok (.iload_n 2, 1) := by decide +kernel
theorem dX6_tastes_26 : decode cX6_tastes 26 = .ok (.iload_n 3, 1) := by decide +kernel
theorem dX6_tastes_27 : decode cX6_tastes 27 = .ok (.invokevirtual 210, 3) := by decide +kernel
theorem dX6_tastes_30 : decode cX6_tastes 30 = .ok (.ireturn, 1) := by decide +kernel
theorem dX6_taste_0 : decode cX6_taste 0 = .ok (.aload_n 0, 1) := by decide +kernel
theorem dX6_taste_1 : decode cX6_taste 1 = .ok (.iload_n 1, 1) := by decide +kernel
theorem dX6_taste_2 : decode cX6_taste 2 = .ok (.iload_n 2, 1) := by decide +kernel
theorem dX6_taste_3 : decode cX6_taste 3 = .ok (.iload_n 3, 1) := by decide +kernel
theorem dX6_taste_4 : decode cX6_taste 4 = .ok (.invokevirtual 207, 3) := by decide +kernel
theorem dX6_taste_7 : decode cX6_taste 7 = .ok (.istore 4, 2) := by decide +kernel
theorem dX6_taste_9 : decode cX6_taste 9 = .ok (.iload 4, 2) := by decide +kernel
theorem dX6_taste_11 : decode cX6_taste 11 = .ok (.ifCond .lt 10, 3) := by decide +kernel
theorem dX6_taste_14 : decode cX6_taste 14 = .ok (.aload_n 0, 1) := by decide +kernel
theorem dX6_taste_15 : decode cX6_taste 15 = .ok (.iload 4, 2) := by decide +kernel
theorem dX6_taste_17 : decode cX6_taste 17 = .ok (.invokevirtual 103, 3) := by decide +kernel
theorem dX6_taste_20 : decode cX6_taste 20 = .ok (.ireturn, 1) := by decide +kernel
theorem dX6_taste_21 : decode cX6_taste 21 = .ok (.aload_n 0, 1) := by decide +kernel
theorem dX6_taste_22 : decode cX6_taste 22 = .ok (.iload_n 1, 1) := by decide +kernel
theorem dX6_taste_23 : decode cX6_taste 23 = .ok (.iload_n 2, 1) := by decide +kernel
theorem dX6_taste_24 : decode cX6_taste 24 = .ok (.iload_n 3, 1) := by decide +kernel
theorem dX6_taste_25 : decode cX6_taste 25 = .ok (.invokevirtual 210, 3) := by decide +kernel
theorem dX6_taste_28 : decode cX6_taste 28 = .ok (.ifCond .ne 11, 3) := by decide +kernel
theorem dX6_taste_31 : decode cX6_taste 31 = .ok (.aload_n 0, 1) := by decide +kernel
theorem dX6_taste_32 : decode cX6_taste 32 = .ok (.iconst 3, 1) := by decide +kernel
theorem dX6_taste_33 : decode cX6_taste 33 = .ok (.invokevirtual 103, 3) := by decide +kernel
theorem dX6_taste_36 : decode cX6_taste 36 = .ok (.goto 7, 3) := by decide +kernel
theorem dX6_taste_39 : decode cX6_taste 39 = .ok (.aload_n 0, 1) := by decide +kernel
theorem dX6_taste_40 : decode cX6_taste 40 = .ok (.getfield 197, 3) := by decide +kernel
theorem dX6_taste_43 : decode cX6_taste 43 = .ok (.ireturn, 1) := by decide +kernel
theorem dX6_which_0 : decode cX6_which 0 = .ok (.aload_n 0, 1) := by decide +kernel
theorem dX6_which_1 : decode cX6_which 1 = .ok (.iload_n 1, 1) := by decide +kernel
theorem dX6_which_2 : decode cX6_which 2 = .ok (.invokevirtual 204, 3) := by decide +kernel
theorem dX6_which_5 : decode cX6_which 5 = .ok (.istore_n 2, 1) := by decide +kernel
theorem dX6_which_6 : decode cX6_which 6 = .ok (.iload_n 2, 1) := by decide +kernel
theorem dX6_which_7 : decode cX6_which 7 = .ok (.ifCond .lt 9, 3) := by decide +kernel
theorem dX6_which_10 : decode cX6_which 10 = .ok (.aload_n 0, 1) := by decide +kernel
theorem dX6_which_11 : decode cX6_which 11 = .ok (.iload_n 2, 1) := by decide +kernel
theorem dX6_which_12 : decode cX6_which 12 = .ok (.invokevirtual 103, 3) := by decide +kernel
theorem dX6_which_15 : decode cX6_which 15 = .ok (.ireturn, 1) := by decide +kernel
theorem dX6_which_16 : decode cX6_which 16 = .ok (.iconst 0, 1) := by decide +kernel
theorem dX6_which_17 : decode cX6_which 17 = .ok (.istore_n 3, 1) := by decide +kernel
theorem dX6_which_18 : decode cX6_which 18 = .ok (.iconst 0, 1) := by decide +kernel
theorem dX6_which_19 : decode cX6_which 19 = .ok (.istore 4, 2) := by decide +kernel
theorem dX6_which_21 : decode cX6_which 21 = .ok (.iload 4, 2) := by decide +kernel
theorem dX6_which_23 : decode cX6_which 23 = .ok (.aload_n 0, 1) := by decide +kernel
theorem dX6_which_24 : decode cX6_which 24 = .ok (.getfield 9, 3) := by decide +kernel
theorem dX6_which_27 : decode cX6_which 27 = .ok (.bipush 6, 2) := by decide +kernel
theorem dX6_which_29 : decode cX6_which 29 = .ok (.iaload, 1) := by decide +kernel
theorem dX6_which_30 : decode cX6_which 30 = .ok (.if_icmp .ge 119, 3) := by decide +kernel
theorem dX6_which_33 : decode cX6_which 33 = .ok (.aload_n 0, 1) := by decide +kernel
theorem dX6_which_34 : decode cX6_which 34 = .ok (.invokevirtual 180, 3) := by decide +kernel
theorem dX6_which_37 : decode cX6_which 37 = .ok (.aload_n 0, 1) := by decide +kernel
theorem dX6_which_38 : decode cX6_which 38 = .ok (.iload 4, 2) := by decide +kernel
theorem dX6_which_40 : decode cX6_which 40 = .ok (.invokevirtual 167, 3) := by decide +kernel
theorem dX6_which_43 : decode cX6_which 43 = .ok (.istore 5, 2) := by decide +kernel
theorem dX6_which_45 : decode cX6_which 45 = .ok (.aload_n 0, 1) := by decide +kernel
theorem dX6_which_46 : decode cX6_which 46 = .ok (.invokevirtual 183, 3) := by decide +kernel
theorem dX6_which_49 : decode cX6_which 49 = .ok (.iconst 1, 1) := by decide +kernel
theorem dX6_which_50 : decode cX6_which 50 = .ok (.istore 6, 2) := by decide +kernel
theorem dX6_which_52 : decode cX6_which 52 = .ok (.iconst 0, 1) := by decide +kernel
theorem dX6_which_53 : decode cX6_which 53 = .ok (.istore 7, 2) := by decide +kernel
theorem dX6_which_55 : decode cX6_which 55 = .ok (.iload 7, 2) := by decide +kernel
theorem dX6_which_57 : decode cX6_which 57 = .ok (.aload_n 0, 1) := by decide +kernel
theorem dX6_which_58 : decode cX6_which 58 = .ok (.getfield 34, 3) := by decide +kernel
theorem dX6_which_61 : decode cX6_which 61 = .ok (.iload_n 1, 1) := by decide +kernel
theorem dX6_which_62 : decode cX6_which 62 = .ok (.iaload, 1) := by decide +kernel
theorem dX6_which_63 : decode cX6_which 63 = .ok (.if_icmp .ge 64, 3) := by decide +kernel
theorem dX6_which_66 : decode cX6_which 66 = .ok (.iload 7, 2) := by decide +kernel
theorem dX6_which_68 : decode cX6_which 68 = .ok (.aload_n 0, 1) := by decide +kernel
theorem dX6_which_69 : decode cX6_which 69 = .ok (.getfield 9, 3) := by decide +kernel
theorem dX6_which_72 : decode cX6_which 72 = .ok (.iconst 5, 1) := by decide +kernel
theorem dX6_which_73 : decode cX6_which 73 = .ok (.iaload, 1) := by decide +kernel
theorem dX6_which_74 : decode cX6_which 74 = .ok (.if_icmp .ge 53, 3) := by decide +kernel
theorem dX6_which_77 : decode cX6_which 77 = .ok (.aload_n 0, 1) := by decide +kernel
theorem dX6_which_78 : decode cX6_which 78 = .ok (.getfield 37, 3) := by decide +kernel
theorem dX6_which_81 : decode cX6_which 81 = .ok (.bipush 40, 2) := by decide +kernel
theorem dX6_which_83 : decode cX6_which 83 = .ok (.iload_n 1, 1) := by decide +kernel
theorem dX6_which_84 : decode cX6_which 84 = .ok (.imul, 1) := by decide +kernel
theorem dX6_which_85 : decode cX6_which 85 = .ok (.iload 7, 2) := by decide +kernel
theorem dX6_which_87 : decode cX6_which 87 = .ok (.iadd, 1) := by decide +kernel
theorem dX6_which_88 : decode cX6_which 88 = .ok (.iaload, 1) := by decide +kernel
theorem dX6_which_89 : decode cX6_which 89 = .ok (.istore 8, 2) := by decide +kernel
theorem dX6_which_91 : decode cX6_which 91 = .ok (.iload 6, 2) := by decide +kernel
theorem dX6_which_93 : decode cX6_which 93 = .ok (.ifCond .eq 25, 3) := by decide +kernel
theorem dX6_which_96 : decode cX6_which 96 = .ok (.iload 8, 2) := by decide +kernel
theorem dX6_which_98 : decode cX6_which 98 = .ok (.iconst (-1), 1) := by decide +kernel
theorem dX6_which_99 : decode cX6_which 99 = .ok (.if_icmp .eq 15, 3) := by decide +kernel
theorem dX6_which_102 : decode cX6_which 102 = .ok (.iload 8, 2) := by decide +kernel
theorem dX6_which_104 : decode cX6_which 104 = .ok (.aload_n 0, 1) := by decide +kernel
theorem dX6_which_105 : decode cX6_which 105 = .ok (.getfield 25, 3) := by decide +kernel
theorem dX6_which_108 : decode cX6_which 108 = .ok (.iload 7, 2) := by decide +kernel
theorem dX6_which_110 : decode cX6_which 110 = .ok (.iaload, 1) := by decide +kernel
theorem dX6_which_111 : decode cX6_which 111 = .ok (.if_icmp .ne 7, 3) := by decide +kernel
theorem dX6_which_114 : decode cX6_which 114 = .ok (.iconst 1, 1) := by decide +kernel
theorem dX6_which_115 : decode cX6_which 115 = .ok (.goto 4, 3) := by decide +kernel
theorem dX6_which_118 : decode cX6_which 118 = .ok (.iconst 0, 1) := by decide +kernel
theorem dX6_which_119 : decode cX6_which 119 = .ok (.istore 6, 2) := by decide +kernel
theorem dX6_which_121 : decode cX6_which 121 = .ok (.iinc 7 1, 3) := by decide +kernel
theorem dX6_which_124 : decode cX6_which 124 = .ok (.goto (-69), 3) := by decide +kernel
theorem dX6_which_127 : decode cX6_which 127 = .ok (.iload_n 3, 1) := by decide +kernel
theorem dX6_which_128 : decode cX6_which 128 = .ok (.iload 6, 2) := by decide +kernel
theorem dX6_which_130 : decode cX6_which 130 = .ok (.ifCond .eq 10, 3) := by decide +kernel
theorem dX6_which_133 : decode cX6_which 133 = .ok (.iconst 1, 1) := by decide +kernel
theorem dX6_which_134 : decode cX6_which 134 = .ok (.iload 4, 2) := by decide +kernel
theorem dX6_which_136 : decode cX6_which 136 = .ok (.ishl, 1) := by decide +kernel
theorem dX6_which_137 : decode cX6_which 137 = .ok (.goto 4, 3) := by decide +kernel
theorem dX6_which_140 : decode cX6_which 140 = .ok (.iconst 0, 1) := by decide +kernel
theorem dX6_which_141 : decode cX6_which 141 = .ok (.ior, 1) := by decide +kernel
theorem dX6_which_142 : decode cX6_which 142 = .ok (.istore_n 3, 1) := by decide +kernel
theorem dX6_which_143 : decode cX6_which 143 = .ok (.iinc 4 1, 3) := by decide +kernel
theorem dX6_which_146 : decode cX6_which 146 = .ok (.goto (-125), 3) := by decide +kernel
theorem dX6_which_149 : decode cX6_which 149 = .ok (.iload_n 3, 1) := by decide +kernel
theorem dX6_which_150 : decode cX6_which 150 = .ok (.ireturn, 1) := by decide +kernel
theorem dX6_draw_0 : decode cX6_draw 0 = .ok (.aload_n 0, 1) := by decide +kernel
theorem dX6_draw_1 : decode cX6_draw 1 = .ok (.getfield 9, 3) := by decide +kernel
theorem dX6_draw_4 : decode cX6_draw 4 = .ok (.iconst 4, 1) := by decide +kernel
theorem dX6_draw_5 : decode cX6_draw 5 = .ok (.aload_n 0, 1) := by decide +kernel
theorem dX6_draw_6 : decode cX6_draw 6 = .ok (.getfield 9, 3) := by decide +kernel
theorem dX6_draw_9 : decode cX6_draw 9 = .ok (.iconst 4, 1) := by decide +kernel
theorem dX6_draw_10 : decode cX6_draw 10 = .ok (.iaload, 1) := by decide +kernel
theorem dX6_draw_11 : decode cX6_draw 11 = .ok (.ldc 213, 2) := by decide +kernel
theorem dX6_draw_13 : decode cX6_draw 13 = .ok (.imul, 1) := by decide +kernel
theorem dX6_draw_14 : decode cX6_draw 14 = .ok (.sipush 12345, 3) := by decide +kernel
theorem dX6_draw_17 : decode cX6_draw 17 = .ok (.iadd, 1) := by decide +kernel
theorem dX6_draw_18 : decode cX6_draw 18 = .ok (.iastore, 1) := by decide +kernel
theorem dX6_draw_19 : decode cX6_draw 19 = .ok (.aload_n 0, 1) := by decide +kernel
theorem dX6_draw_20 : decode cX6_draw 20 = .ok (.getfield 9, 3) := by decide +kernel
theorem dX6_draw_23 : decode cX6_draw 23 = .ok (.iconst 4, 1) := by decide +kernel
theorem dX6_draw_24 : decode cX6_draw 24 = .ok (.iaload, 1) := by decide +kernel
theorem dX6_draw_25 : decode cX6_draw 25 = .ok (.bipush 8, 2) := by decide +kernel
theorem dX6_draw_27 : decode cX6_draw 27 = .ok (.iushr, 1) := by decide +kernel
theorem dX6_draw_28 : decode cX6_draw 28 = .ok (.ireturn, 1) := by decide +kernel
theorem dX6_shows_0 : decode cX6_shows 0 = .ok (.iload_n 1, 1) := by decide +kernel
theorem dX6_shows_1 : decode cX6_shows 1 = .ok (.i2l, 1) := by decide +kernel
theorem dX6_shows_2 : decode cX6_shows 2 = .ok (.lconst 1, 1) := by decide +kernel
theorem dX6_shows_3 : decode cX6_shows 3 = .ok (.ldc2_w 141, 3) := by decide +kernel
theorem dX6_shows_6 : decode cX6_shows 6 = .ok (.invokestatic 48, 3) := by decide +kernel
theorem dX6_shows_9 : decode cX6_shows 9 = .ok (.ifCond .ne 9, 3) := by decide +kernel
theorem dX6_shows_12 : decode cX6_shows 12 = .ok (.aload_n 0, 1) := by decide +kernel
theorem dX6_shows_13 : decode cX6_shows 13 = .ok (.iconst 0, 1) := by decide +kernel
theorem dX6_shows_14 : decode cX6_shows 14 = .ok (.invokevirtual 103, 3) := by decide +kernel
theorem dX6_shows_17 : decode cX6_shows 17 = .ok (.ireturn, 1) := by decide +kernel
theorem dX6_shows_18 : decode cX6_shows 18 = .ok (.aload_n 0, 1) := by decide +kernel
theorem dX6_shows_19 : decode cX6_shows 19 = .ok (.getfield 9, 3) := by decide +kernel
theorem dX6_shows_22 : decode cX6_shows 22 = .ok (.bipush 6, 2) := by decide +kernel
theorem dX6_shows_24 : decode cX6_shows 24 = .ok (.iaload, 1) := by decide +kernel
theorem dX6_shows_25 : decode cX6_shows 25 = .ok (.ifCond .eq 16, 3) := by decide +kernel
theorem dX6_shows_28 : decode cX6_shows 28 = .ok (.aload_n 0, 1) := by decide +kernel
theorem dX6_shows_29 : decode cX6_shows 29 = .ok (.getfield 9, 3) := by decide +kernel
theorem dX6_shows_32 : decode cX6_shows 32 = .ok (.iconst 3, 1) := by decide +kernel
theorem dX6_shows_33 : decode cX6_shows 33 = .ok (.iaload, 1) := by decide +kernel
theorem dX6_shows_34 : decode cX6_shows 34 = .ok (.iload_n 1, 1) := by decide +kernel
theorem dX6_shows_35 : decode cX6_shows 35 = .ok (.iadd, 1) := by decide +kernel
theorem dX6_shows_36 : decode cX6_shows 36 = .ok (.ldc 166, 2) := by decide +kernel
theorem dX6_shows_38 : decode cX6_shows 38 = .ok (.if_icmp .le 9, 3) := by decide +kernel
theorem dX6_shows_41 : decode cX6_shows 41 = .ok (.aload_n 0, 1) := by decide +kernel
theorem dX6_shows_42 : decode cX6_shows 42 = .ok (.iconst 4, 1) := by decide +kernel
theorem dX6_shows_43 : decode cX6_shows 43 = .ok (.invokevirtual 103, 3) := by decide +kernel
theorem dX6_shows_46 : decode cX6_shows 46 = .ok (.ireturn, 1) := by decide +kernel
theorem dX6_shows_47 : decode cX6_shows 47 = .ok (.iconst 0, 1) := by decide +kernel
theorem dX6_shows_48 : decode cX6_shows 48 = .ok (.istore_n 2, 1) := by decide +kernel
theorem dX6_shows_49 : decode cX6_shows 49 = .ok (.iload_n 2, 1) := by decide +kernel
theorem dX6_shows_50 : decode cX6_shows 50 = .ok (.iload_n 1, 1) := by decide +kernel
theorem dX6_shows_51 : decode cX6_shows 51 = .ok (.if_icmp .ge 26, 3) := by decide +kernel
theorem dX6_shows_54 : decode cX6_shows 54 = .ok (.aload_n 0, 1) := by decide +kernel
theorem dX6_shows_55 : decode cX6_shows 55 = .ok (.aload_n 0, 1) := by decide +kernel
theorem dX6_shows_56 : decode cX6_shows 56 = .ok (.invokevirtual 214, 3) := by decide +kernel
theorem dX6_shows_59 : decode cX6_shows 59 = .ok (.aload_n 0, 1) := by decide +kernel
theorem dX6_shows_60 : decode cX6_shows 60 = .ok (.getfield 9, 3) := by decide +kernel
theorem dX6_shows_63 : decode cX6_shows 63 = .ok (.bipush 6, 2) := by decide +kernel
theorem dX6_shows_65 : decode cX6_shows 65 = .ok (.iaload, 1) := by decide +kernel
theorem dX6_shows_66 : decode cX6_shows 66 = .ok (.irem, 1) := by decide +kernel
theorem dX6_shows_67 : decode cX6_shows 67 = .ok (.invokevirtual 167, 3) := by decide +kernel
theorem dX6_shows_70 : decode cX6_shows 70 = .ok (.istore_n 3, 1) := by decide +kernel
theorem dX6_shows_71 : decode cX6_shows 71 = .ok (.iinc 2 1, 3) := by decide +kernel
theorem dX6_shows_74 : decode cX6_shows 74 = .ok (.goto (-25), 3) := by decide +kernel
theorem dX6_shows_77 : decode cX6_shows 77 = .ok (.aload_n 0, 1) := by decide +kernel
theorem dX6_shows_78 : decode cX6_shows 78 = .ok (.getfield 9, 3) := by decide +kernel
theorem dX6_shows_81 : decode cX6_shows 81 = .ok (.iconst 2, 1) := by decide +kernel
theorem dX6_shows_82 : decode cX6_shows 82 = .ok (.iaload, 1) := by decide +kernel
theorem dX6_shows_83 : decode cX6_shows 83 = .ok (.ireturn, 1) := by decide +kernel
theorem dX6_odds_0 : decode cX6_odds 0 = .ok (.iload_n 1, 1) := by decide +kernel
theorem dX6_odds_1 : decode cX6_odds 1 = .ok (.i2l, 1) := by decide +kernel
theorem dX6_odds_2 : decode cX6_odds 2 = .ok (.lconst 0, 1) := by decide +kernel
theorem dX6_odds_3 : decode cX6_odds 3 = .ok (.ldc2_w 217, 3) := by decide +kernel
theorem dX6_odds_6 : decode cX6_odds 6 = .ok (.invokestatic 48, 3) := by decide +kernel
theorem dX6_odds_9 : decode cX6_odds 9 = .ok (.ifCond .eq 13, 3) := by decide +kernel
theorem dX6_odds_12 : decode cX6_odds 12 = .ok (.iload_n 2, 1) := by decide +kernel
theorem dX6_odds_13 : decode cX6_odds 13 = .ok (.i2l, 1) := by decide +kernel
theorem dX6_odds_14 : decode cX6_odds 14 = .ok (.lconst 0, 1) := by decide +kernel
theorem dX6_odds_15 : decode cX6_odds 15 = .ok (.lconst 1, 1) := by decide +kernel
theorem dX6_odds_16 : decode cX6_odds 16 = .ok (.invokestatic 48, 3) := by decide +kernel
theorem dX6_odds_19 : decode cX6_odds 19 = .ok (.ifCond .ne 10, 3) := by decide +kernel
theorem dX6_odds_22 : decode cX6_odds 22 = .ok (.aload_n 0, 1) := by decide +kernel
theorem dX6_odds_23 : decode cX6_odds 23 = .ok (.iconst 0, 1) := by decide +kernel
theorem dX6_odds_24 : decode cX6_odds 24 = .ok (.invokevirtual 103, 3) := by decide +kernel
theorem dX6_odds_27 : decode cX6_odds 27 = .ok (.i2l, 1) := by decide +kernel
theorem dX6_odds_28 : decode cX6_odds 28 = .ok (.lreturn, 1) := by decide +kernel
theorem dX6_odds_29 : decode cX6_odds 29 = .ok (.aload_n 0, 1) := by decide +kernel
theorem dX6_odds_30 : decode cX6_odds 30 = .ok (.getfield 9, 3) := by decide +kernel
theorem dX6_odds_33 : decode cX6_odds 33 = .ok (.bipush 6, 2) := by decide +kernel
theorem dX6_odds_35 : decode cX6_odds 35 = .ok (.iaload, 1) := by decide +kernel
theorem dX6_odds_36 : decode cX6_odds 36 = .ok (.ifCond .ne 10, 3) := by decide +kernel
theorem dX6_odds_39 : decode cX6_odds 39 = .ok (.aload_n 0, 1) := by decide +kernel
theorem dX6_odds_40 : decode cX6_odds 40 = .ok (.iconst 3, 1) := by decide +kernel
theorem dX6_odds_41 : decode cX6_odds 41 = .ok (.invokevirtual 103, 3) := by decide +kernel
theorem dX6_odds_44 : decode cX6_odds 44 = .ok (.i2l, 1) := by decide +kernel
theorem dX6_odds_45 : decode cX6_odds 45 = .ok (.lreturn, 1) := by decide +kernel
theorem dX6_odds_46 : decode cX6_odds 46 = .ok (.iconst 0, 1) := by decide +kernel
theorem dX6_odds_47 : decode cX6_odds 47 = .ok (.istore_n 3, 1) := by decide +kernel
theorem dX6_odds_48 : decode cX6_odds 48 = .ok (.iconst 0, 1) := by decide +kernel
theorem dX6_odds_49 : decode cX6_odds 49 = .ok (.istore 4, 2) := by decide +kernel
theorem dX6_odds_51 : decode cX6_odds 51 = .ok (.iload 4, 2) := by decide +kernel
theorem dX6_odds_53 : decode cX6_odds 53 = .ok (.aload_n 0, 1) := by decide +kernel
theorem dX6_odds_54 : decode cX6_odds 54 = .ok (.getfield 9, 3) := by decide +kernel
theorem dX6_odds_57 : decode cX6_odds 57 = .ok (.bipush 6, 2) := by decide +kernel
theorem dX6_odds_59 : decode cX6_odds 59 = .ok (.iaload, 1) := by decide +kernel
theorem dX6_odds_60 : decode cX6_odds 60 = .ok (.if_icmp .ge 26, 3) := by decide +kernel
theorem dX6_odds_63 : decode cX6_odds 63 = .ok (.iload_n 3, 1) := by decide +kernel
theorem dX6_odds_64 : decode cX6_odds 64 = .ok (.aload_n 0, 1) := by decide +kernel
theorem dX6_odds_65 : decode cX6_odds 65 = .ok (.iload 4, 2) := by decide +kernel
theorem dX6_odds_67 : decode cX6_odds 67 = .ok (.invokevirtual 178, 3) := by decide +kernel
theorem dX6_odds_70 : decode cX6_odds 70 = .ok (.ifCond .eq 7, 3) := by decide +kernel
theorem dX6_odds_73 : decode cX6_odds 73 = .ok (.iconst 1, 1) := by decide +kernel
theorem dX6_odds_74 : decode cX6_odds 74 = .ok (.goto 4, 3) := by decide +kernel
theorem dX6_odds_77 : decode cX6_odds 77 = .ok (.iconst 0, 1) := by decide +kernel
theorem dX6_odds_78 : decode cX6_odds 78 = .ok (.iadd, 1) := by decide +kernel
theorem dX6_odds_79 : decode cX6_odds 79 = .ok (.istore_n 3, 1) := by decide +kernel
theorem dX6_odds_80 : decode cX6_odds 80 = .ok (.iinc 4 1, 3) := by decide +kernel
theorem dX6_odds_83 : decode cX6_odds 83 = .ok (.goto (-32), 3) := by decide +kernel
theorem dX6_odds_86 : decode cX6_odds 86 = .ok (.lconst 1, 1) := by decide +kernel
theorem dX6_odds_87 : decode cX6_odds 87 = .ok (.lstore 4, 2) := by decide +kernel
theorem dX6_odds_89 : decode cX6_odds 89 = .ok (.lconst 1, 1) := by decide +kernel
theorem dX6_odds_90 : decode cX6_odds 90 = .ok (.lstore 6, 2) := by decide +kernel
theorem dX6_odds_92 : decode cX6_odds 92 = .ok (.iconst 0, 1) := by decide +kernel
theorem dX6_odds_93 : decode cX6_odds 93 = .ok (.istore 8, 2) := by decide +kernel
theorem dX6_odds_95 : decode cX6_odds 95 = .ok (.iload 8, 2) := by decide +kernel
theorem dX6_odds_97 : decode cX6_odds 97 = .ok (.iload_n 1, 1) := by decide +kernel
theorem dX6_odds_98 : decode cX6_odds 98 = .ok (.if_icmp .ge 29, 3) := by decide +kernel
theorem dX6_odds_101 : decode cX6_odds 101 = .ok (.lload 4, 2) := by decide +kernel
theorem dX6_odds_103 : decode cX6_odds 103 = .ok (.iload_n 3, 1) := by decide +kernel
theorem dX6_odds_104 : decode cX6_odds 104 = .ok (.i2l, 1) := by decide +kernel
theorem dX6_odds_105 : decode cX6_odds 105 = .ok (.lmul, 1) := by decide +kernel
theorem dX6_odds_106 : decode cX6_odds 106 = .ok (.lstore 4, 2) := by decide +kernel
theorem dX6_odds_108 : decode cX6_odds 108 = .ok (.lload 6, 2) := by decide +kernel
theorem dX6_odds_110 : decode cX6_odds 110 = .ok (.aload_n 0, 1) := by decide +kernel
theorem dX6_odds_111 : decode cX6_odds 111 = .ok (.getfield 9, 3) := by decide +kernel
theorem dX6_odds_114 : decode cX6_odds 114 = .ok (.bipush 6, 2) := by decide +kernel
theorem dX6_odds_116 : decode cX6_odds 116 = .ok (.iaload, 1) := by decide +kernel
theorem dX6_odds_117 : decode cX6_odds 117 = .ok (.i2l, 1) := by decide +kernel
theorem dX6_odds_118 : decode cX6_odds 118 = .ok (.lmul, 1) := by decide +kernel
theorem dX6_odds_119 : decode cX6_odds 119 = .ok (.lstore 6, 2) := by decide +kernel
theorem dX6_odds_121 : decode cX6_odds 121 = .ok (.iinc 8 1, 3) := by decide +kernel
theorem dX6_odds_124 : decode cX6_odds 124 = .ok (.goto (-29), 3) := by decide +kernel
theorem dX6_odds_127 : decode cX6_odds 127 = .ok (.lload 4, 2) := by decide +kernel
theorem dX6_odds_129 : decode cX6_odds 129 = .ok (.lstore 8, 2) := by decide +kernel
theorem dX6_odds_131 : decode cX6_odds 131 = .ok (.lload 6, 2) := by decide +kernel
theorem dX6_odds_133 : decode cX6_odds 133 = .ok (.lstore 10, 2) := by decide +kernel
theorem dX6_odds_135 : decode cX6_odds 135 = .ok (.lload 10, 2) := by decide +kernel
theorem dX6_odds_137 : decode cX6_odds 137 = .ok (.lconst 0, 1) := by decide +kernel
theorem dX6_odds_138 : decode cX6_odds 138 = .ok (.lcmp, 1) := by decide +kernel
theorem dX6_odds_139 : decode cX6_odds 139 = .ok (.ifCond .eq 21, 3) := by decide +kernel
theorem dX6_odds_142 : decode cX6_odds 142 = .ok (.lload 8, 2) := by decide +kernel
theorem dX6_odds_144 : decode cX6_odds 144 = .ok (.lload 10, 2) := by decide +kernel
theorem dX6_odds_146 : decode cX6_odds 146 = .ok (.lrem, 1) := by decide +kernel
theorem dX6_odds_147 : decode cX6_odds 147 = .ok (.lstore 12, 2) := by decide +kernel
theorem dX6_odds_149 : decode cX6_odds 149 = .ok (.lload 10, 2) := by decide +kernel
theorem dX6_odds_151 : decode cX6_odds 151 = .ok (.lstore 8, 2) := by decide +kernel
theorem dX6_odds_153 : decode cX6_odds 153 = .ok (.lload 12, 2) := by decide +kernel
theorem dX6_odds_155 : decode cX6_odds 155 = .ok (.lstore 10, 2) := by decide +kernel
theorem dX6_odds_157 : decode cX6_odds 157 = .ok (.goto (-22), 3) := by decide +kernel
theorem dX6_odds_160 : decode cX6_odds 160 = .ok (.iload_n 2, 1) := by decide +kernel
theorem dX6_odds_161 : decode cX6_odds 161 = .ok (.ifCond .ne 8, 3) := by decide +kernel
theorem dX6_odds_164 : decode cX6_odds 164 = .ok (.lload 4, 2) := by decide +kernel
theorem dX6_odds_166 : decode cX6_odds 166 = .ok (.goto 5, 3) := by decide +kernel
theorem dX6_odds_169 : decode cX6_odds 169 = .ok (.lload 6, 2) := by decide +kernel
theorem dX6_odds_171 : decode cX6_odds 171 = .ok (.lload 8, 2) := by decide +kernel
theorem dX6_odds_173 : decode cX6_odds 173 = .ok (.ldiv, 1) := by decide +kernel
theorem dX6_odds_174 : decode cX6_odds 174 = .ok (.lreturn, 1) := by decide +kernel
theorem dX6_seed_0 : decode cX6_seed 0 = .ok (.aload_n 0, 1) := by decide +kernel
theorem dX6_seed_1 : decode cX6_seed 1 = .ok (.iconst 4, 1) := by decide +kernel
theorem dX6_seed_2 : decode cX6_seed 2 = .ok (.iload_n 1, 1) := by decide +kernel
theorem dX6_seed_3 : decode cX6_seed 3 = .ok (.invokevirtual 126, 3) := by decide +kernel
theorem dX6_seed_6 : decode cX6_seed 6 = .ok (.ireturn, 1) := by decide +kernel
theorem dX6_feed_0 : decode cX6_feed 0 = .ok (.iload_n 2, 1) := by decide +kernel
theorem dX6_feed_1 : decode cX6_feed 1 = .ok (.i2l, 1) := by decide +kernel
theorem dX6_feed_2 : decode cX6_feed 2 = .ok (.lconst 1, 1) := by decide +kernel
theorem dX6_feed_3 : decode cX6_feed 3 = .ok (.ldc2_w 219, 3) := by decide +kernel
theorem dX6_feed_6 : decode cX6_feed 6 = .ok (.invokestatic 48, 3) := by decide +kernel
theorem dX6_feed_9 : decode cX6_feed 9 = .ok (.ifCond .ne 9, 3) := by decide +kernel
theorem dX6_feed_12 : decode cX6_feed 12 = .ok (.aload_n 0, 1) := by decide +kernel
theorem dX6_feed_13 : decode cX6_feed 13 = .ok (.iconst 0, 1) := by decide +kernel
theorem dX6_feed_14 : decode cX6_feed 14 = .ok (.invokevirtual 103, 3) := by decide +kernel
theorem dX6_feed_17 : decode cX6_feed 17 = .ok (.ireturn, 1) := by decide +kernel
theorem dX6_feed_18 : decode cX6_feed 18 = .ok (.aload_n 0, 1) := by decide +kernel
theorem dX6_feed_19 : decode cX6_feed 19 = .ok (.getfield 221, 3) := by decide +kernel
theorem dX6_feed_22 : decode cX6_feed 22 = .ok (.iload_n 2, 1) := by decide +kernel
theorem dX6_feed_23 : decode cX6_feed 23 = .ok (.iadd, 1) := by decide +kernel
theorem dX6_feed_24 : decode cX6_feed 24 = .ok (.bipush 120, 2) := by decide +kernel
theorem dX6_feed_26 : decode cX6_feed 26 = .ok (.if_icmp .le 9, 3) := by decide +kernel
theorem dX6_feed_29 : decode cX6_feed 29 = .ok (.aload_n 0, 1) := by decide +kernel
theorem dX6_feed_30 : decode cX6_feed 30 = .ok (.iconst 1, 1) := by decide +kernel
theorem dX6_feed_31 : decode cX6_feed 31 = .ok (.invokevirtual 103, 3) := by decide +kernel
theorem dX6_feed_34 : decode cX6_feed 34 = .ok (.ireturn, 1) := by decide +kernel
theorem dX6_feed_35 : decode cX6_feed 35 = .ok (.iload_n 2, 1) := by decide +kernel
theorem dX6_feed_36 : decode cX6_feed 36 = .ok (.iconst 1, 1) := by decide +kernel
theorem dX6_feed_37 : decode cX6_feed 37 = .ok (.isub, 1) := by decide +kernel
theorem dX6_feed_38 : decode cX6_feed 38 = .ok (.istore_n 3, 1) := by decide +kernel
theorem dX6_feed_39 : decode cX6_feed 39 = .ok (.iload_n 3, 1) := by decide +kernel
theorem dX6_feed_40 : decode cX6_feed 40 = .ok (.ifCond .lt 38, 3) := by decide +kernel
theorem dX6_feed_43 : decode cX6_feed 43 = .ok (.aload_n 0, 1) := by decide +kernel
theorem dX6_feed_44 : decode cX6_feed 44 = .ok (.getfield 28, 3) := by decide +kernel
theorem dX6_feed_47 : decode cX6_feed 47 = .ok (.aload_n 0, 1) := by decide +kernel
theorem dX6_feed_48 : decode cX6_feed 48 = .ok (.getfield 221, 3) := by decide +kernel
theorem dX6_feed_51 : decode cX6_feed 51 = .ok (.iload_n 1, 1) := by decide +kernel
theorem dX6_feed_52 : decode cX6_feed 52 = .ok (.bipush 8, 2) := by decide +kernel
theorem dX6_feed_54 : decode cX6_feed 54 = .ok (.iload_n 3, 1) := by decide +kernel
theorem dX6_feed_55 : decode cX6_feed 55 = .ok (.imul, 1) := by decide +kernel
theorem dX6_feed_56 : decode cX6_feed 56 = .ok (.ishr, 1) := by decide +kernel
theorem dX6_feed_57 : decode cX6_feed 57 = .ok (.sipush 255, 3) := by decide +kernel
theorem dX6_feed_60 : decode cX6_feed 60 = .ok (.iand, 1) := by decide +kernel
theorem dX6_feed_61 : decode cX6_feed 61 = .ok (.iastore, 1) := by decide +kernel
theorem dX6_feed_62 : decode cX6_feed 62 = .ok (.aload_n 0, 1) := by decide +kernel
theorem dX6_feed_63 : decode cX6_feed 63 = .ok (.dup, 1) := by decide +kernel
theorem dX6_feed_64 : decode cX6_feed 64 = .ok (.getfield 221, 3) := by decide +kernel
theorem dX6_feed_67 : decode cX6_feed 67 = .ok (.iconst 1, 1) := by decide +kernel
theorem dX6_feed_68 : decode cX6_feed 68 = .ok (.iadd, 1) := by decide +kernel
theorem dX6_feed_69 : decode cX6_feed 69 = .ok (.putfield 221, 3) := by decide +kernel
theorem dX6_feed_72 : decode cX6_feed 72 = .ok (.iinc 3 (-1), 3) := by decide +kernel
theorem dX6_feed_75 : decode cX6_feed 75 = .ok (.goto (-36), 3) := by decide +kernel
theorem dX6_feed_78 : decode cX6_feed 78 = .ok (.aload_n 0, 1) := by decide +kernel
theorem dX6_feed_79 : decode cX6_feed 79 = .ok (.getfield 221, 3) := by decide +kernel
theorem dX6_feed_82 : decode cX6_feed 82 = .ok (.ireturn, 1) := by decide +kernel
theorem dX6_wipe_0 : decode cX6_wipe 0 = .ok (.aload_n 0, 1) := by decide +kernel
theorem dX6_wipe_1 : decode cX6_wipe 1 = .ok (.getfield 221, 3) := by decide +kernel
theorem dX6_wipe_4 : decode cX6_wipe 4 = .ok (.istore_n 1, 1) := by decide +kernel
theorem dX6_wipe_5 : decode cX6_wipe 5 = .ok (.aload_n 0, 1) := by decide +kernel
theorem dX6_wipe_6 : decode cX6_wipe 6 = .ok (.iconst 0, 1) := by decide +kernel
theorem dX6_wipe_7 : decode cX6_wipe 7 = .ok (.putfield 221, 3) := by decide +kernel
theorem dX6_wipe_10 : decode cX6_wipe 10 = .ok (.iload_n 1, 1) := by decide +kernel
theorem dX6_wipe_11 : decode cX6_wipe 11 = .ok (.ireturn, 1) := by decide +kernel
theorem dX6_isByte_0 : decode cX6_isByte 0 = .ok (.iload_n 1, 1) := by decide +kernel
theorem dX6_isByte_1 : decode cX6_isByte 1 = .ok (.aload_n 0, 1) := by decide +kernel
theorem dX6_isByte_2 : decode cX6_isByte 2 = .ok (.getfield 221, 3) := by decide +kernel
theorem dX6_isByte_5 : decode cX6_isByte 5 = .ok (.if_icmp .ge 24, 3) := by decide +kernel
theorem dX6_isByte_8 : decode cX6_isByte 8 = .ok (.aload_n 0, 1) := by decide +kernel
theorem dX6_isByte_9 : decode cX6_isByte 9 = .ok (.getfield 28, 3) := by decide +kernel
theorem dX6_isByte_12 : decode cX6_isByte 12 = .ok (.iload_n 1, 1) := by decide +kernel
theorem dX6_isByte_13 : decode cX6_isByte 13 = .ok (.iaload, 1) := by decide +kernel
theorem dX6_isByte_14 : decode cX6_isByte 14 = .ok (.i2l, 1) := by decide +kernel
theorem dX6_isByte_15 : decode cX6_isByte 15 = .ok (.iload_n 2, 1) := by decide +kernel
theorem dX6_isByte_16 : decode cX6_isByte 16 = .ok (.i2l, 1) := by decide +kernel
theorem dX6_isByte_17 : decode cX6_isByte 17 = .ok (.iload_n 3, 1) := by decide +kernel
theorem dX6_isByte_18 : decode cX6_isByte 18 = .ok (.i2l, 1) := by decide +kernel
theorem dX6_isByte_19 : decode cX6_isByte 19 = .ok (.invokestatic 48, 3) := by decide +kernel
theorem dX6_isByte_22 : decode cX6_isByte 22 = .ok (.ifCond .eq 7, 3) := by decide +kernel
theorem dX6_isByte_25 : decode cX6_isByte 25 = .ok (.iconst 1, 1) := by decide +kernel
theorem dX6_isByte_26 : decode cX6_isByte 26 = .ok (.goto 4, 3) := by decide +kernel
theorem dX6_isByte_29 : decode cX6_isByte 29 = .ok (.iconst 0, 1) := by decide +kernel
theorem dX6_isByte_30 : decode cX6_isByte 30 = .ok (.ireturn, 1) := by decide +kernel
theorem dX6_next_0 : decode cX6_next 0 = .ok (.aload_n 0, 1) := by decide +kernel
theorem dX6_next_1 : decode cX6_next 1 = .ok (.aload_n 0, 1) := by decide +kernel
theorem dX6_next_2 : decode cX6_next 2 = .ok (.getfield 224, 3) := by decide +kernel
theorem dX6_next_5 : decode cX6_next 5 = .ok (.putfield 227, 3) := by decide +kernel
theorem dX6_next_8 : decode cX6_next 8 = .ok (.aload_n 0, 1) := by decide +kernel
theorem dX6_next_9 : decode cX6_next 9 = .ok (.aload_n 0, 1) := by decide +kernel
theorem dX6_next_10 : decode cX6_next 10 = .ok (.getfield 227, 3) := by decide +kernel
theorem dX6_next_13 : decode cX6_next 13 = .ok (.bipush 32, 2) := by decide +kernel
theorem dX6_next_15 : decode cX6_next 15 = .ok (.bipush 32, 2) := by decide +kernel
theorem dX6_next_17 : decode cX6_next 17 = .ok (.invokevirtual 230, 3) := by decide +kernel
theorem dX6_next_20 : decode cX6_next 20 = .ok (.ifCond .eq 16, 3) := by decide +kernel
theorem dX6_next_23 : decode cX6_next 23 = .ok (.aload_n 0, 1) := by decide +kernel
theorem dX6_next_24 : decode cX6_next 24 = .ok (.dup, 1) := by decide +kernel
theorem dX6_next_25 : decode cX6_next 25 = .ok (.getfield 227, 3) := by decide +kernel
theorem dX6_next_28 : decode cX6_next 28 = .ok (.iconst 1, 1) := by decide +kernel
theorem dX6_next_29 : decode cX6_next 29 = .ok (.iadd, 1) := by decide +kernel
theorem dX6_next_30 : decode cX6_next 30 = .ok (.putfield 227, 3) := by decide +kernel
theorem dX6_next_33 : decode cX6_next 33 = .ok (.goto (-25), 3) := by decide +kernel
theorem dX6_next_36 : decode cX6_next 36 = .ok (.aload_n 0, 1) := by decide +kernel
theorem dX6_next_37 : decode cX6_next 37 = .ok (.aload_n 0, 1) := by decide +kernel
theorem dX6_next_38 : decode cX6_next 38 = .ok (.getfield 227, 3) := by decide +kernel
theorem dX6_next_41 : decode cX6_next 41 = .ok (.putfield 224, 3) := by decide +kernel
theorem dX6_next_44 : decode cX6_next 44 = .ok (.aload_n 0, 1) := by decide +kernel
theorem dX6_next_45 : decode cX6_next 45 = .ok (.aload_n 0, 1) := by decide +kernel
theorem dX6_next_46 : decode cX6_next 46 = .ok (.getfield 227, 3) := by decide +kernel
theorem dX6_next_49 : decode cX6_next 49 = .ok (.bipush 97, 2) := by decide +kernel
theorem dX6_next_51 : decode cX6_next 51 = .ok (.bipush 122, 2) := by decide +kernel
theorem dX6_next_53 : decode cX6_next 53 = .ok (.invokevirtual 230, 3) := by decide +kernel
theorem dX6_next_56 : decode cX6_next 56 = .ok (.istore_n 1, 1) := by decide +kernel
theorem dX6_next_57 : decode cX6_next 57 = .ok (.aload_n 0, 1) := by decide +kernel
theorem dX6_next_58 : decode cX6_next 58 = .ok (.aload_n 0, 1) := by decide +kernel
theorem dX6_next_59 : decode cX6_next 59 = .ok (.getfield 227, 3) := by decide +kernel
theorem dX6_next_62 : decode cX6_next 62 = .ok (.bipush 48, 2) := by decide +kernel
theorem dX6_next_64 : decode cX6_next 64 = .ok (.bipush 57, 2) := by decide +kernel
theorem dX6_next_66 : decode cX6_next 66 = .ok (.invokevirtual 230, 3) := by decide +kernel
theorem dX6_next_69 : decode cX6_next 69 = .ok (.istore_n 2, 1) := by decide +kernel
theorem dX6_next_70 : decode cX6_next 70 = .ok (.iload_n 1, 1) := by decide +kernel
theorem dX6_next_71 : decode cX6_next 71 = .ok (.ifCond .eq 18, 3) := by decide +kernel
theorem dX6_next_74 : decode cX6_next 74 = .ok (.aload_n 0, 1) := by decide +kernel
theorem dX6_next_75 : decode cX6_next 75 = .ok (.aload_n 0, 1) := by decide +kernel
theorem dX6_next_76 : decode cX6_next 76 = .ok (.getfield 224, 3) := by decide +kernel
theorem dX6_next_79 : decode cX6_next 79 = .ok (.bipush 97, 2) := by decide +kernel
theorem dX6_next_81 : decode cX6_next 81 = .ok (.bipush 122, 2) := by decide +kernel
theorem dX6_next_83 : decode cX6_next 83 = .ok (.invokevirtual 230, 3) := by decide +kernel
theorem dX6_next_86 : decode cX6_next 86 = .ok (.ifCond .ne 22, 3) := by decide +kernel
theorem dX6_next_89 : decode cX6_next 89 = .ok (.iload_n 2, 1) := by decide +kernel
theorem dX6_next_90 : decode cX6_next 90 = .ok (.ifCond .eq 31, 3) := by decide +kernel
theorem dX6_next_93 : decode cX6_next 93 = .ok (.aload_n 0, 1) := by decide +kernel
theorem dX6_next_94 : decode cX6_next 94 = .ok (.aload_n 0, 1) := by decide +kernel
theorem dX6_next_95 : decode cX6_next 95 = .ok (.getfield 224, 3) := by decide +kernel
theorem dX6_next_98 : decode cX6_next 98 = .ok (.bipush 48, 2) := by decide +kernel
theorem dX6_next_100 : decode cX6_next 100 = .ok (.bipush 57, 2) := by decide +kernel
theorem dX6_next_102 : decode cX6_next 102 = .ok (.invokevirtual 230, 3) := by decide +kernel
theorem dX6_next_105 : decode cX6_next 105 = .ok (.ifCond .eq 16, 3) := by decide +kernel
theorem dX6_next_108 : decode cX6_next 108 = .ok (.aload_n 0, 1) := by decide +kernel
theorem dX6_next_109 : decode cX6_next 109 = .ok (.dup, 1) := by decide +kernel
theorem dX6_next_110 : decode cX6_next 110 = .ok (.getfield 224, 3) := by decide +kernel
theorem dX6_next_113 : decode cX6_next 113 = .ok (.iconst 1, 1) := by decide +kernel
theorem dX6_next_114 : decode cX6_next 114 = .ok (.iadd, 1) := by decide +kernel
theorem dX6_next_115 : decode cX6_next 115 = .ok (.putfield 224, 3) := by decide +kernel
theorem dX6_next_118 : decode cX6_next 118 = .ok (.goto (-48), 3) := by decide +kernel
theorem dX6_next_121 : decode cX6_next 121 = .ok (.aload_n 0, 1) := by decide +kernel
theorem dX6_next_122 : decode cX6_next 122 = .ok (.dup, 1) := by decide +kernel
theorem dX6_next_123 : decode cX6_next 123 = .ok (.getfield 224, 3) := by decide +kernel
theorem dX6_next_126 : decode cX6_next 126 = .ok (.iload_n 1, 1) := by decide +kernel
theorem dX6_next_127 : decode cX6_next 127 = .ok (.ifCond .ne 22, 3) := by decide +kernel
theorem dX6_next_130 : decode cX6_next 130 = .ok (.iload_n 2, 1) := by decide +kernel
theorem dX6_next_131 : decode cX6_next 131 = .ok (.ifCond .ne 18, 3) := by decide +kernel
theorem dX6_next_134 : decode cX6_next 134 = .ok (.aload_n 0, 1) := by decide +kernel
theorem dX6_next_135 : decode cX6_next 135 = .ok (.getfield 227, 3) := by decide +kernel
theorem dX6_next_138 : decode cX6_next 138 = .ok (.aload_n 0, 1) := by decide +kernel
theorem dX6_next_139 : decode cX6_next 139 = .ok (.getfield 221, 3) := by decide +kernel
theorem dX6_next_142 : decode cX6_next 142 = .ok (.if_icmp .ge 7, 3) := by decide +kernel
theorem dX6_next_145 : decode cX6_next 145 = .ok (.iconst 1, 1) := by decide +kernel
theorem dX6_next_146 : decode cX6_next 146 = .ok (.goto 4, 3) := by decide +kernel
theorem dX6_next_149 : decode cX6_next 149 = .ok (.iconst 0, 1) := by decide +kernel
theorem dX6_next_150 : decode cX6_next 150 = .ok (.iadd, 1) := by decide +kernel
theorem dX6_next_151 : decode cX6_next 151 = .ok (.putfield 224, 3) := by decide +kernel
theorem dX6_next_154 : decode cX6_next 154 = .ok (.return_, 1) := by decide +kernel
theorem dX6_isWord_0 : decode cX6_isWord 0 = .ok (.aload_n 0, 1) := by decide +kernel
theorem dX6_isWord_1 : decode cX6_isWord 1 = .ok (.getfield 233, 3) := by decide +kernel
theorem dX6_isWord_4 : decode cX6_isWord 4 = .ok (.ifCond .ne 23, 3) := by decide +kernel
theorem dX6_isWord_7 : decode cX6_isWord 7 = .ok (.aload_n 0, 1) := by decide +kernel
theorem dX6_isWord_8 : decode cX6_isWord 8 = .ok (.getfield 224, 3) := by decide +kernel
theorem dX6_isWord_11 : decode cX6_isWord 11 = .ok (.aload_n 0, 1) := by decide +kernel
theorem dX6_isWord_12 : decode cX6_isWord 12 = .ok (.getfield 227, 3) := by decide +kernel
theorem dX6_isWord_15 : decode cX6_isWord 15 = .ok (.isub, 1) := by decide +kernel
theorem dX6_isWord_16 : decode cX6_isWord 16 = .ok (.aload_n 1, 1) := by decide +kernel
theorem dX6_isWord_17 : decode cX6_isWord 17 = .ok (.invokevirtual 237, 3) := by decide +kernel
theorem dX6_isWord_20 : decode cX6_isWord 20 = .ok (.if_icmp .ne 7, 3) := by decide +kernel
theorem dX6_isWord_23 : decode cX6_isWord 23 = .ok (.iconst 1, 1) := by decide +kernel
theorem dX6_isWord_24 : decode cX6_isWord 24 = .ok (.goto 4, 3) := by decide +kernel
theorem dX6_isWord_27 : decode cX6_isWord 27 = .ok (.iconst 0, 1) := by decide +kernel
theorem dX6_isWord_28 : decode cX6_isWord 28 = .ok (.istore_n 2, 1) := by decide +kernel
theorem dX6_isWord_29 : decode cX6_isWord 29 = .ok (.iconst 0, 1) := by decide +kernel
theorem dX6_isWord_30 : decode cX6_isWord 30 = .ok (.istore_n 3, 1) := by decide +kernel
theorem dX6_isWord_31 : decode cX6_isWord 31 = .ok (.iload_n 2, 1) := by decide +kernel
theorem dX6_isWord_32 : decode cX6_isWord 32 = .ok (.ifCond .eq 42, 3) := by decide +kernel
theorem dX6_isWord_35 : decode cX6_isWord 35 = .ok (.iload_n 3, 1) := by decide +kernel
theorem dX6_isWord_36 : decode cX6_isWord 36 = .ok (.aload_n 1, 1) := by decide +kernel
theorem dX6_isWord_37 : decode cX6_isWord 37 = .ok (.invokevirtual 237, 3) := by decide +kernel
theorem dX6_isWord_40 : decode cX6_isWord 40 = .ok (.if_icmp .ge 34, 3) := by decide +kernel
theorem dX6_isWord_43 : decode cX6_isWord 43 = .ok (.aload_n 0, 1) := by decide +kernel
theorem dX6_isWord_44 : decode cX6_isWord 44 = .ok (.getfield 28, 3) := by decide +kernel
theorem dX6_isWord_47 : decode cX6_isWord 47 = .ok (.aload_n 0, 1) := by decide +kernel
theorem dX6_isWord_48 : decode cX6_isWord 48 = .ok (.getfield 227, 3) := by decide +kernel
theorem dX6_isWord_51 : decode cX6_isWord 51 = .ok (.iload_n 3, 1) := by decide +kernel
theorem dX6_isWord_52 : decode cX6_isWord 52 = .ok (.iadd, 1) := by decide +kernel
theorem dX6_isWord_53 : decode cX6_isWord 53 = .ok (.iaload, 1) := by decide +kernel
theorem dX6_isWord_54 : decode cX6_isWord 54 = .ok (.aload_n 1, 1) := by decide +kernel
theorem dX6_isWord_55 : decode cX6_isWord 55 = .ok (.iload_n 3, 1) := by decide +kernel
theorem dX6_isWord_56 : decode cX6_isWord 56 = .ok (.invokevirtual 242, 3) := by decide +kernel
theorem dX6_isWord_59 : decode cX6_isWord 59 = .ok (.if_icmp .ne 7, 3) := by decide +kernel
theorem dX6_isWord_62 : decode cX6_isWord 62 = .ok (.iconst 1, 1) := by decide +kernel
theorem dX6_isWord_63 : decode cX6_isWord 63 = .ok (.goto 4, 3) := by decide +kernel
theorem dX6_isWord_66 : decode cX6_isWord 66 = .ok (.iconst 0, 1) := by decide +kernel
theorem dX6_isWord_67 : decode cX6_isWord 67 = .ok (.istore_n 2, 1) := by decide +kernel
theorem dX6_isWord_68 : decode cX6_isWord 68 = .ok (.iinc 3 1, 3) := by decide +kernel
theorem dX6_isWord_71 : decode cX6_isWord 71 = .ok (.goto (-40), 3) := by decide +kernel
theorem dX6_isWord_74 : decode cX6_isWord 74 = .ok (.iload_n 2, 1) := by decide +kernel
theorem dX6_isWord_75 : decode cX6_isWord 75 = .ok (.ireturn, 1) := by decide +kernel
theorem dX6_must_0 : decode cX6_must 0 = .ok (.aload_n 0, 1) := by decide +kernel
theorem dX6_must_1 : decode cX6_must 1 = .ok (.aload_n 0, 1) := by decide +kernel
theorem dX6_must_2 : decode cX6_must 2 = .ok (.getfield 233, 3) := by decide +kernel
theorem dX6_must_5 : decode cX6_must 5 = .ok (.ifCond .ne 7, 3) := by decide +kernel
theorem dX6_must_8 : decode cX6_must 8 = .ok (.iload_n 1, 1) := by decide +kernel
theorem dX6_must_9 : decode cX6_must 9 = .ok (.ifCond .ne 7, 3) := by decide +kernel
theorem dX6_must_12 : decode cX6_must 12 = .ok (.iconst 1, 1) := by decide +kernel
theorem dX6_must_13 : decode cX6_must 13 = .ok (.goto 4, 3) := by decide +kernel
theorem dX6_must_16 : decode cX6_must 16 = .ok (.iconst 0, 1) := by decide +kernel
theorem dX6_must_17 : decode cX6_must 17 = .ok (.putfield 233, 3) := by decide +kernel
theorem dX6_must_20 : decode cX6_must 20 = .ok (.aload_n 0, 1) := by decide +kernel
theorem dX6_must_21 : decode cX6_must 21 = .ok (.getfield 233, 3) := by decide +kernel
theorem dX6_must_24 : decode cX6_must 24 = .ok (.ifCond .ne 7, 3) := by decide +kernel
theorem dX6_must_27 : decode cX6_must 27 = .ok (.aload_n 0, 1) := by decide +kernel
theorem dX6_must_28 : decode cX6_must 28 = .ok (.invokevirtual 246, 3) := by decide +kernel
theorem dX6_must_31 : decode cX6_must 31 = .ok (.return_, 1) := by decide +kernel
theorem dX6_takes_0 : decode cX6_takes 0 = .ok (.aload_n 0, 1) := by decide +kernel
theorem dX6_takes_1 : decode cX6_takes 1 = .ok (.aload_n 1, 1) := by decide +kernel
theorem dX6_takes_2 : decode cX6_takes 2 = .ok (.invokevirtual 249, 3) := by decide +kernel
theorem dX6_takes_5 : decode cX6_takes 5 = .ok (.istore_n 2, 1) := by decide +kernel
theorem dX6_takes_6 : decode cX6_takes 6 = .ok (.iload_n 2, 1) := by decide +kernel
theorem dX6_takes_7 : decode cX6_takes 7 = .ok (.ifCond .eq 7, 3) := by decide +kernel
theorem dX6_takes_10 : decode cX6_takes 10 = .ok (.aload_n 0, 1) := by decide +kernel
theorem dX6_takes_11 : decode cX6_takes 11 = .ok (.invokevirtual 246, 3) := by decide +kernel
theorem dX6_takes_14 : decode cX6_takes 14 = .ok (.iload_n 2, 1) := by decide +kernel
theorem dX6_takes_15 : decode cX6_takes 15 = .ok (.ireturn, 1) := by decide +kernel
theorem dX6_numberRead_0 : decode cX6_numberRead 0 = .ok (.aload_n 0, 1) := by decide +kernel
theorem dX6_numberRead_1 : decode cX6_numberRead 1 = .ok (.aload_n 0, 1) := by decide +kernel
theorem dX6_numberRead_2 : decode cX6_numberRead 2 = .ok (.getfield 227, 3) := by decide +kernel
theorem dX6_numberRead_5 : decode cX6_numberRead 5 = .ok (.bipush 48, 2) := by decide +kernel
theorem dX6_numberRead_7 : decode cX6_numberRead 7 = .ok (.bipush 57, 2) := by decide +kernel
theorem dX6_numberRead_9 : decode cX6_numberRead 9 = .ok (.invokevirtual 230, 3) := by decide +kernel
theorem dX6_numberRead_12 : decode cX6_numberRead 12 = .ok (.ifCond .eq 7, 3) := by decide +kernel
theorem dX6_numberRead_15 : decode cX6_numberRead 15 = .ok (.iconst 0, 1) := by decide +kernel
theorem dX6_numberRead_16 : decode cX6_numberRead 16 = .ok (.goto 4, 3) := by decide +kernel
theorem dX6_numberRead_19 : decode cX6_numberRead 19 = .ok (.iconst (-1), 1) := by decide +kernel
theorem dX6_numberRead_20 : decode cX6_numberRead 20 = .ok (.istore_n 3, 1) := by decide +kernel
theorem dX6_numberRead_21 : decode cX6_numberRead 21 = .ok (.aload_n 0, 1) := by decide +kernel
theorem dX6_numberRead_22 : decode cX6_numberRead 22 = .ok (.getfield 227, 3) := by decide +kernel
theorem dX6_numberRead_25 : decode cX6_numberRead 25 = .ok (.istore 4, 2) := by decide +kernel
theorem dX6_numberRead_27 : decode cX6_numberRead 27 = .ok (.iload 4, 2) := by decide +kernel
theorem dX6_numberRead_29 : decode cX6_numberRead 29 = .ok (.aload_n 0, 1) := by decide +kernel
theorem dX6_numberRead_30 : decode cX6_numberRead 30 = .ok (.getfield 224, 3) := by decide +kernel
theorem dX6_numberRead_33 : decode cX6_numberRead 33 = .ok (.if_icmp .ge 40, 3) := by decide +kernel
theorem dX6_numberRead_36 : decode cX6_numberRead 36 = .ok (.iload_n 3, 1) := by decide +kernel
theorem dX6_numberRead_37 : decode cX6_numberRead 37 = .ok (.ifCond .lt 36, 3) := by decide +kernel
theorem dX6_numberRead_40 : decode cX6_numberRead 40 = .ok (.iload_n 3, 1) := by decide +kernel
theorem dX6_numberRead_41 : decode cX6_numberRead 41 = .ok (.sipush 9999, 3) := by decide +kernel
theorem dX6_numberRead_44 : decode cX6_numberRead 44 = .ok (.if_icmp .le 7, 3) := by decide +kernel
theorem dX6_numberRead_47 : decode cX6_numberRead 47 = .ok (.iload_n 3, 1) := by decide +kernel
theorem dX6_numberRead_48 : decode cX6_numberRead 48 = .ok (.goto 18, 3) := by decide +kernel
theorem dX6_numberRead_51 : decode cX6_numberRead 51 = .ok (.bipush 10, 2) := by decide +kernel
theorem dX6_numberRead_53 : decode cX6_numberRead 53 = .ok (.iload_n 3, 1) := by decide +kernel
theorem dX6_numberRead_54 : decode cX6_numberRead 54 = .ok (.imul, 1) := by decide +kernel
theorem dX6_numberRead_55 : decode cX6_numberRead 55 = .ok (.aload_n 0, 1) := by decide +kernel
theorem dX6_numberRead_56 : decode cX6_numberRead 56 = .ok (.getfield 28, 3) := by decide +kernel
theorem dX6_numberRead_59 : decode cX6_numberRead 59 = .ok (.iload 4, 2) := by decide +kernel
theorem dX6_numberRead_61 : decode cX6_numberRead 61 = .ok (.iaload, 1) := by decide +kernel
theorem dX6_numberRead_62 : decode cX6_numberRead 62 = .ok (.iadd, 1) := by decide +kernel
theorem dX6_numberRead_63 : decode cX6_numberRead 63 = .ok (.bipush 48, 2) := by decide +kernel
theorem dX6_numberRead_65 : decode cX6_numberRead 65 = .ok (.isub, 1) := by decide +kernel
theorem dX6_numberRead_66 : decode cX6_numberRead 66 = .ok (.istore_n 3, 1) := by decide +kernel
theorem dX6_numberRead_67 : decode cX6_numberRead 67 = .ok (.iinc 4 1, 3) := by decide +kernel
theorem dX6_numberRead_70 : decode cX6_numberRead 70 = .ok (.goto (-43), 3) := by decide +kernel
theorem dX6_numberRead_73 : decode cX6_numberRead 73 = .ok (.aload_n 0, 1) := by decide +kernel
theorem dX6_numberRead_74 : decode cX6_numberRead 74 = .ok (.iload_n 3, 1) := by decide +kernel
theorem dX6_numberRead_75 : decode cX6_numberRead 75 = .ok (.i2l, 1) := by decide +kernel
theorem dX6_numberRead_76 : decode cX6_numberRead 76 = .ok (.iload_n 1, 1) := by decide +kernel
theorem dX6_numberRead_77 : decode cX6_numberRead 77 = .ok (.i2l, 1) := by decide +kernel
theorem dX6_numberRead_78 : decode cX6_numberRead 78 = .ok (.iload_n 2, 1) := by decide +kernel
theorem dX6_numberRead_79 : decode cX6_numberRead 79 = .ok (.i2l, 1) := by decide +kernel
theorem dX6_numberRead_80 : decode cX6_numberRead 80 = .ok (.invokestatic 48, 3) := by decide +kernel
theorem dX6_numberRead_83 : decode cX6_numberRead 83 = .ok (.invokevirtual 253, 3) := by decide +kernel
theorem dX6_numberRead_86 : decode cX6_numberRead 86 = .ok (.iload_n 3, 1) := by decide +kernel
theorem dX6_numberRead_87 : decode cX6_numberRead 87 = .ok (.ireturn, 1) := by decide +kernel
theorem dX6_kindHere_0 : decode cX6_kindHere 0 = .ok (.aload_n 0, 1) := by decide +kernel
theorem dX6_kindHere_1 : decode cX6_kindHere 1 = .ok (.ldc_w 257, 3) := by decide +kernel
theorem dX6_kindHere_4 : decode cX6_kindHere 4 = .ok (.invokevirtual 249, 3) := by decide +kernel
theorem dX6_kindHere_7 : decode cX6_kindHere 7 = .ok (.ifCond .eq 7, 3) := by decide +kernel
theorem dX6_kindHere_10 : decode cX6_kindHere 10 = .ok (.iconst 0, 1) := by decide +kernel
theorem dX6_kindHere_11 : decode cX6_kindHere 11 = .ok (.goto 32, 3) := by decide +kernel
theorem dX6_kindHere_14 : decode cX6_kindHere 14 = .ok (.aload_n 0, 1) := by decide +kernel
theorem dX6_kindHere_15 : decode cX6_kindHere 15 = .ok (.ldc_w 259, 3) := by decide +kernel
theorem dX6_kindHere_18 : decode cX6_kindHere 18 = .ok (.invokevirtual 249, 3) := by decide +kernel
theorem dX6_kindHere_21 : decode cX6_kindHere 21 = .ok (.ifCond .eq 7, 3) := by decide +kernel
theorem dX6_kindHere_24 : decode cX6_kindHere 24 = .ok (.iconst 1, 1) := by decide +kernel
theorem dX6_kindHere_25 : decode cX6_kindHere 25 = .ok (.goto 18, 3) := by decide +kernel
theorem dX6_kindHere_28 : decode cX6_kindHere 28 = .ok (.aload_n 0, 1) := by decide +kernel
theorem dX6_kindHere_29 : decode cX6_kindHere 29 = .ok (.ldc_w 261, 3) := by decide +kernel
theorem dX6_kindHere_32 : decode cX6_kindHere 32 = .ok (.invokevirtual 249, 3) := by decide +kernel
theorem dX6_kindHere_35 : decode cX6_kindHere 35 = .ok (.ifCond .eq 7, 3) := by decide +kernel
theorem dX6_kindHere_38 : decode cX6_kindHere 38 = .ok (.iconst 2, 1) := by decide +kernel
theorem dX6_kindHere_39 : decode cX6_kindHere 39 = .ok (.goto 4, 3) := by decide +kernel
theorem dX6_kindHere_42 : decode cX6_kindHere 42 = .ok (.iconst (-1), 1) := by decide +kernel
theorem dX6_kindHere_43 : decode cX6_kindHere 43 = .ok (.istore_n 1, 1) := by decide +kernel
theorem dX6_kindHere_44 : decode cX6_kindHere 44 = .ok (.aload_n 0, 1) := by decide +kernel
theorem dX6_kindHere_45 : decode cX6_kindHere 45 = .ok (.ldc_w 263, 3) := by decide +kernel
theorem dX6_kindHere_48 : decode cX6_kindHere 48 = .ok (.invokevirtual 249, 3) := by decide +kernel
theorem dX6_kindHere_51 : decode cX6_kindHere 51 = .ok (.ifCond .eq 7, 3) := by decide +kernel
theorem dX6_kindHere_54 : decode cX6_kindHere 54 = .ok (.iconst 3, 1) := by decide +kernel
theorem dX6_kindHere_55 : decode cX6_kindHere 55 = .ok (.goto 32, 3) := by decide +kernel
theorem dX6_kindHere_58 : decode cX6_kindHere 58 = .ok (.aload_n 0, 1) := by decide +kernel
theorem dX6_kindHere_59 : decode cX6_kindHere 59 = .ok (.ldc_w 265, 3) := by decide +kernel
theorem dX6_kindHere_62 : decode cX6_kindHere 62 = .ok (.invokevirtual 249, 3) := by decide +kernel
theorem dX6_kindHere_65 : decode cX6_kindHere 65 = .ok (.ifCond .eq 7, 3) := by decide +kernel
theorem dX6_kindHere_68 : decode cX6_kindHere 68 = .ok (.iconst 4, 1) := by decide +kernel
theorem dX6_kindHere_69 : decode cX6_kindHere 69 = .ok (.goto 18, 3) := by decide +kernel
theorem dX6_kindHere_72 : decode cX6_kindHere 72 = .ok (.aload_n 0, 1) := by decide +kernel
theorem dX6_kindHere_73 : decode cX6_kindHere 73 = .ok (.ldc_w 267, 3) := by decide +kernel
theorem dX6_kindHere_76 : decode cX6_kindHere 76 = .ok (.invokevirtual 249, 3) := by decide +kernel
theorem dX6_kindHere_79 : decode cX6_kindHere 79 = .ok (.ifCond .eq 7, 3) := by decide +kernel
theorem dX6_kindHere_82 : decode cX6_kindHere 82 = .ok (.iconst 5, 1) := by decide +kernel
theorem dX6_kindHere_83 : decode cX6_kindHere 83 = .ok (.goto 4, 3) := by decide +kernel
theorem dX6_kindHere_86 : decode cX6_kindHere 86 = .ok (.iconst (-1), 1) := by decide +kernel
theorem dX6_kindHere_87 : decode cX6_kindHere 87 = .ok (.istore_n 2, 1) := by decide +kernel
theorem dX6_kindHere_88 : decode cX6_kindHere 88 = .ok (.iload_n 1, 1) := by decide +kernel
theorem dX6_kindHere_89 : decode cX6_kindHere 89 = .ok (.ifCond .lt 7, 3) := by decide +kernel
theorem dX6_kindHere_92 : decode cX6_kindHere 92 = .ok (.iload_n 1, 1) := by decide +kernel
theorem dX6_kindHere_93 : decode cX6_kindHere 93 = .ok (.goto 27, 3) := by decide +kernel
theorem dX6_kindHere_96 : decode cX6_kindHere 96 = .ok (.iload_n 2, 1) := by decide +kernel
theorem dX6_kindHere_97 : decode cX6_kindHere 97 = .ok (.ifCond .lt 7, 3) := by decide +kernel
theorem dX6_kindHere_100 : decode cX6_kindHere 100 = .ok (.iload_n 2, 1) := by decide +kernel
theorem dX6_kindHere_101 : decode cX6_kindHere 101 = .ok (.goto 19, 3) := by decide +kernel
theorem dX6_kindHere_104 : decode cX6_kindHere 104 = .ok (.aload_n 0, 1) := by decide +kernel
theorem dX6_kindHere_105 : decode cX6_kindHere 105 = .ok (.ldc_w 269, 3) := by decide +kernel
theorem dX6_kindHere_108 : decode cX6_kindHere 108 = .ok (.invokevirtual 249, 3) := by decide +kernel
theorem dX6_kindHere_111 : decode cX6_kindHere 111 = .ok (.ifCond .eq 8, 3) := by decide +kernel
theorem dX6_kindHere_114 : decode cX6_kindHere 114 = .ok (.bipush 6, 2) := by decide +kernel
theorem dX6_kindHere_116 : decode cX6_kindHere 116 = .ok (.goto 4, 3) := by decide +kernel
theorem dX6_kindHere_119 : decode cX6_kindHere 119 = .ok (.iconst (-1), 1) := by decide +kernel
theorem dX6_kindHere_120 : decode cX6_kindHere 120 = .ok (.ireturn, 1) := by decide +kernel
theorem dX6_partTold_0 : decode cX6_partTold 0 = .ok (.aload_n 0, 1) := by decide +kernel
theorem dX6_partTold_1 : decode cX6_partTold 1 = .ok (.aload_n 2, 1) := by decide +kernel
theorem dX6_partTold_2 : decode cX6_partTold 2 = .ok (.invokevirtual 271, 3) := by decide +kernel
theorem dX6_partTold_5 : decode cX6_partTold 5 = .ok (.ifCond .eq 16, 3) := by decide +kernel
theorem dX6_partTold_8 : decode cX6_partTold 8 = .ok (.aload_n 0, 1) := by decide +kernel
theorem dX6_partTold_9 : decode cX6_partTold 9 = .ok (.iload_n 1, 1) := by decide +kernel
theorem dX6_partTold_10 : decode cX6_partTold 10 = .ok (.iload_n 3, 1) := by decide +kernel
theorem dX6_partTold_11 : decode cX6_partTold 11 = .ok (.aload_n 0, 1) := by decide +kernel
theorem dX6_partTold_12 : decode cX6_partTold 12 = .ok (.iconst 0, 1) := by decide +kernel
theorem dX6_partTold_13 : decode cX6_partTold 13 = .ok (.iload 4, 2) := by decide +kernel
theorem dX6_partTold_15 : decode cX6_partTold 15 = .ok (.invokevirtual 274, 3) := by decide +kernel
theorem dX6_partTold_18 : decode cX6_partTold 18 = .ok (.invokevirtual 92, 3) := by decide +kernel
theorem dX6_partTold_21 : decode cX6_partTold 21 = .ok (.return_, 1) := by decide +kernel
theorem dX6_personTold_0 : decode cX6_personTold 0 = .ok (.aload_n 0, 1) := by decide +kernel
theorem dX6_personTold_1 : decode cX6_personTold 1 = .ok (.aload_n 0, 1) := by decide +kernel
theorem dX6_personTold_2 : decode cX6_personTold 2 = .ok (.getfield 9, 3) := by decide +kernel
theorem dX6_personTold_5 : decode cX6_personTold 5 = .ok (.iconst 5, 1) := by decide +kernel
theorem dX6_personTold_6 : decode cX6_personTold 6 = .ok (.iaload, 1) := by decide +kernel
theorem dX6_personTold_7 : decode cX6_personTold 7 = .ok (.bipush 8, 2) := by decide +kernel
theorem dX6_personTold_9 : decode cX6_personTold 9 = .ok (.if_icmp .ge 7, 3) := by decide +kernel
theorem dX6_personTold_12 : decode cX6_personTold 12 = .ok (.iconst 1, 1) := by decide +kernel
theorem dX6_personTold_13 : decode cX6_personTold 13 = .ok (.goto 4, 3) := by decide +kernel
theorem dX6_personTold_16 : decode cX6_personTold 16 = .ok (.iconst 0, 1) := by decide +kernel
theorem dX6_personTold_17 : decode cX6_personTold 17 = .ok (.invokevirtual 253, 3) := by decide +kernel
theorem dX6_personTold_20 : decode cX6_personTold 20 = .ok (.aload_n 0, 1) := by decide +kernel
theorem dX6_personTold_21 : decode cX6_personTold 21 = .ok (.getfield 233, 3) := by decide +kernel
theorem dX6_personTold_24 : decode cX6_personTold 24 = .ok (.ifCond .eq 4, 3) := by decide +kernel
theorem dX6_personTold_27 : decode cX6_personTold 27 = .ok (.return_, 1) := by decide +kernel
theorem dX6_personTold_28 : decode cX6_personTold 28 = .ok (.aload_n 0, 1) := by decide +kernel
theorem dX6_personTold_29 : decode cX6_personTold 29 = .ok (.iload_n 1, 1) := by decide +kernel
theorem dX6_personTold_30 : decode cX6_personTold 30 = .ok (.iconst 0, 1) := by decide +kernel
theorem dX6_personTold_31 : decode cX6_personTold 31 = .ok (.invokevirtual 106, 3) := by decide +kernel
theorem dX6_personTold_34 : decode cX6_personTold 34 = .ok (.istore_n 2, 1) := by decide +kernel
theorem dX6_personTold_35 : decode cX6_personTold 35 = .ok (.aload_n 0, 1) := by decide +kernel
theorem dX6_personTold_36 : decode cX6_personTold 36 = .ok (.iload_n 2, 1) := by decide +kernel
theorem dX6_personTold_37 : decode cX6_personTold 37 = .ok (.ldc_w 277, 3) := by decide +kernel
theorem dX6_personTold_40 : decode cX6_personTold 40 = .ok (.iconst 1, 1) := by decide +kernel
theorem dX6_personTold_41 : decode cX6_personTold 41 = .ok (.bipush 15, 2) := by decide +kernel
theorem dX6_personTold_43 : decode cX6_personTold 43 = .ok (.invokevirtual 279, 3) := by decide +kernel
theorem dX6_personTold_46 : decode cX6_personTold 46 = .ok (.aload_n 0, 1) := by decide +kernel
theorem dX6_personTold_47 : decode cX6_personTold 47 = .ok (.iload_n 2, 1) := by decide +kernel
theorem dX6_personTold_48 : decode cX6_personTold 48 = .ok (.ldc_w 283, 3) := by decide +kernel
theorem dX6_personTold_51 : decode cX6_personTold 51 = .ok (.iconst 2, 1) := by decide +kernel
theorem dX6_personTold_52 : decode cX6_personTold 52 = .ok (.bipush 63, 2) := by decide +kernel
theorem dX6_personTold_54 : decode cX6_personTold 54 = .ok (.invokevirtual 279, 3) := by decide +kernel
theorem dX6_personTold_57 : decode cX6_personTold 57 = .ok (.aload_n 0, 1) := by decide +kernel
theorem dX6_personTold_58 : decode cX6_personTold 58 = .ok (.iload_n 2, 1) := by decide +kernel
theorem dX6_personTold_59 : decode cX6_personTold 59 = .ok (.ldc_w 285, 3) := by decide +kernel
theorem dX6_personTold_62 : decode cX6_personTold 62 = .ok (.iconst 3, 1) := by decide +kernel
theorem dX6_personTold_63 : decode cX6_personTold 63 = .ok (.bipush 9, 2) := by decide +kernel
theorem dX6_personTold_65 : decode cX6_personTold 65 = .ok (.invokevirtual 279, 3) := by decide +kernel
theorem dX6_personTold_68 : decode cX6_personTold 68 = .ok (.aload_n 0, 1) := by decide +kernel
theorem dX6_personTold_69 : decode cX6_personTold 69 = .ok (.iload_n 2, 1) := by decide +kernel
theorem dX6_personTold_70 : decode cX6_personTold 70 = .ok (.ldc_w 287, 3) := by decide +kernel
theorem dX6_personTold_73 : decode cX6_personTold 73 = .ok (.iconst 4, 1) := by decide +kernel
theorem dX6_personTold_74 : decode cX6_personTold 74 = .ok (.sipush 9999, 3) := by decide +kernel
theorem dX6_personTold_77 : decode cX6_personTold 77 = .ok (.invokevirtual 279, 3) := by decide +kernel
theorem dX6_personTold_80 : decode cX6_personTold 80 = .ok (.return_, 1) := by decide +kernel
theorem dX6_jokeTold_0 : decode cX6_jokeTold 0 = .ok (.aload_n 0, 1) := by decide +kernel
theorem dX6_jokeTold_1 : decode cX6_jokeTold 1 = .ok (.aload_n 0, 1) := by decide +kernel
theorem dX6_jokeTold_2 : decode cX6_jokeTold 2 = .ok (.getfield 9, 3) := by decide +kernel
theorem dX6_jokeTold_5 : decode cX6_jokeTold 5 = .ok (.bipush 6, 2) := by decide +kernel
theorem dX6_jokeTold_7 : decode cX6_jokeTold 7 = .ok (.iaload, 1) := by decide +kernel
theorem dX6_jokeTold_8 : decode cX6_jokeTold 8 = .ok (.bipush 8, 2) := by decide +kernel
theorem dX6_jokeTold_10 : decode cX6_jokeTold 10 = .ok (.if_icmp .ge 7, 3) := by decide +kernel
theorem dX6_jokeTold_13 : decode cX6_jokeTold 13 = .ok (.iconst 1, 1) := by decide +kernel
theorem dX6_jokeTold_14 : decode cX6_jokeTold 14 = .ok (.goto 4, 3) := by decide +kernel
theorem dX6_jokeTold_17 : decode cX6_jokeTold 17 = .ok (.iconst 0, 1) := by decide +kernel
theorem dX6_jokeTold_18 : decode cX6_jokeTold 18 = .ok (.invokevirtual 253, 3) := by decide +kernel
theorem dX6_jokeTold_21 : decode cX6_jokeTold 21 = .ok (.aload_n 0, 1) := by decide +kernel
theorem dX6_jokeTold_22 : decode cX6_jokeTold 22 = .ok (.iconst 1, 1) := by decide +kernel
theorem dX6_jokeTold_23 : decode cX6_jokeTold 23 = .ok (.bipush 63, 2) := by decide +kernel
theorem dX6_jokeTold_25 : decode cX6_jokeTold 25 = .ok (.invokevirtual 274, 3) := by decide +kernel
theorem dX6_jokeTold_28 : decode cX6_jokeTold 28 = .ok (.istore_n 1, 1) := by decide +kernel
theorem dX6_jokeTold_29 : decode cX6_jokeTold 29 = .ok (.aload_n 0, 1) := by decide +kernel
theorem dX6_jokeTold_30 : decode cX6_jokeTold 30 = .ok (.iconst 0, 1) := by decide +kernel
theorem dX6_jokeTold_31 : decode cX6_jokeTold 31 = .ok (.bipush 9, 2) := by decide +kernel
theorem dX6_jokeTold_33 : decode cX6_jokeTold 33 = .ok (.invokevirtual 274, 3) := by decide +kernel
theorem dX6_jokeTold_36 : decode cX6_jokeTold 36 = .ok (.istore_n 2, 1) := by decide +kernel
theorem dX6_jokeTold_37 : decode cX6_jokeTold 37 = .ok (.aload_n 0, 1) := by decide +kernel
theorem dX6_jokeTold_38 : decode cX6_jokeTold 38 = .ok (.getfield 233, 3) := by decide +kernel
theorem dX6_jokeTold_41 : decode cX6_jokeTold 41 = .ok (.ifCond .ne 10, 3) := by decide +kernel
theorem dX6_jokeTold_44 : decode cX6_jokeTold 44 = .ok (.aload_n 0, 1) := by decide +kernel
theorem dX6_jokeTold_45 : decode cX6_jokeTold 45 = .ok (.iload_n 1, 1) := by decide +kernel
theorem dX6_jokeTold_46 : decode cX6_jokeTold 46 = .ok (.iload_n 2, 1) := by decide +kernel
theorem dX6_jokeTold_47 : decode cX6_jokeTold 47 = .ok (.invokevirtual 135, 3) := by decide +kernel
theorem dX6_jokeTold_50 : decode cX6_jokeTold 50 = .ok (.istore_n 3, 1) := by decide +kernel
theorem dX6_jokeTold_51 : decode cX6_jokeTold 51 = .ok (.return_, 1) := by decide +kernel
theorem dX6_item_0 : decode cX6_item 0 = .ok (.aload_n 0, 1) := by decide +kernel
theorem dX6_item_1 : decode cX6_item 1 = .ok (.invokevirtual 289, 3) := by decide +kernel
theorem dX6_item_4 : decode cX6_item 4 = .ok (.istore_n 1, 1) := by decide +kernel
theorem dX6_item_5 : decode cX6_item 5 = .ok (.iload_n 1, 1) := by decide +kernel
theorem dX6_item_6 : decode cX6_item 6 = .ok (.ifCond .lt 11, 3) := by decide +kernel
theorem dX6_item_9 : decode cX6_item 9 = .ok (.aload_n 0, 1) := by decide +kernel
theorem dX6_item_10 : decode cX6_item 10 = .ok (.iload_n 1, 1) := by decide +kernel
theorem dX6_item_11 : decode cX6_item 11 = .ok (.invokevirtual 292, 3) := by decide +kernel
theorem dX6_item_14 : decode cX6_item 14 = .ok (.goto 70, 3) := by decide +kernel
theorem dX6_item_17 : decode cX6_item 17 = .ok (.aload_n 0, 1) := by decide +kernel
theorem dX6_item_18 : decode cX6_item 18 = .ok (.ldc_w 296, 3) := by decide +kernel
theorem dX6_item_21 : decode cX6_item 21 = .ok (.invokevirtual 249, 3) := by decide +kernel
theorem dX6_item_24 : decode cX6_item 24 = .ok (.ifCond .eq 10, 3) := by decide +kernel
theorem dX6_item_27 : decode cX6_item 27 = .ok (.aload_n 0, 1) := by decide +kernel
theorem dX6_item_28 : decode cX6_item 28 = .ok (.invokevirtual 298, 3) := by decide +kernel
theorem dX6_item_31 : decode cX6_item 31 = .ok (.goto 53, 3) := by decide +kernel
theorem dX6_item_34 : decode cX6_item 34 = .ok (.aload_n 0, 1) := by decide +kernel
theorem dX6_item_35 : decode cX6_item 35 = .ok (.ldc_w 301, 3) := by decide +kernel
theorem dX6_item_38 : decode cX6_item 38 = .ok (.invokevirtual 271, 3) := by decide +kernel
theorem dX6_item_41 : decode cX6_item 41 = .ok (.ifCond .eq 19, 3) := by decide +kernel
theorem dX6_item_44 : decode cX6_item 44 = .ok (.aload_n 0, 1) := by decide +kernel
theorem dX6_item_45 : decode cX6_item 45 = .ok (.getfield 9, 3) := by decide +kernel
theorem dX6_item_48 : decode cX6_item 48 = .ok (.iconst 0, 1) := by decide +kernel
theorem dX6_item_49 : decode cX6_item 49 = .ok (.aload_n 0, 1) := by decide +kernel
theorem dX6_item_50 : decode cX6_item 50 = .ok (.iconst 0, 1) := by decide +kernel
theorem dX6_item_51 : decode cX6_item 51 = .ok (.bipush 20, 2) := by decide +kernel
theorem dX6_item_53 : decode cX6_item 53 = .ok (.invokevirtual 274, 3) := by decide +kernel
theorem dX6_item_56 : decode cX6_item 56 = .ok (.iastore, 1) := by decide +kernel
theorem dX6_item_57 : decode cX6_item 57 = .ok (.goto 27, 3) := by decide +kernel
theorem dX6_item_60 : decode cX6_item 60 = .ok (.aload_n 0, 1) := by decide +kernel
theorem dX6_item_61 : decode cX6_item 61 = .ok (.aload_n 0, 1) := by decide +kernel
theorem dX6_item_62 : decode cX6_item 62 = .ok (.ldc_w 303, 3) := by decide +kernel
theorem dX6_item_65 : decode cX6_item 65 = .ok (.invokevirtual 249, 3) := by decide +kernel
theorem dX6_item_68 : decode cX6_item 68 = .ok (.invokevirtual 253, 3) := by decide +kernel
theorem dX6_item_71 : decode cX6_item 71 = .ok (.aload_n 0, 1) := by decide +kernel
theorem dX6_item_72 : decode cX6_item 72 = .ok (.getfield 9, 3) := by decide +kernel
theorem dX6_item_75 : decode cX6_item 75 = .ok (.iconst 1, 1) := by decide +kernel
theorem dX6_item_76 : decode cX6_item 76 = .ok (.aload_n 0, 1) := by decide +kernel
theorem dX6_item_77 : decode cX6_item 77 = .ok (.iconst 0, 1) := by decide +kernel
theorem dX6_item_78 : decode cX6_item 78 = .ok (.bipush 15, 2) := by decide +kernel
theorem dX6_item_80 : decode cX6_item 80 = .ok (.invokevirtual 274, 3) := by decide +kernel
theorem dX6_item_83 : decode cX6_item 83 = .ok (.iastore, 1) := by decide +kernel
theorem dX6_item_84 : decode cX6_item 84 = .ok (.return_, 1) := by decide +kernel
theorem dX6_text_0 : decode cX6_text 0 = .ok (.aload_n 0, 1) := by decide +kernel
theorem dX6_text_1 : decode cX6_text 1 = .ok (.invokevirtual 180, 3) := by decide +kernel
theorem dX6_text_4 : decode cX6_text 4 = .ok (.aload_n 0, 1) := by decide +kernel
theorem dX6_text_5 : decode cX6_text 5 = .ok (.iconst 0, 1) := by decide +kernel
theorem dX6_text_6 : decode cX6_text 6 = .ok (.putfield 233, 3) := by decide +kernel
theorem dX6_text_9 : decode cX6_text 9 = .ok (.aload_n 0, 1) := by decide +kernel
theorem dX6_text_10 : decode cX6_text 10 = .ok (.iconst 0, 1) := by decide +kernel
theorem dX6_text_11 : decode cX6_text 11 = .ok (.putfield 224, 3) := by decide +kernel
theorem dX6_text_14 : decode cX6_text 14 = .ok (.aload_n 0, 1) := by decide +kernel
theorem dX6_text_15 : decode cX6_text 15 = .ok (.invokevirtual 246, 3) := by decide +kernel
theorem dX6_text_18 : decode cX6_text 18 = .ok (.aload_n 0, 1) := by decide +kernel
theorem dX6_text_19 : decode cX6_text 19 = .ok (.invokevirtual 305, 3) := by decide +kernel
theorem dX6_text_22 : decode cX6_text 22 = .ok (.iconst 1, 1) := by decide +kernel
theorem dX6_text_23 : decode cX6_text 23 = .ok (.istore_n 1, 1) := by decide +kernel
theorem dX6_text_24 : decode cX6_text 24 = .ok (.aload_n 0, 1) := by decide +kernel
theorem dX6_text_25 : decode cX6_text 25 = .ok (.getfield 233, 3) := by decide +kernel
theorem dX6_text_28 : decode cX6_text 28 = .ok (.ifCond .ne 35, 3) := by decide +kernel
theorem dX6_text_31 : decode cX6_text 31 = .ok (.aload_n 0, 1) := by decide +kernel
theorem dX6_text_32 : decode cX6_text 32 = .ok (.getfield 227, 3) := by decide +kernel
theorem dX6_text_35 : decode cX6_text 35 = .ok (.aload_n 0, 1) := by decide +kernel
theorem dX6_text_36 : decode cX6_text 36 = .ok (.getfield 221, 3) := by decide +kernel
theorem dX6_text_39 : decode cX6_text 39 = .ok (.if_icmp .ge 24, 3) := by decide +kernel
theorem dX6_text_42 : decode cX6_text 42 = .ok (.aload_n 0, 1) := by decide +kernel
theorem dX6_text_43 : decode cX6_text 43 = .ok (.aload_n 0, 1) := by decide +kernel
theorem dX6_text_44 : decode cX6_text 44 = .ok (.ldc_w 308, 3) := by decide +kernel
theorem dX6_text_47 : decode cX6_text 47 = .ok (.invokevirtual 249, 3) := by decide +kernel
theorem dX6_text_50 : decode cX6_text 50 = .ok (.invokevirtual 253, 3) := by decide +kernel
theorem dX6_text_53 : decode cX6_text 53 = .ok (.aload_n 0, 1) := by decide +kernel
theorem dX6_text_54 : decode cX6_text 54 = .ok (.invokevirtual 305, 3) := by decide +kernel
theorem dX6_text_57 : decode cX6_text 57 = .ok (.iinc 1 1, 3) := by decide +kernel
theorem dX6_text_60 : decode cX6_text 60 = .ok (.goto (-36), 3) := by decide +kernel
theorem dX6_text_63 : decode cX6_text 63 = .ok (.aload_n 0, 1) := by decide +kernel
theorem dX6_text_64 : decode cX6_text 64 = .ok (.iconst 0, 1) := by decide +kernel
theorem dX6_text_65 : decode cX6_text 65 = .ok (.putfield 221, 3) := by decide +kernel
theorem dX6_text_68 : decode cX6_text 68 = .ok (.aload_n 0, 1) := by decide +kernel
theorem dX6_text_69 : decode cX6_text 69 = .ok (.getfield 233, 3) := by decide +kernel
theorem dX6_text_72 : decode cX6_text 72 = .ok (.ifCond .eq 14, 3) := by decide +kernel
theorem dX6_text_75 : decode cX6_text 75 = .ok (.aload_n 0, 1) := by decide +kernel
theorem dX6_text_76 : decode cX6_text 76 = .ok (.invokevirtual 183, 3) := by decide +kernel
theorem dX6_text_79 : decode cX6_text 79 = .ok (.iconst (-1), 1) := by decide +kernel
theorem dX6_text_80 : decode cX6_text 80 = .ok (.aload_n 0, 1) := by decide +kernel
theorem dX6_text_81 : decode cX6_text 81 = .ok (.getfield 227, 3) := by decide +kernel
theorem dX6_text_84 : decode cX6_text 84 = .ok (.isub, 1) := by decide +kernel
theorem dX6_text_85 : decode cX6_text 85 = .ok (.ireturn, 1) := by decide +kernel
theorem dX6_text_86 : decode cX6_text 86 = .ok (.iload_n 1, 1) := by decide +kernel
theorem dX6_text_87 : decode cX6_text 87 = .ok (.ireturn, 1) := by decide +kernel
theorem dX6_isSpot_0 : decode cX6_isSpot 0 = .ok (.iload_n 0, 1) := by decide +kernel
theorem dX6_isSpot_1 : decode cX6_isSpot 1 = .ok (.i2l, 1) := by decide +kernel
theorem dX6_isSpot_2 : decode cX6_isSpot 2 = .ok (.lconst 0, 1) := by decide +kernel
theorem dX6_isSpot_3 : decode cX6_isSpot 3 = .ok (.ldc2_w 56, 3) := by decide +kernel
theorem dX6_isSpot_6 : decode cX6_isSpot 6 = .ok (.invokestatic 48, 3) := by decide +kernel
theorem dX6_isSpot_9 : decode cX6_isSpot 9 = .ok (.ireturn, 1) := by decide +kernel
theorem dX6_hold_0 : decode cX6_hold 0 = .ok (.iload_n 1, 1) := by decide +kernel
theorem dX6_hold_1 : decode cX6_hold 1 = .ok (.invokestatic 310, 3) := by decide +kernel
theorem dX6_hold_4 : decode cX6_hold 4 = .ok (.ifCond .eq 16, 3) := by decide +kernel
theorem dX6_hold_7 : decode cX6_hold 7 = .ok (.iload_n 2, 1) := by decide +kernel
theorem dX6_hold_8 : decode cX6_hold 8 = .ok (.iconst (-1), 1) := by decide +kernel
theorem dX6_hold_9 : decode cX6_hold 9 = .ok (.if_icmp .eq 17, 3) := by decide +kernel
theorem dX6_hold_12 : decode cX6_hold 12 = .ok (.aload_n 0, 1) := by decide +kernel
theorem dX6_hold_13 : decode cX6_hold 13 = .ok (.iload_n 2, 1) := by decide +kernel
theorem dX6_hold_14 : decode cX6_hold 14 = .ok (.invokevirtual 109, 3) := by decide +kernel
theorem dX6_hold_17 : decode cX6_hold 17 = .ok (.ifCond .ne 9, 3) := by decide +kernel
theorem dX6_hold_20 : decode cX6_hold 20 = .ok (.aload_n 0, 1) := by decide +kernel
theorem dX6_hold_21 : decode cX6_hold 21 = .ok (.iconst 0, 1) := by decide +kernel
theorem dX6_hold_22 : decode cX6_hold 22 = .ok (.invokevirtual 103, 3) := by decide +kernel
theorem dX6_hold_25 : decode cX6_hold 25 = .ok (.ireturn, 1) := by decide +kernel
theorem dX6_hold_26 : decode cX6_hold 26 = .ok (.aload_n 0, 1) := by decide +kernel
theorem dX6_hold_27 : decode cX6_hold 27 = .ok (.getfield 9, 3) := by decide +kernel
theorem dX6_hold_30 : decode cX6_hold 30 = .ok (.bipush 63, 2) := by decide +kernel
theorem dX6_hold_32 : decode cX6_hold 32 = .ok (.iload_n 1, 1) := by decide +kernel
theorem dX6_hold_33 : decode cX6_hold 33 = .ok (.iadd, 1) := by decide +kernel
theorem dX6_hold_34 : decode cX6_hold 34 = .ok (.iload_n 2, 1) := by decide +kernel
theorem dX6_hold_35 : decode cX6_hold 35 = .ok (.iastore, 1) := by decide +kernel
theorem dX6_hold_36 : decode cX6_hold 36 = .ok (.iconst 1, 1) := by decide +kernel
theorem dX6_hold_37 : decode cX6_hold 37 = .ok (.ireturn, 1) := by decide +kernel
theorem dX6_as_0 : decode cX6_as 0 = .ok (.iload_n 1, 1) := by decide +kernel
theorem dX6_as_1 : decode cX6_as 1 = .ok (.invokestatic 310, 3) := by decide +kernel
theorem dX6_as_4 : decode cX6_as 4 = .ok (.ifCond .eq 10, 3) := by decide +kernel
theorem dX6_as_7 : decode cX6_as 7 = .ok (.iload_n 2, 1) := by decide +kernel
theorem dX6_as_8 : decode cX6_as 8 = .ok (.invokestatic 96, 3) := by decide +kernel
theorem dX6_as_11 : decode cX6_as 11 = .ok (.ifCond .ne 9, 3) := by decide +kernel
theorem dX6_as_14 : decode cX6_as 14 = .ok (.aload_n 0, 1) := by decide +kernel
theorem dX6_as_15 : decode cX6_as 15 = .ok (.iconst 0, 1) := by decide +kernel
theorem dX6_as_16 : decode cX6_as 16 = .ok (.invokevirtual 103, 3) := by decide +kernel
theorem dX6_as_19 : decode cX6_as 19 = .ok (.ireturn, 1) := by decide +kernel
theorem dX6_as_20 : decode cX6_as 20 = .ok (.aload_n 0, 1) := by decide +kernel
theorem dX6_as_21 : decode cX6_as 21 = .ok (.getfield 9, 3) := by decide +kernel
theorem dX6_as_24 : decode cX6_as 24 = .ok (.bipush 63, 2) := by decide +kernel
theorem dX6_as_26 : decode cX6_as 26 = .ok (.iload_n 1, 1) := by decide +kernel
theorem dX6_as_27 : decode cX6_as 27 = .ok (.iadd, 1) := by decide +kernel
theorem dX6_as_28 : decode cX6_as 28 = .ok (.iaload, 1) := by decide +kernel
theorem dX6_as_29 : decode cX6_as 29 = .ok (.istore_n 3, 1) := by decide +kernel
theorem dX6_as_30 : decode cX6_as 30 = .ok (.iload_n 3, 1) := by decide +kernel
theorem dX6_as_31 : decode cX6_as 31 = .ok (.ifCond .ge 9, 3) := by decide +kernel
theorem dX6_as_34 : decode cX6_as 34 = .ok (.aload_n 0, 1) := by decide +kernel
theorem dX6_as_35 : decode cX6_as 35 = .ok (.iconst 5, 1) := by decide +kernel
theorem dX6_as_36 : decode cX6_as 36 = .ok (.invokevirtual 103, 3) := by decide +kernel
theorem dX6_as_39 : decode cX6_as 39 = .ok (.ireturn, 1) := by decide +kernel
theorem dX6_as_40 : decode cX6_as 40 = .ok (.aload_n 0, 1) := by decide +kernel
theorem dX6_as_41 : decode cX6_as 41 = .ok (.iload_n 3, 1) := by decide +kernel
theorem dX6_as_42 : decode cX6_as 42 = .ok (.iconst 0, 1) := by decide +kernel
theorem dX6_as_43 : decode cX6_as 43 = .ok (.invokevirtual 64, 3) := by decide +kernel
theorem dX6_as_46 : decode cX6_as 46 = .ok (.iload_n 2, 1) := by decide +kernel
theorem dX6_as_47 : decode cX6_as 47 = .ok (.invokestatic 313, 3) := by decide +kernel
theorem dX6_as_50 : decode cX6_as 50 = .ok (.ifCond .eq 7, 3) := by decide +kernel
theorem dX6_as_53 : decode cX6_as 53 = .ok (.iload_n 3, 1) := by decide +kernel
theorem dX6_as_54 : decode cX6_as 54 = .ok (.goto 8, 3) := by decide +kernel
theorem dX6_as_57 : decode cX6_as 57 = .ok (.aload_n 0, 1) := by decide +kernel
theorem dX6_as_58 : decode cX6_as 58 = .ok (.iconst 2, 1) := by decide +kernel
theorem dX6_as_59 : decode cX6_as 59 = .ok (.invokevirtual 103, 3) := by decide +kernel
theorem dX6_as_62 : decode cX6_as 62 = .ok (.ireturn, 1) := by decide +kernel
theorem dX6_isSheet_0 : decode cX6_isSheet 0 = .ok (.iload_n 0, 1) := by decide +kernel
theorem dX6_isSheet_1 : decode cX6_isSheet 1 = .ok (.i2l, 1) := by decide +kernel
theorem dX6_isSheet_2 : decode cX6_isSheet 2 = .ok (.lconst 0, 1) := by decide +kernel
theorem dX6_isSheet_3 : decode cX6_isSheet 3 = .ok (.ldc2_w 316, 3) := by decide +kernel
theorem dX6_isSheet_6 : decode cX6_isSheet 6 = .ok (.invokestatic 48, 3) := by decide +kernel
theorem dX6_isSheet_9 : decode cX6_isSheet 9 = .ok (.ireturn, 1) := by decide +kernel
theorem dX6_sheet_0 : decode cX6_sheet 0 = .ok (.iload_n 2, 1) := by decide +kernel
theorem dX6_sheet_1 : decode cX6_sheet 1 = .ok (.ifCond .eq 21, 3) := by decide +kernel
theorem dX6_sheet_4 : decode cX6_sheet 4 = .ok (.iload_n 2, 1) := by decide +kernel
theorem dX6_sheet_5 : decode cX6_sheet 5 = .ok (.bipush 8, 2) := by decide +kernel
theorem dX6_sheet_7 : decode cX6_sheet 7 = .ok (.if_icmp .eq 15, 3) := by decide +kernel
theorem dX6_sheet_10 : decode cX6_sheet 10 = .ok (.iload_n 2, 1) := by decide +kernel
theorem dX6_sheet_11 : decode cX6_sheet 11 = .ok (.bipush 16, 2) := by decide +kernel
theorem dX6_sheet_13 : decode cX6_sheet 13 = .ok (.if_icmp .eq 9, 3) := by decide +kernel
theorem dX6_sheet_16 : decode cX6_sheet 16 = .ok (.iload_n 2, 1) := by decide +kernel
theorem dX6_sheet_17 : decode cX6_sheet 17 = .ok (.bipush 32, 2) := by decide +kernel
theorem dX6_sheet_19 : decode cX6_sheet 19 = .ok (.if_icmp .ne 7, 3) := by decide +kernel
theorem dX6_sheet_22 : decode cX6_sheet 22 = .ok (.iconst 1, 1) := by decide +kernel
theorem dX6_sheet_23 : decode cX6_sheet 23 = .ok (.goto 4, 3) := by decide +kernel
theorem dX6_sheet_26 : decode cX6_sheet 26 = .ok (.iconst 0, 1) := by decide +kernel
theorem dX6_sheet_27 : decode cX6_sheet 27 = .ok (.istore 4, 2) := by decide +kernel
theorem dX6_sheet_29 : decode cX6_sheet 29 = .ok (.iload_n 1, 1) := by decide +kernel
theorem dX6_sheet_30 : decode cX6_sheet 30 = .ok (.invokestatic 318, 3) := by decide +kernel
theorem dX6_sheet_33 : decode cX6_sheet 33 = .ok (.ifCond .eq 8, 3) := by decide +kernel
theorem dX6_sheet_36 : decode cX6_sheet 36 = .ok (.iload 4, 2) := by decide +kernel
theorem dX6_sheet_38 : decode cX6_sheet 38 = .ok (.ifCond .ne 9, 3) := by decide +kernel
theorem dX6_sheet_41 : decode cX6_sheet 41 = .ok (.aload_n 0, 1) := by decide +kernel
theorem dX6_sheet_42 : decode cX6_sheet 42 = .ok (.iconst 0, 1) := by decide +kernel
theorem dX6_sheet_43 : decode cX6_sheet 43 = .ok (.invokevirtual 103, 3) := by decide +kernel
theorem dX6_sheet_46 : decode cX6_sheet 46 = .ok (.ireturn, 1) := by decide +kernel
theorem dX6_sheet_47 : decode cX6_sheet 47 = .ok (.iload_n 3, 1) := by decide +kernel
theorem dX6_sheet_48 : decode cX6_sheet 48 = .ok (.ifCond .ge 10, 3) := by decide +kernel
theorem dX6_sheet_51 : decode cX6_sheet 51 = .ok (.aload_n 0, 1) := by decide +kernel
theorem dX6_sheet_52 : decode cX6_sheet 52 = .ok (.bipush 6, 2) := by decide +kernel
theorem dX6_sheet_54 : decode cX6_sheet 54 = .ok (.invokevirtual 103, 3) := by decide +kernel
theorem dX6_sheet_57 : decode cX6_sheet 57 = .ok (.ireturn, 1) := by decide +kernel
theorem dX6_sheet_58 : decode cX6_sheet 58 = .ok (.iload_n 3, 1) := by decide +kernel
theorem dX6_sheet_59 : decode cX6_sheet 59 = .ok (.bipush 40, 2) := by decide +kernel
theorem dX6_sheet_61 : decode cX6_sheet 61 = .ok (.if_icmp .le 9, 3) := by decide +kernel
theorem dX6_sheet_64 : decode cX6_sheet 64 = .ok (.aload_n 0, 1) := by decide +kernel
theorem dX6_sheet_65 : decode cX6_sheet 65 = .ok (.iconst 0, 1) := by decide +kernel
theorem dX6_sheet_66 : decode cX6_sheet 66 = .ok (.invokevirtual 103, 3) := by decide +kernel
theorem dX6_sheet_69 : decode cX6_sheet 69 = .ok (.ireturn, 1) := by decide +kernel
theorem dX6_sheet_70 : decode cX6_sheet 70 = .ok (.aload_n 0, 1) := by decide +kernel
theorem dX6_sheet_71 : decode cX6_sheet 71 = .ok (.getfield 31, 3) := by decide +kernel
theorem dX6_sheet_74 : decode cX6_sheet 74 = .ok (.iload_n 1, 1) := by decide +kernel
theorem dX6_sheet_75 : decode cX6_sheet 75 = .ok (.iload_n 2, 1) := by decide +kernel
theorem dX6_sheet_76 : decode cX6_sheet 76 = .ok (.iastore, 1) := by decide +kernel
theorem dX6_sheet_77 : decode cX6_sheet 77 = .ok (.aload_n 0, 1) := by decide +kernel
theorem dX6_sheet_78 : decode cX6_sheet 78 = .ok (.getfield 34, 3) := by decide +kernel
theorem dX6_sheet_81 : decode cX6_sheet 81 = .ok (.iload_n 1, 1) := by decide +kernel
theorem dX6_sheet_82 : decode cX6_sheet 82 = .ok (.iload_n 2, 1) := by decide +kernel
theorem dX6_sheet_83 : decode cX6_sheet 83 = .ok (.ifCond .ne 7, 3) := by decide +kernel
theorem dX6_sheet_86 : decode cX6_sheet 86 = .ok (.iconst 0, 1) := by decide +kernel
theorem dX6_sheet_87 : decode cX6_sheet 87 = .ok (.goto 4, 3) := by decide +kernel
theorem dX6_sheet_90 : decode cX6_sheet 90 = .ok (.iload_n 3, 1) := by decide +kernel
theorem dX6_sheet_91 : decode cX6_sheet 91 = .ok (.iastore, 1) := by decide +kernel
theorem dX6_sheet_92 : decode cX6_sheet 92 = .ok (.iconst 0, 1) := by decide +kernel
theorem dX6_sheet_93 : decode cX6_sheet 93 = .ok (.istore 5, 2) := by decide +kernel
theorem dX6_sheet_95 : decode cX6_sheet 95 = .ok (.iload 5, 2) := by decide +kernel
theorem dX6_sheet_97 : decode cX6_sheet 97 = .ok (.bipush 40, 2) := by decide +kernel
theorem dX6_sheet_99 : decode cX6_sheet 99 = .ok (.if_icmp .ge 22, 3) := by decide +kernel
theorem dX6_sheet_102 : decode cX6_sheet 102 = .ok (.aload_n 0, 1) := by decide +kernel
theorem dX6_sheet_103 : decode cX6_sheet 103 = .ok (.getfield 37, 3) := by decide +kernel
theorem dX6_sheet_106 : decode cX6_sheet 106 = .ok (.bipush 40, 2) := by decide +kernel
theorem dX6_sheet_108 : decode cX6_sheet 108 = .ok (.iload_n 1, 1) := by decide +kernel
theorem dX6_sheet_109 : decode cX6_sheet 109 = .ok (.imul, 1) := by decide +kernel
theorem dX6_sheet_110 : decode cX6_sheet 110 = .ok (.iload 5, 2) := by decide +kernel
theorem dX6_sheet_112 : decode cX6_sheet 112 = .ok (.iadd, 1) := by decide +kernel
theorem dX6_sheet_113 : decode cX6_sheet 113 = .ok (.iconst 0, 1) := by decide +kernel
theorem dX6_sheet_114 : decode cX6_sheet 114 = .ok (.iastore, 1) := by decide +kernel
theorem dX6_sheet_115 : decode cX6_sheet 115 = .ok (.iinc 5 1, 3) := by decide +kernel
theorem dX6_sheet_118 : decode cX6_sheet 118 = .ok (.goto (-23), 3) := by decide +kernel
theorem dX6_sheet_121 : decode cX6_sheet 121 = .ok (.aload_n 0, 1) := by decide +kernel
theorem dX6_sheet_122 : decode cX6_sheet 122 = .ok (.getfield 34, 3) := by decide +kernel
theorem dX6_sheet_125 : decode cX6_sheet 125 = .ok (.iload_n 1, 1) := by decide +kernel
theorem dX6_sheet_126 : decode cX6_sheet 126 = .ok (.iaload, 1) := by decide +kernel
theorem dX6_sheet_127 : decode cX6_sheet 127 = .ok (.ireturn, 1) := by decide +kernel
theorem dX6_lacks_0 : decode cX6_lacks 0 = .ok (.iload_n 1, 1) := by decide +kernel
theorem dX6_lacks_1 : decode cX6_lacks 1 = .ok (.invokestatic 318, 3) := by decide +kernel
theorem dX6_lacks_4 : decode cX6_lacks 4 = .ok (.ifCond .ne 7, 3) := by decide +kernel
theorem dX6_lacks_7 : decode cX6_lacks 7 = .ok (.iconst 0, 1) := by decide +kernel
theorem dX6_lacks_8 : decode cX6_lacks 8 = .ok (.goto 17, 3) := by decide +kernel
theorem dX6_lacks_11 : decode cX6_lacks 11 = .ok (.aload_n 0, 1) := by decide +kernel
theorem dX6_lacks_12 : decode cX6_lacks 12 = .ok (.getfield 31, 3) := by decide +kernel
theorem dX6_lacks_15 : decode cX6_lacks 15 = .ok (.iload_n 1, 1) := by decide +kernel
theorem dX6_lacks_16 : decode cX6_lacks 16 = .ok (.iaload, 1) := by decide +kernel
theorem dX6_lacks_17 : decode cX6_lacks 17 = .ok (.ifCond .ne 7, 3) := by decide +kernel
theorem dX6_lacks_20 : decode cX6_lacks 20 = .ok (.iconst 5, 1) := by decide +kernel
theorem dX6_lacks_21 : decode cX6_lacks 21 = .ok (.goto 4, 3) := by decide +kernel
theorem dX6_lacks_24 : decode cX6_lacks 24 = .ok (.iconst (-1), 1) := by decide +kernel
theorem dX6_lacks_25 : decode cX6_lacks 25 = .ok (.ireturn, 1) := by decide +kernel
theorem dX6_write_0 : decode cX6_write 0 = .ok (.aload_n 0, 1) := by decide +kernel
theorem dX6_write_1 : decode cX6_write 1 = .ok (.iload_n 1, 1) := by decide +kernel
theorem dX6_write_2 : decode cX6_write 2 = .ok (.invokevirtual 204, 3) := by decide +kernel
theorem dX6_write_5 : decode cX6_write 5 = .ok (.istore 4, 2) := by decide +kernel
theorem dX6_write_7 : decode cX6_write 7 = .ok (.iload 4, 2) := by decide +kernel
theorem dX6_write_9 : decode cX6_write 9 = .ok (.ifCond .lt 10, 3) := by decide +kernel
theorem dX6_write_12 : decode cX6_write 12 = .ok (.aload_n 0, 1) := by decide +kernel
theorem dX6_write_13 : decode cX6_write 13 = .ok (.iload 4, 2) := by decide +kernel
theorem dX6_write_15 : decode cX6_write 15 = .ok (.invokevirtual 103, 3) := by decide +kernel
theorem dX6_write_18 : decode cX6_write 18 = .ok (.ireturn, 1) := by decide +kernel
theorem dX6_write_19 : decode cX6_write 19 = .ok (.iload_n 2, 1) := by decide +kernel
theorem dX6_write_20 : decode cX6_write 20 = .ok (.i2l, 1) := by decide +kernel
theorem dX6_write_21 : decode cX6_write 21 = .ok (.lconst 0, 1) := by decide +kernel
theorem dX6_write_22 : decode cX6_write 22 = .ok (.aload_n 0, 1) := by decide +kernel
theorem dX6_write_23 : decode cX6_write 23 = .ok (.getfield 34, 3) := by decide +kernel
theorem dX6_write_26 : decode cX6_write 26 = .ok (.iload_n 1, 1) := by decide +kernel
theorem dX6_write_27 : decode cX6_write 27 = .ok (.iaload, 1) := by decide +kernel
theorem dX6_write_28 : decode cX6_write 28 = .ok (.iconst 1, 1) := by decide +kernel
theorem dX6_write_29 : decode cX6_write 29 = .ok (.isub, 1) := by decide +kernel
theorem dX6_write_30 : decode cX6_write 30 = .ok (.i2l, 1) := by decide +kernel
theorem dX6_write_31 : decode cX6_write 31 = .ok (.invokestatic 48, 3) := by decide +kernel
theorem dX6_write_34 : decode cX6_write 34 = .ok (.ifCond .ne 9, 3) := by decide +kernel
theorem dX6_write_37 : decode cX6_write 37 = .ok (.aload_n 0, 1) := by decide +kernel
theorem dX6_write_38 : decode cX6_write 38 = .ok (.iconst 0, 1) := by decide +kernel
theorem dX6_write_39 : decode cX6_write 39 = .ok (.invokevirtual 103, 3) := by decide +kernel
theorem dX6_write_42 : decode cX6_write 42 = .ok (.ireturn, 1) := by decide +kernel
theorem dX6_write_43 : decode cX6_write 43 = .ok (.aload_n 0, 1) := by decide +kernel
theorem dX6_write_44 : decode cX6_write 44 = .ok (.getfield 37, 3) := by decide +kernel
theorem dX6_write_47 : decode cX6_write 47 = .ok (.bipush 40, 2) := by decide +kernel
theorem dX6_write_49 : decode cX6_write 49 = .ok (.iload_n 1, 1) := by decide +kernel
theorem dX6_write_50 : decode cX6_write 50 = .ok (.imul, 1) := by decide +kernel
theorem dX6_write_51 : decode cX6_write 51 = .ok (.iload_n 2, 1) := by decide +kernel
theorem dX6_write_52 : decode cX6_write 52 = .ok (.iadd, 1) := by decide +kernel
theorem dX6_write_53 : decode cX6_write 53 = .ok (.aload_n 0, 1) := by decide +kernel
theorem dX6_write_54 : decode cX6_write 54 = .ok (.getfield 31, 3) := by decide +kernel
theorem dX6_write_57 : decode cX6_write 57 = .ok (.iload_n 1, 1) := by decide +kernel
theorem dX6_write_58 : decode cX6_write 58 = .ok (.iaload, 1) := by decide +kernel
theorem dX6_write_59 : decode cX6_write 59 = .ok (.bipush 8, 2) := by decide +kernel
theorem dX6_write_61 : decode cX6_write 61 = .ok (.if_icmp .ne 8, 3) := by decide +kernel
theorem dX6_write_64 : decode cX6_write 64 = .ok (.iload_n 3, 1) := by decide +kernel
theorem dX6_write_65 : decode cX6_write 65 = .ok (.i2b, 1) := by decide +kernel
theorem dX6_write_66 : decode cX6_write 66 = .ok (.goto 20, 3) := by decide +kernel
theorem dX6_write_69 : decode cX6_write 69 = .ok (.aload_n 0, 1) := by decide +kernel
theorem dX6_write_70 : decode cX6_write 70 = .ok (.getfield 31, 3) := by decide +kernel
theorem dX6_write_73 : decode cX6_write 73 = .ok (.iload_n 1, 1) := by decide +kernel
theorem dX6_write_74 : decode cX6_write 74 = .ok (.iaload, 1) := by decide +kernel
theorem dX6_write_75 : decode cX6_write 75 = .ok (.bipush 16, 2) := by decide +kernel
theorem dX6_write_77 : decode cX6_write 77 = .ok (.if_icmp .ne 8, 3) := by decide +kernel
theorem dX6_write_80 : decode cX6_write 80 = .ok (.iload_n 3, 1) := by decide +kernel
theorem dX6_write_81 : decode cX6_write 81 = .ok (.i2s, 1) := by decide +kernel
theorem dX6_write_82 : decode cX6_write 82 = .ok (.goto 4, 3) := by decide +kernel
theorem dX6_write_85 : decode cX6_write 85 = .ok (.iload_n 3, 1) := by decide +kernel
theorem dX6_write_86 : decode cX6_write 86 = .ok (.iastore, 1) := by decide +kernel
theorem dX6_write_87 : decode cX6_write 87 = .ok (.iconst 1, 1) := by decide +kernel
theorem dX6_write_88 : decode cX6_write 88 = .ok (.ireturn, 1) := by decide +kernel
theorem dX6_copy_0 : decode cX6_copy 0 = .ok (.iload_n 1, 1) := by decide +kernel
theorem dX6_copy_1 : decode cX6_copy 1 = .ok (.invokestatic 318, 3) := by decide +kernel
theorem dX6_copy_4 : decode cX6_copy 4 = .ok (.ifCond .eq 10, 3) := by decide +kernel
theorem dX6_copy_7 : decode cX6_copy 7 = .ok (.iload_n 3, 1) := by decide +kernel
theorem dX6_copy_8 : decode cX6_copy 8 = .ok (.invokestatic 318, 3) := by decide +kernel
theorem dX6_copy_11 : decode cX6_copy 11 = .ok (.ifCond .ne 9, 3) := by decide +kernel
theorem dX6_copy_14 : decode cX6_copy 14 = .ok (.aload_n 0, 1) := by decide +kernel
theorem dX6_copy_15 : decode cX6_copy 15 = .ok (.iconst 0, 1) := by decide +kernel
theorem dX6_copy_16 : decode cX6_copy 16 = .ok (.invokevirtual 103, 3) := by decide +kernel
theorem dX6_copy_19 : decode cX6_copy 19 = .ok (.ireturn, 1) := by decide +kernel
theorem dX6_copy_20 : decode cX6_copy 20 = .ok (.aload_n 0, 1) := by decide +kernel
theorem dX6_copy_21 : decode cX6_copy 21 = .ok (.getfield 31, 3) := by decide +kernel
theorem dX6_copy_24 : decode cX6_copy 24 = .ok (.iload_n 1, 1) := by decide +kernel
theorem dX6_copy_25 : decode cX6_copy 25 = .ok (.iaload, 1) := by decide +kernel
theorem dX6_copy_26 : decode cX6_copy 26 = .ok (.ifCond .eq 12, 3) := by decide +kernel
theorem dX6_copy_29 : decode cX6_copy 29 = .ok (.aload_n 0, 1) := by decide +kernel
theorem dX6_copy_30 : decode cX6_copy 30 = .ok (.getfield 31, 3) := by decide +kernel
theorem dX6_copy_33 : decode cX6_copy 33 = .ok (.iload_n 3, 1) := by decide +kernel
theorem dX6_copy_34 : decode cX6_copy 34 = .ok (.iaload, 1) := by decide +kernel
theorem dX6_copy_35 : decode cX6_copy 35 = .ok (.ifCond .ne 9, 3) := by decide +kernel
theorem dX6_copy_38 : decode cX6_copy 38 = .ok (.aload_n 0, 1) := by decide +kernel
theorem dX6_copy_39 : decode cX6_copy 39 = .ok (.iconst 5, 1) := by decide +kernel
theorem dX6_copy_40 : decode cX6_copy 40 = .ok (.invokevirtual 103, 3) := by decide +kernel
theorem dX6_copy_43 : decode cX6_copy 43 = .ok (.ireturn, 1) := by decide +kernel
theorem dX6_copy_44 : decode cX6_copy 44 = .ok (.aload_n 0, 1) := by decide +kernel
theorem dX6_copy_45 : decode cX6_copy 45 = .ok (.getfield 31, 3) := by decide +kernel
theorem dX6_copy_48 : decode cX6_copy 48 = .ok (.iload_n 1, 1) := by decide +kernel
theorem dX6_copy_49 : decode cX6_copy 49 = .ok (.iaload, 1) := by decide +kernel
theorem dX6_copy_50 : decode cX6_copy 50 = .ok (.aload_n 0, 1) := by decide +kernel
theorem dX6_copy_51 : decode cX6_copy 51 = .ok (.getfield 31, 3) := by decide +kernel
theorem dX6_copy_54 : decode cX6_copy 54 = .ok (.iload_n 3, 1) := by decide +kernel
theorem dX6_copy_55 : decode cX6_copy 55 = .ok (.iaload, 1) := by decide +kernel
theorem dX6_copy_56 : decode cX6_copy 56 = .ok (.if_icmp .eq 9, 3) := by decide +kernel
theorem dX6_copy_59 : decode cX6_copy 59 = .ok (.aload_n 0, 1) := by decide +kernel
theorem dX6_copy_60 : decode cX6_copy 60 = .ok (.iconst 2, 1) := by decide +kernel
theorem dX6_copy_61 : decode cX6_copy 61 = .ok (.invokevirtual 103, 3) := by decide +kernel
theorem dX6_copy_64 : decode cX6_copy 64 = .ok (.ireturn, 1) := by decide +kernel
theorem dX6_copy_65 : decode cX6_copy 65 = .ok (.iload 5, 2) := by decide +kernel
theorem dX6_copy_67 : decode cX6_copy 67 = .ok (.ifCond .lt 51, 3) := by decide +kernel
theorem dX6_copy_70 : decode cX6_copy 70 = .ok (.iload_n 2, 1) := by decide +kernel
theorem dX6_copy_71 : decode cX6_copy 71 = .ok (.ifCond .lt 47, 3) := by decide +kernel
theorem dX6_copy_74 : decode cX6_copy 74 = .ok (.iload 4, 2) := by decide +kernel
theorem dX6_copy_76 : decode cX6_copy 76 = .ok (.ifCond .lt 42, 3) := by decide +kernel
theorem dX6_copy_79 : decode cX6_copy 79 = .ok (.iload_n 2, 1) := by decide +kernel
theorem dX6_copy_80 : decode cX6_copy 80 = .ok (.i2l, 1) := by decide +kernel
theorem dX6_copy_81 : decode cX6_copy 81 = .ok (.iload 5, 2) := by decide +kernel
theorem dX6_copy_83 : decode cX6_copy 83 = .ok (.i2l, 1) := by decide +kernel
theorem dX6_copy_84 : decode cX6_copy 84 = .ok (.ladd, 1) := by decide +kernel
theorem dX6_copy_85 : decode cX6_copy 85 = .ok (.aload_n 0, 1) := by decide +kernel
theorem dX6_copy_86 : decode cX6_copy 86 = .ok (.getfield 34, 3) := by decide +kernel
theorem dX6_copy_89 : decode cX6_copy 89 = .ok (.iload_n 1, 1) := by decide +kernel
theorem dX6_copy_90 : decode cX6_copy 90 = .ok (.iaload, 1) := by decide +kernel
theorem dX6_copy_91 : decode cX6_copy 91 = .ok (.i2l, 1) := by decide +kernel
theorem dX6_copy_92 : decode cX6_copy 92 = .ok (.lcmp, 1) := by decide +kernel
theorem dX6_copy_93 : decode cX6_copy 93 = .ok (.ifCond .gt 25, 3) := by decide +kernel
theorem dX6_copy_96 : decode cX6_copy 96 = .ok (.iload 4, 2) := by decide +kernel
theorem dX6_copy_98 : decode cX6_copy 98 = .ok (.i2l, 1) := by decide +kernel
theorem dX6_copy_99 : decode cX6_copy 99 = .ok (.iload 5, 2) := by decide +kernel
theorem dX6_copy_101 : decode cX6_copy 101 = .ok (.i2l, 1) := by decide +kernel
theorem dX6_copy_102 : decode cX6_copy 102 = .ok (.ladd, 1) := by decide +kernel
theorem dX6_copy_103 : decode cX6_copy 103 = .ok (.aload_n 0, 1) := by decide +kernel
theorem dX6_copy_104 : decode cX6_copy 104 = .ok (.getfield 34, 3) := by decide +kernel
theorem dX6_copy_107 : decode cX6_copy 107 = .ok (.iload_n 3, 1) := by decide +kernel
theorem dX6_copy_108 : decode cX6_copy 108 = .ok (.iaload, 1) := by decide +kernel
theorem dX6_copy_109 : decode cX6_copy 109 = .ok (.i2l, 1) := by decide +kernel
theorem dX6_copy_110 : decode cX6_copy 110 = .ok (.lcmp, 1) := by decide +kernel
theorem dX6_copy_111 : decode cX6_copy 111 = .ok (.ifCond .gt 7, 3) := by decide +kernel
theorem dX6_copy_114 : decode cX6_copy 114 = .ok (.iconst 1, 1) := by decide +kernel
theorem dX6_copy_115 : decode cX6_copy 115 = .ok (.goto 4, 3) := by decide +kernel
theorem dX6_copy_118 : decode cX6_copy 118 = .ok (.iconst 0, 1) := by decide +kernel
theorem dX6_copy_119 : decode cX6_copy 119 = .ok (.istore 6, 2) := by decide +kernel
theorem dX6_copy_121 : decode cX6_copy 121 = .ok (.iload 6, 2) := by decide +kernel
theorem dX6_copy_123 : decode cX6_copy 123 = .ok (.ifCond .ne 9, 3) := by decide +kernel
theorem dX6_copy_126 : decode cX6_copy 126 = .ok (.aload_n 0, 1) := by decide +kernel
theorem dX6_copy_127 : decode cX6_copy 127 = .ok (.iconst 0, 1) := by decide +kernel
theorem dX6_copy_128 : decode cX6_copy 128 = .ok (.invokevirtual 103, 3) := by decide +kernel
theorem dX6_copy_131 : decode cX6_copy 131 = .ok (.ireturn, 1) := by decide +kernel
theorem dX6_copy_132 : decode cX6_copy 132 = .ok (.iconst 0, 1) := by decide +kernel
theorem dX6_copy_133 : decode cX6_copy 133 = .ok (.istore 7, 2) := by decide +kernel
theorem dX6_copy_135 : decode cX6_copy 135 = .ok (.iload 7, 2) := by decide +kernel
theorem dX6_copy_137 : decode cX6_copy 137 = .ok (.iload 5, 2) := by decide +kernel
theorem dX6_copy_139 : decode cX6_copy 139 = .ok (.if_icmp .ge 30, 3) := by decide +kernel
theorem dX6_copy_142 : decode cX6_copy 142 = .ok (.aload_n 0, 1) := by decide +kernel
theorem dX6_copy_143 : decode cX6_copy 143 = .ok (.getfield 40, 3) := by decide +kernel
theorem dX6_copy_146 : decode cX6_copy 146 = .ok (.iload 7, 2) := by decide +kernel
theorem dX6_copy_148 : decode cX6_copy 148 = .ok (.aload_n 0, 1) := by decide +kernel
theorem dX6_copy_149 : decode cX6_copy 149 = .ok (.getfield 37, 3) := by decide +kernel
theorem dX6_copy_152 : decode cX6_copy 152 = .ok (.bipush 40, 2) := by decide +kernel
theorem dX6_copy_154 : decode cX6_copy 154 = .ok (.iload_n 1, 1) := by decide +kernel
theorem dX6_copy_155 : decode cX6_copy 155 = .ok (.imul, 1) := by decide +kernel
theorem dX6_copy_156 : decode cX6_copy 156 = .ok (.iload_n 2, 1) := by decide +kernel
theorem dX6_copy_157 : decode cX6_copy 157 = .ok (.iadd, 1) := by decide +kernel
theorem dX6_copy_158 : decode cX6_copy 158 = .ok (.iload 7, 2) := by decide +kernel
theorem dX6_copy_160 : decode cX6_copy 160 = .ok (.iadd, 1) := by decide +kernel
theorem dX6_copy_161 : decode cX6_copy 161 = .ok (.iaload, 1) := by decide +kernel
theorem dX6_copy_162 : decode cX6_copy 162 = .ok (.iastore, 1) := by decide +kernel
theorem dX6_copy_163 : decode cX6_copy 163 = .ok (.iinc 7 1, 3) := by decide +kernel
theorem dX6_copy_166 : decode cX6_copy 166 = .ok (.goto (-31), 3) := by decide +kernel
theorem dX6_copy_169 : decode cX6_copy 169 = .ok (.iconst 0, 1) := by decide +kernel
theorem dX6_copy_170 : decode cX6_copy 170 = .ok (.istore 7, 2) := by decide +kernel
theorem dX6_copy_172 : decode cX6_copy 172 = .ok (.iload 7, 2) := by decide +kernel
theorem dX6_copy_174 : decode cX6_copy 174 = .ok (.iload 5, 2) := by decide +kernel
theorem dX6_copy_176 : decode cX6_copy 176 = .ok (.if_icmp .ge 31, 3) := by decide +kernel
theorem dX6_copy_179 : decode cX6_copy 179 = .ok (.aload_n 0, 1) := by decide +kernel
theorem dX6_copy_180 : decode cX6_copy 180 = .ok (.getfield 37, 3) := by decide +kernel
theorem dX6_copy_183 : decode cX6_copy 183 = .ok (.bipush 40, 2) := by decide +kernel
theorem dX6_copy_185 : decode cX6_copy 185 = .ok (.iload_n 3, 1) := by decide +kernel
theorem dX6_copy_186 : decode cX6_copy 186 = .ok (.imul, 1) := by decide +kernel
theorem dX6_copy_187 : decode cX6_copy 187 = .ok (.iload 4, 2) := by decide +kernel
theorem dX6_copy_189 : decode cX6_copy 189 = .ok (.iadd, 1) := by decide +kernel
theorem dX6_copy_190 : decode cX6_copy 190 = .ok (.iload 7, 2) := by decide +kernel
theorem dX6_copy_192 : decode cX6_copy 192 = .ok (.iadd, 1) := by decide +kernel
theorem dX6_copy_193 : decode cX6_copy 193 = .ok (.aload_n 0, 1) := by decide +kernel
theorem dX6_copy_194 : decode cX6_copy 194 = .ok (.getfield 40, 3) := by decide +kernel
theorem dX6_copy_197 : decode cX6_copy 197 = .ok (.iload 7, 2) := by decide +kernel
theorem dX6_copy_199 : decode cX6_copy 199 = .ok (.iaload, 1) := by decide +kernel
theorem dX6_copy_200 : decode cX6_copy 200 = .ok (.iastore, 1) := by decide +kernel
theorem dX6_copy_201 : decode cX6_copy 201 = .ok (.iinc 7 1, 3) := by decide +kernel
theorem dX6_copy_204 : decode cX6_copy 204 = .ok (.goto (-32), 3) := by decide +kernel
theorem dX6_copy_207 : decode cX6_copy 207 = .ok (.iload 5, 2) := by decide +kernel
theorem dX6_copy_209 : decode cX6_copy 209 = .ok (.ireturn, 1) := by decide +kernel
theorem dX6_load_0 : decode cX6_load 0 = .ok (.aload_n 0, 1) := by decide +kernel
theorem dX6_load_1 : decode cX6_load 1 = .ok (.iload_n 1, 1) := by decide +kernel
theorem dX6_load_2 : decode cX6_load 2 = .ok (.invokevirtual 204, 3) := by decide +kernel
theorem dX6_load_5 : decode cX6_load 5 = .ok (.istore_n 2, 1) := by decide +kernel
theorem dX6_load_6 : decode cX6_load 6 = .ok (.iload_n 2, 1) := by decide +kernel
theorem dX6_load_7 : decode cX6_load 7 = .ok (.ifCond .lt 9, 3) := by decide +kernel
theorem dX6_load_10 : decode cX6_load 10 = .ok (.aload_n 0, 1) := by decide +kernel
theorem dX6_load_11 : decode cX6_load 11 = .ok (.iload_n 2, 1) := by decide +kernel
theorem dX6_load_12 : decode cX6_load 12 = .ok (.invokevirtual 103, 3) := by decide +kernel
theorem dX6_load_15 : decode cX6_load 15 = .ok (.ireturn, 1) := by decide +kernel
theorem dX6_load_16 : decode cX6_load 16 = .ok (.iconst 0, 1) := by decide +kernel
theorem dX6_load_17 : decode cX6_load 17 = .ok (.istore_n 3, 1) := by decide +kernel
theorem dX6_load_18 : decode cX6_load 18 = .ok (.iload_n 3, 1) := by decide +kernel
theorem dX6_load_19 : decode cX6_load 19 = .ok (.aload_n 0, 1) := by decide +kernel
theorem dX6_load_20 : decode cX6_load 20 = .ok (.getfield 34, 3) := by decide +kernel
theorem dX6_load_23 : decode cX6_load 23 = .ok (.iload_n 1, 1) := by decide +kernel
theorem dX6_load_24 : decode cX6_load 24 = .ok (.iaload, 1) := by decide +kernel
theorem dX6_load_25 : decode cX6_load 25 = .ok (.if_icmp .ge 53, 3) := by decide +kernel
theorem dX6_load_28 : decode cX6_load 28 = .ok (.iload_n 3, 1) := by decide +kernel
theorem dX6_load_29 : decode cX6_load 29 = .ok (.aload_n 0, 1) := by decide +kernel
theorem dX6_load_30 : decode cX6_load 30 = .ok (.getfield 9, 3) := by decide +kernel
theorem dX6_load_33 : decode cX6_load 33 = .ok (.iconst 5, 1) := by decide +kernel
theorem dX6_load_34 : decode cX6_load 34 = .ok (.iaload, 1) := by decide +kernel
theorem dX6_load_35 : decode cX6_load 35 = .ok (.if_icmp .ge 43, 3) := by decide +kernel
theorem dX6_load_38 : decode cX6_load 38 = .ok (.aload_n 0, 1) := by decide +kernel
theorem dX6_load_39 : decode cX6_load 39 = .ok (.getfield 37, 3) := by decide +kernel
theorem dX6_load_42 : decode cX6_load 42 = .ok (.bipush 40, 2) := by decide +kernel
theorem dX6_load_44 : decode cX6_load 44 = .ok (.iload_n 1, 1) := by decide +kernel
theorem dX6_load_45 : decode cX6_load 45 = .ok (.imul, 1) := by decide +kernel
theorem dX6_load_46 : decode cX6_load 46 = .ok (.iload_n 3, 1) := by decide +kernel
theorem dX6_load_47 : decode cX6_load 47 = .ok (.iadd, 1) := by decide +kernel
theorem dX6_load_48 : decode cX6_load 48 = .ok (.iaload, 1) := by decide +kernel
theorem dX6_load_49 : decode cX6_load 49 = .ok (.invokestatic 100, 3) := by decide +kernel
theorem dX6_load_52 : decode cX6_load 52 = .ok (.ifCond .eq 26, 3) := by decide +kernel
theorem dX6_load_55 : decode cX6_load 55 = .ok (.aload_n 0, 1) := by decide +kernel
theorem dX6_load_56 : decode cX6_load 56 = .ok (.iload_n 3, 1) := by decide +kernel
theorem dX6_load_57 : decode cX6_load 57 = .ok (.iconst 1, 1) := by decide +kernel
theorem dX6_load_58 : decode cX6_load 58 = .ok (.aload_n 0, 1) := by decide +kernel
theorem dX6_load_59 : decode cX6_load 59 = .ok (.getfield 37, 3) := by decide +kernel
theorem dX6_load_62 : decode cX6_load 62 = .ok (.bipush 40, 2) := by decide +kernel
theorem dX6_load_64 : decode cX6_load 64 = .ok (.iload_n 1, 1) := by decide +kernel
theorem dX6_load_65 : decode cX6_load 65 = .ok (.imul, 1) := by decide +kernel
theorem dX6_load_66 : decode cX6_load 66 = .ok (.iload_n 3, 1) := by decide +kernel
theorem dX6_load_67 : decode cX6_load 67 = .ok (.iadd, 1) := by decide +kernel
theorem dX6_load_68 : decode cX6_load 68 = .ok (.iaload, 1) := by decide +kernel
theorem dX6_load_69 : decode cX6_load 69 = .ok (.invokevirtual 92, 3) := by decide +kernel
theorem dX6_load_72 : decode cX6_load 72 = .ok (.iinc 3 1, 3) := by decide +kernel
theorem dX6_load_75 : decode cX6_load 75 = .ok (.goto (-57), 3) := by decide +kernel
theorem dX6_load_78 : decode cX6_load 78 = .ok (.iload_n 3, 1) := by decide +kernel
theorem dX6_load_79 : decode cX6_load 79 = .ok (.ireturn, 1) := by decide +kernel
theorem dX6_goesOn_0 : decode cX6_goesOn 0 = .ok (.aload_n 0, 1) := by decide +kernel
theorem dX6_goesOn_1 : decode cX6_goesOn 1 = .ok (.getfield 37, 3) := by decide +kernel
theorem dX6_goesOn_4 : decode cX6_goesOn 4 = .ok (.bipush 40, 2) := by decide +kernel
theorem dX6_goesOn_6 : decode cX6_goesOn 6 = .ok (.iload_n 1, 1) := by decide +kernel
theorem dX6_goesOn_7 : decode cX6_goesOn 7 = .ok (.imul, 1) := by decide +kernel
theorem dX6_goesOn_8 : decode cX6_goesOn 8 = .ok (.iload_n 2, 1) := by decide +kernel
theorem dX6_goesOn_9 : decode cX6_goesOn 9 = .ok (.iadd, 1) := by decide +kernel
theorem dX6_goesOn_10 : decode cX6_goesOn 10 = .ok (.iaload, 1) := by decide +kernel
theorem dX6_goesOn_11 : decode cX6_goesOn 11 = .ok (.istore_n 3, 1) := by decide +kernel
theorem dX6_goesOn_12 : decode cX6_goesOn 12 = .ok (.aload_n 0, 1) := by decide +kernel
theorem dX6_goesOn_13 : decode cX6_goesOn 13 = .ok (.iload_n 3, 1) := by decide +kernel
theorem dX6_goesOn_14 : decode cX6_goesOn 14 = .ok (.invokevirtual 109, 3) := by decide +kernel
theorem dX6_goesOn_17 : decode cX6_goesOn 17 = .ok (.ifCond .eq 12, 3) := by decide +kernel
theorem dX6_goesOn_20 : decode cX6_goesOn 20 = .ok (.aload_n 0, 1) := by decide +kernel
theorem dX6_goesOn_21 : decode cX6_goesOn 21 = .ok (.getfield 22, 3) := by decide +kernel
theorem dX6_goesOn_24 : decode cX6_goesOn 24 = .ok (.iload_n 3, 1) := by decide +kernel
theorem dX6_goesOn_25 : decode cX6_goesOn 25 = .ok (.iaload, 1) := by decide +kernel
theorem dX6_goesOn_26 : decode cX6_goesOn 26 = .ok (.ifCond .ge 5, 3) := by decide +kernel
theorem dX6_goesOn_29 : decode cX6_goesOn 29 = .ok (.iconst 0, 1) := by decide +kernel
theorem dX6_goesOn_30 : decode cX6_goesOn 30 = .ok (.ireturn, 1) := by decide +kernel
theorem dX6_goesOn_31 : decode cX6_goesOn 31 = .ok (.iconst 1, 1) := by decide +kernel
theorem dX6_goesOn_32 : decode cX6_goesOn 32 = .ok (.istore 4, 2) := by decide +kernel
theorem dX6_goesOn_34 : decode cX6_goesOn 34 = .ok (.iconst 0, 1) := by decide +kernel
theorem dX6_goesOn_35 : decode cX6_goesOn 35 = .ok (.istore 5, 2) := by decide +kernel
theorem dX6_goesOn_37 : decode cX6_goesOn 37 = .ok (.iload 5, 2) := by decide +kernel
theorem dX6_goesOn_39 : decode cX6_goesOn 39 = .ok (.iload_n 2, 1) := by decide +kernel
theorem dX6_goesOn_40 : decode cX6_goesOn 40 = .ok (.if_icmp .ge 37, 3) := by decide +kernel
theorem dX6_goesOn_43 : decode cX6_goesOn 43 = .ok (.iload 4, 2) := by decide +kernel
theorem dX6_goesOn_45 : decode cX6_goesOn 45 = .ok (.ifCond .eq 23, 3) := by decide +kernel
theorem dX6_goesOn_48 : decode cX6_goesOn 48 = .ok (.aload_n 0, 1) := by decide +kernel
theorem dX6_goesOn_49 : decode cX6_goesOn 49 = .ok (.getfield 37, 3) := by decide +kernel
theorem dX6_goesOn_52 : decode cX6_goesOn 52 = .ok (.bipush 40, 2) := by decide +kernel
theorem dX6_goesOn_54 : decode cX6_goesOn 54 = .ok (.iload_n 1, 1) := by decide +kernel
theorem dX6_goesOn_55 : decode cX6_goesOn 55 = .ok (.imul, 1) := by decide +kernel
theorem dX6_goesOn_56 : decode cX6_goesOn 56 = .ok (.iload 5, 2) := by decide +kernel
theorem dX6_goesOn_58 : decode cX6_goesOn 58 = .ok (.iadd, 1) := by decide +kernel
theorem dX6_goesOn_59 : decode cX6_goesOn 59 = .ok (.iaload, 1) := by decide +kernel
theorem dX6_goesOn_60 : decode cX6_goesOn 60 = .ok (.iload_n 3, 1) := by decide +kernel
theorem dX6_goesOn_61 : decode cX6_goesOn 61 = .ok (.if_icmp .eq 7, 3) := by decide +kernel
theorem dX6_goesOn_64 : decode cX6_goesOn 64 = .ok (.iconst 1, 1) := by decide +kernel
theorem dX6_goesOn_65 : decode cX6_goesOn 65 = .ok (.goto 4, 3) := by decide +kernel
theorem dX6_goesOn_68 : decode cX6_goesOn 68 = .ok (.iconst 0, 1) := by decide +kernel
theorem dX6_goesOn_69 : decode cX6_goesOn 69 = .ok (.istore 4, 2) := by decide +kernel
theorem dX6_goesOn_71 : decode cX6_goesOn 71 = .ok (.iinc 5 1, 3) := by decide +kernel
theorem dX6_goesOn_74 : decode cX6_goesOn 74 = .ok (.goto (-37), 3) := by decide +kernel
theorem dX6_goesOn_77 : decode cX6_goesOn 77 = .ok (.iload 4, 2) := by decide +kernel
theorem dX6_goesOn_79 : decode cX6_goesOn 79 = .ok (.ifCond .eq 38, 3) := by decide +kernel
theorem dX6_goesOn_82 : decode cX6_goesOn 82 = .ok (.iload_n 2, 1) := by decide +kernel
theorem dX6_goesOn_83 : decode cX6_goesOn 83 = .ok (.ifCond .eq 30, 3) := by decide +kernel
theorem dX6_goesOn_86 : decode cX6_goesOn 86 = .ok (.aload_n 0, 1) := by decide +kernel
theorem dX6_goesOn_87 : decode cX6_goesOn 87 = .ok (.getfield 22, 3) := by decide +kernel
theorem dX6_goesOn_90 : decode cX6_goesOn 90 = .ok (.aload_n 0, 1) := by decide +kernel
theorem dX6_goesOn_91 : decode cX6_goesOn 91 = .ok (.getfield 37, 3) := by decide +kernel
theorem dX6_goesOn_94 : decode cX6_goesOn 94 = .ok (.bipush 40, 2) := by decide +kernel
theorem dX6_goesOn_96 : decode cX6_goesOn 96 = .ok (.iload_n 1, 1) := by decide +kernel
theorem dX6_goesOn_97 : decode cX6_goesOn 97 = .ok (.imul, 1) := by decide +kernel
theorem dX6_goesOn_98 : decode cX6_goesOn 98 = .ok (.iload_n 2, 1) := by decide +kernel
theorem dX6_goesOn_99 : decode cX6_goesOn 99 = .ok (.iadd, 1) := by decide +kernel
theorem dX6_goesOn_100 : decode cX6_goesOn 100 = .ok (.iconst 1, 1) := by decide +kernel
theorem dX6_goesOn_101 : decode cX6_goesOn 101 = .ok (.isub, 1) := by decide +kernel
theorem dX6_goesOn_102 : decode cX6_goesOn 102 = .ok (.iaload, 1) := by decide +kernel
theorem dX6_goesOn_103 : decode cX6_goesOn 103 = .ok (.iaload, 1) := by decide +kernel
theorem dX6_goesOn_104 : decode cX6_goesOn 104 = .ok (.aload_n 0, 1) := by decide +kernel
theorem dX6_goesOn_105 : decode cX6_goesOn 105 = .ok (.getfield 22, 3) := by decide +kernel
theorem dX6_goesOn_108 : decode cX6_goesOn 108 = .ok (.iload_n 3, 1) := by decide +kernel
theorem dX6_goesOn_109 : decode cX6_goesOn 109 = .ok (.iaload, 1) := by decide +kernel
theorem dX6_goesOn_110 : decode cX6_goesOn 110 = .ok (.if_icmp .gt 7, 3) := by decide +kernel
theorem dX6_goesOn_113 : decode cX6_goesOn 113 = .ok (.iconst 1, 1) := by decide +kernel
theorem dX6_goesOn_114 : decode cX6_goesOn 114 = .ok (.goto 4, 3) := by decide +kernel
theorem dX6_goesOn_117 : decode cX6_goesOn 117 = .ok (.iconst 0, 1) := by decide +kernel
theorem dX6_goesOn_118 : decode cX6_goesOn 118 = .ok (.ireturn, 1) := by decide +kernel
theorem dX6_judge_0 : decode cX6_judge 0 = .ok (.aload_n 0, 1) := by decide +kernel
theorem dX6_judge_1 : decode cX6_judge 1 = .ok (.iload_n 1, 1) := by decide +kernel
theorem dX6_judge_2 : decode cX6_judge 2 = .ok (.invokevirtual 204, 3) := by decide +kernel
theorem dX6_judge_5 : decode cX6_judge 5 = .ok (.istore_n 2, 1) := by decide +kernel
theorem dX6_judge_6 : decode cX6_judge 6 = .ok (.iload_n 2, 1) := by decide +kernel
theorem dX6_judge_7 : decode cX6_judge 7 = .ok (.ifCond .lt 9, 3) := by decide +kernel
theorem dX6_judge_10 : decode cX6_judge 10 = .ok (.aload_n 0, 1) := by decide +kernel
theorem dX6_judge_11 : decode cX6_judge 11 = .ok (.iload_n 2, 1) := by decide +kernel
theorem dX6_judge_12 : decode cX6_judge 12 = .ok (.invokevirtual 103, 3) := by decide +kernel
theorem dX6_judge_15 : decode cX6_judge 15 = .ok (.ireturn, 1) := by decide +kernel
theorem dX6_judge_16 : decode cX6_judge 16 = .ok (.aload_n 0, 1) := by decide +kernel
theorem dX6_judge_17 : decode cX6_judge 17 = .ok (.getfield 9, 3) := by decide +kernel
theorem dX6_judge_20 : decode cX6_judge 20 = .ok (.bipush 6, 2) := by decide +kernel
theorem dX6_judge_22 : decode cX6_judge 22 = .ok (.iaload, 1) := by decide +kernel
theorem dX6_judge_23 : decode cX6_judge 23 = .ok (.ifCond .ne 9, 3) := by decide +kernel
theorem dX6_judge_26 : decode cX6_judge 26 = .ok (.aload_n 0, 1) := by decide +kernel
theorem dX6_judge_27 : decode cX6_judge 27 = .ok (.iconst 4, 1) := by decide +kernel
theorem dX6_judge_28 : decode cX6_judge 28 = .ok (.invokevirtual 103, 3) := by decide +kernel
theorem dX6_judge_31 : decode cX6_judge 31 = .ok (.ireturn, 1) := by decide +kernel
theorem dX6_judge_32 : decode cX6_judge 32 = .ok (.aload_n 0, 1) := by decide +kernel
theorem dX6_judge_33 : decode cX6_judge 33 = .ok (.iconst 0, 1) := by decide +kernel
theorem dX6_judge_34 : decode cX6_judge 34 = .ok (.invokevirtual 178, 3) := by decide +kernel
theorem dX6_judge_37 : decode cX6_judge 37 = .ok (.istore_n 3, 1) := by decide +kernel
theorem dX6_judge_38 : decode cX6_judge 38 = .ok (.iconst 0, 1) := by decide +kernel
theorem dX6_judge_39 : decode cX6_judge 39 = .ok (.istore 4, 2) := by decide +kernel
theorem dX6_judge_41 : decode cX6_judge 41 = .ok (.iload 4, 2) := by decide +kernel
theorem dX6_judge_43 : decode cX6_judge 43 = .ok (.aload_n 0, 1) := by decide +kernel
theorem dX6_judge_44 : decode cX6_judge 44 = .ok (.getfield 34, 3) := by decide +kernel
theorem dX6_judge_47 : decode cX6_judge 47 = .ok (.iload_n 1, 1) := by decide +kernel
theorem dX6_judge_48 : decode cX6_judge 48 = .ok (.iaload, 1) := by decide +kernel
theorem dX6_judge_49 : decode cX6_judge 49 = .ok (.if_icmp .ge 19, 3) := by decide +kernel
theorem dX6_judge_52 : decode cX6_judge 52 = .ok (.aload_n 0, 1) := by decide +kernel
theorem dX6_judge_53 : decode cX6_judge 53 = .ok (.iload_n 1, 1) := by decide +kernel
theorem dX6_judge_54 : decode cX6_judge 54 = .ok (.iload 4, 2) := by decide +kernel
theorem dX6_judge_56 : decode cX6_judge 56 = .ok (.invokevirtual 321, 3) := by decide +kernel
theorem dX6_judge_59 : decode cX6_judge 59 = .ok (.ifCond .eq 9, 3) := by decide +kernel
theorem dX6_judge_62 : decode cX6_judge 62 = .ok (.iinc 4 1, 3) := by decide +kernel
theorem dX6_judge_65 : decode cX6_judge 65 = .ok (.goto (-24), 3) := by decide +kernel
theorem dX6_judge_68 : decode cX6_judge 68 = .ok (.iload 4, 2) := by decide +kernel
theorem dX6_judge_70 : decode cX6_judge 70 = .ok (.aload_n 0, 1) := by decide +kernel
theorem dX6_judge_71 : decode cX6_judge 71 = .ok (.getfield 34, 3) := by decide +kernel
theorem dX6_judge_74 : decode cX6_judge 74 = .ok (.iload_n 1, 1) := by decide +kernel
theorem dX6_judge_75 : decode cX6_judge 75 = .ok (.iaload, 1) := by decide +kernel
theorem dX6_judge_76 : decode cX6_judge 76 = .ok (.if_icmp .ne 7, 3) := by decide +kernel
theorem dX6_judge_79 : decode cX6_judge 79 = .ok (.iconst 0, 1) := by decide +kernel
theorem dX6_judge_80 : decode cX6_judge 80 = .ok (.goto 7, 3) := by decide +kernel
theorem dX6_judge_83 : decode cX6_judge 83 = .ok (.iload 4, 2) := by decide +kernel
theorem dX6_judge_85 : decode cX6_judge 85 = .ok (.iconst 1, 1) := by decide +kernel
theorem dX6_judge_86 : decode cX6_judge 86 = .ok (.iadd, 1) := by decide +kernel
theorem dX6_judge_87 : decode cX6_judge 87 = .ok (.ireturn, 1) := by decide +kernel
theorem dX6_image_0 : decode cX6_image 0 = .ok (.aload_n 0, 1) := by decide +kernel
theorem dX6_image_1 : decode cX6_image 1 = .ok (.getfield 9, 3) := by decide +kernel
theorem dX6_image_4 : decode cX6_image 4 = .ok (.aload_n 0, 1) := by decide +kernel
theorem dX6_image_5 : decode cX6_image 5 = .ok (.getfield 13, 3) := by decide +kernel
theorem dX6_image_8 : decode cX6_image 8 = .ok (.invokestatic 44, 3) := by decide +kernel
theorem dX6_image_11 : decode cX6_image 11 = .ok (.aload_n 0, 1) := by decide +kernel
theorem dX6_image_12 : decode cX6_image 12 = .ok (.iconst 1, 1) := by decide +kernel
theorem dX6_image_13 : decode cX6_image 13 = .ok (.putfield 324, 3) := by decide +kernel
theorem dX6_image_16 : decode cX6_image 16 = .ok (.iconst 1, 1) := by decide +kernel
theorem dX6_image_17 : decode cX6_image 17 = .ok (.ireturn, 1) := by decide +kernel
theorem dX6_undo_0 : decode cX6_undo 0 = .ok (.aload_n 0, 1) := by decide +kernel
theorem dX6_undo_1 : decode cX6_undo 1 = .ok (.getfield 324, 3) := by decide +kernel
theorem dX6_undo_4 : decode cX6_undo 4 = .ok (.ifCond .ne 9, 3) := by decide +kernel
theorem dX6_undo_7 : decode cX6_undo 7 = .ok (.aload_n 0, 1) := by decide +kernel
theorem dX6_undo_8 : decode cX6_undo 8 = .ok (.iconst 3, 1) := by decide +kernel
theorem dX6_undo_9 : decode cX6_undo 9 = .ok (.invokevirtual 103, 3) := by decide +kernel
theorem dX6_undo_12 : decode cX6_undo 12 = .ok (.ireturn, 1) := by decide +kernel
theorem dX6_undo_13 : decode cX6_undo 13 = .ok (.aload_n 0, 1) := by decide +kernel
theorem dX6_undo_14 : decode cX6_undo 14 = .ok (.getfield 13, 3) := by decide +kernel
theorem dX6_undo_17 : decode cX6_undo 17 = .ok (.aload_n 0, 1) := by decide +kernel
theorem dX6_undo_18 : decode cX6_undo 18 = .ok (.getfield 9, 3) := by decide +kernel
theorem dX6_undo_21 : decode cX6_undo 21 = .ok (.invokestatic 44, 3) := by decide +kernel
theorem dX6_undo_24 : decode cX6_undo 24 = .ok (.aload_n 0, 1) := by decide +kernel
theorem dX6_undo_25 : decode cX6_undo 25 = .ok (.getfield 9, 3) := by decide +kernel
theorem dX6_undo_28 : decode cX6_undo 28 = .ok (.iconst 3, 1) := by decide +kernel
theorem dX6_undo_29 : decode cX6_undo 29 = .ok (.iaload, 1) := by decide +kernel
theorem dX6_undo_30 : decode cX6_undo 30 = .ok (.ireturn, 1) := by decide +kernel
theorem dX6_tear_0 : decode cX6_tear 0 = .ok (.aload_n 0, 1) := by decide +kernel
theorem dX6_tear_1 : decode cX6_tear 1 = .ok (.getfield 324, 3) := by decide +kernel
theorem dX6_tear_4 : decode cX6_tear 4 = .ok (.ifCond .eq 7, 3) := by decide +kernel
theorem dX6_tear_7 : decode cX6_tear 7 = .ok (.iconst 1, 1) := by decide +kernel
theorem dX6_tear_8 : decode cX6_tear 8 = .ok (.goto 4, 3) := by decide +kernel
theorem dX6_tear_11 : decode cX6_tear 11 = .ok (.iconst 0, 1) := by decide +kernel
theorem dX6_tear_12 : decode cX6_tear 12 = .ok (.istore_n 1, 1) := by decide +kernel
theorem dX6_tear_13 : decode cX6_tear 13 = .ok (.aload_n 0, 1) := by decide +kernel
theorem dX6_tear_14 : decode cX6_tear 14 = .ok (.iconst 0, 1) := by decide +kernel
theorem dX6_tear_15 : decode cX6_tear 15 = .ok (.putfield 324, 3) := by decide +kernel
theorem dX6_tear_18 : decode cX6_tear 18 = .ok (.iload_n 1, 1) := by decide +kernel
theorem dX6_tear_19 : decode cX6_tear 19 = .ok (.ireturn, 1) := by decide +kernel
theorem dX6_held_0 : decode cX6_held 0 = .ok (.iconst 0, 1) := by decide +kernel
theorem dX6_held_1 : decode cX6_held 1 = .ok (.istore_n 1, 1) := by decide +kernel
theorem dX6_held_2 : decode cX6_held 2 = .ok (.iconst 0, 1) := by decide +kernel
theorem dX6_held_3 : decode cX6_held 3 = .ok (.istore_n 2, 1) := by decide +kernel
theorem dX6_held_4 : decode cX6_held 4 = .ok (.iload_n 2, 1) := by decide +kernel
theorem dX6_held_5 : decode cX6_held 5 = .ok (.bipush 10, 2) := by decide +kernel
theorem dX6_held_7 : decode cX6_held 7 = .ok (.if_icmp .ge 29, 3) := by decide +kernel
theorem dX6_held_10 : decode cX6_held 10 = .ok (.iload_n 1, 1) := by decide +kernel
theorem dX6_held_11 : decode cX6_held 11 = .ok (.aload_n 0, 1) := by decide +kernel
theorem dX6_held_12 : decode cX6_held 12 = .ok (.getfield 9, 3) := by decide +kernel
theorem dX6_held_15 : decode cX6_held 15 = .ok (.bipush 63, 2) := by decide +kernel
theorem dX6_held_17 : decode cX6_held 17 = .ok (.iload_n 2, 1) := by decide +kernel
theorem dX6_held_18 : decode cX6_held 18 = .ok (.iadd, 1) := by decide +kernel
theorem dX6_held_19 : decode cX6_held 19 = .ok (.iaload, 1) := by decide +kernel
theorem dX6_held_20 : decode cX6_held 20 = .ok (.ifCond .ge 7, 3) := by decide +kernel
theorem dX6_held_23 : decode cX6_held 23 = .ok (.iconst 0, 1) := by decide +kernel
theorem dX6_held_24 : decode cX6_held 24 = .ok (.goto 4, 3) := by decide +kernel
theorem dX6_held_27 : decode cX6_held 27 = .ok (.iconst 1, 1) := by decide +kernel
theorem dX6_held_28 : decode cX6_held 28 = .ok (.iadd, 1) := by decide +kernel
theorem dX6_held_29 : decode cX6_held 29 = .ok (.istore_n 1, 1) := by decide +kernel
theorem dX6_held_30 : decode cX6_held 30 = .ok (.iinc 2 1, 3) := by decide +kernel
theorem dX6_held_33 : decode cX6_held 33 = .ok (.goto (-29), 3) := by decide +kernel
theorem dX6_held_36 : decode cX6_held 36 = .ok (.iload_n 1, 1) := by decide +kernel
theorem dX6_held_37 : decode cX6_held 37 = .ok (.ireturn, 1) := by decide +kernel
theorem dX6_count_0 : decode cX6_count 0 = .ok (.iload_n 1, 1) := by decide +kernel
theorem dX6_count_1 : decode cX6_count 1 = .ok (.tableswitch 99 0 7 #[47, 54, 61, 69, 76, 82, 87, 94], 47) := by decide +kernel
theorem dX6_count_48 : decode cX6_count 48 = .ok (.aload_n 0, 1) := by decide +kernel
theorem dX6_count_49 : decode cX6_count 49 = .ok (.getfield 9, 3) := by decide +kernel
theorem dX6_count_52 : decode cX6_count 52 = .ok (.iconst 3, 1) := by decide +kernel
theorem dX6_count_53 : decode cX6_count 53 = .ok (.iaload, 1) := by decide +kernel
theorem dX6_count_54 : decode cX6_count 54 = .ok (.ireturn, 1) := by decide +kernel
theorem dX6_count_55 : decode cX6_count 55 = .ok (.aload_n 0, 1) := by decide +kernel
theorem dX6_count_56 : decode cX6_count 56 = .ok (.getfield 9, 3) := by decide +kernel
theorem dX6_count_59 : decode cX6_count 59 = .ok (.iconst 5, 1) := by decide +kernel
theorem dX6_count_60 : decode cX6_count 60 = .ok (.iaload, 1) := by decide +kernel
theorem dX6_count_61 : decode cX6_count 61 = .ok (.ireturn, 1) := by decide +kernel
theorem dX6_count_62 : decode cX6_count 62 = .ok (.aload_n 0, 1) := by decide +kernel
theorem dX6_count_63 : decode cX6_count 63 = .ok (.getfield 9, 3) := by decide +kernel
theorem dX6_count_66 : decode cX6_count 66 = .ok (.bipush 6, 2) := by decide +kernel
theorem dX6_count_68 : decode cX6_count 68 = .ok (.iaload, 1) := by decide +kernel
theorem dX6_count_69 : decode cX6_count 69 = .ok (.ireturn, 1) := by decide +kernel
theorem dX6_count_70 : decode cX6_count 70 = .ok (.aload_n 0, 1) := by decide +kernel
theorem dX6_count_71 : decode cX6_count 71 = .ok (.getfield 9, 3) := by decide +kernel
theorem dX6_count_74 : decode cX6_count 74 = .ok (.iconst 2, 1) := by decide +kernel
theorem dX6_count_75 : decode cX6_count 75 = .ok (.iaload, 1) := by decide +kernel
theorem dX6_count_76 : decode cX6_count 76 = .ok (.ireturn, 1) := by decide +kernel
theorem dX6_count_77 : decode cX6_count 77 = .ok (.aload_n 0, 1) := by decide +kernel
theorem dX6_count_78 : decode cX6_count 78 = .ok (.iconst 4, 1) := by decide +kernel
theorem dX6_count_79 : decode cX6_count 79 = .ok (.invokevirtual 172, 3) := by decide +kernel
theorem dX6_count_82 : decode cX6_count 82 = .ok (.ireturn, 1) := by decide +kernel
theorem dX6_count_83 : decode cX6_count 83 = .ok (.aload_n 0, 1) := by decide +kernel
theorem dX6_count_84 : decode cX6_count 84 = .ok (.getfield 221, 3) := by decide +kernel
theorem dX6_count_87 : decode cX6_count 87 = .ok (.ireturn, 1) := by decide +kernel
theorem dX6_count_88 : decode cX6_count 88 = .ok (.aload_n 0, 1) := by decide +kernel
theorem dX6_count_89 : decode cX6_count 89 = .ok (.getfield 9, 3) := by decide +kernel
theorem dX6_count_92 : decode cX6_count 92 = .ok (.iconst 4, 1) := by decide +kernel
theorem dX6_count_93 : decode cX6_count 93 = .ok (.iaload, 1) := by decide +kernel
theorem dX6_count_94 : decode cX6_count 94 = .ok (.ireturn, 1) := by decide +kernel
theorem dX6_count_95 : decode cX6_count 95 = .ok (.aload_n 0, 1) := by decide +kernel
theorem dX6_count_96 : decode cX6_count 96 = .ok (.invokevirtual 327, 3) := by decide +kernel
theorem dX6_count_99 : decode cX6_count 99 = .ok (.ireturn, 1) := by decide +kernel
theorem dX6_count_100 : decode cX6_count 100 = .ok (.aload_n 0, 1) := by decide +kernel
theorem dX6_count_101 : decode cX6_count 101 = .ok (.iconst 0, 1) := by decide +kernel
theorem dX6_count_102 : decode cX6_count 102 = .ok (.invokevirtual 103, 3) := by decide +kernel
theorem dX6_count_105 : decode cX6_count 105 = .ok (.ireturn, 1) := by decide +kernel
theorem dX6_status_0 : decode cX6_status 0 = .ok (.iload_n 1, 1) := by decide +kernel
theorem dX6_status_1 : decode cX6_status 1 = .ok (.i2l, 1) := by decide +kernel
theorem dX6_status_2 : decode cX6_status 2 = .ok (.ldc2_w 330, 3) := by decide +kernel
theorem dX6_status_5 : decode cX6_status 5 = .ok (.ldc2_w 62, 3) := by decide +kernel
theorem dX6_status_8 : decode cX6_status 8 = .ok (.invokestatic 48, 3) := by decide +kernel
theorem dX6_status_11 : decode cX6_status 11 = .ok (.ifCond .ne 9, 3) := by decide +kernel
theorem dX6_status_14 : decode cX6_status 14 = .ok (.aload_n 0, 1) := by decide +kernel
theorem dX6_status_15 : decode cX6_status 15 = .ok (.iconst 0, 1) := by decide +kernel
theorem dX6_status_16 : decode cX6_status 16 = .ok (.invokevirtual 103, 3) := by decide +kernel
theorem dX6_status_19 : decode cX6_status 19 = .ok (.ireturn, 1) := by decide +kernel
theorem dX6_status_20 : decode cX6_status 20 = .ok (.iconst 0, 1) := by decide +kernel
theorem dX6_status_21 : decode cX6_status 21 = .ok (.istore_n 2, 1) := by decide +kernel
theorem dX6_status_22 : decode cX6_status 22 = .ok (.iconst 0, 1) := by decide +kernel
theorem dX6_status_23 : decode cX6_status 23 = .ok (.istore_n 3, 1) := by decide +kernel
theorem dX6_status_24 : decode cX6_status 24 = .ok (.iload_n 3, 1) := by decide +kernel
theorem dX6_status_25 : decode cX6_status 25 = .ok (.bipush 7, 2) := by decide +kernel
theorem dX6_status_27 : decode cX6_status 27 = .ok (.if_icmp .ge 31, 3) := by decide +kernel
theorem dX6_status_30 : decode cX6_status 30 = .ok (.iload_n 2, 1) := by decide +kernel
theorem dX6_status_31 : decode cX6_status 31 = .ok (.iload_n 1, 1) := by decide +kernel
theorem dX6_status_32 : decode cX6_status 32 = .ok (.ifCond .lt 8, 3) := by decide +kernel
theorem dX6_status_35 : decode cX6_status 35 = .ok (.iload_n 1, 1) := by decide +kernel
theorem dX6_status_36 : decode cX6_status 36 = .ok (.iload_n 3, 1) := by decide +kernel
theorem dX6_status_37 : decode cX6_status 37 = .ok (.if_icmp .ne 12, 3) := by decide +kernel
theorem dX6_status_40 : decode cX6_status 40 = .ok (.aload_n 0, 1) := by decide +kernel
theorem dX6_status_41 : decode cX6_status 41 = .ok (.getfield 19, 3) := by decide +kernel
theorem dX6_status_44 : decode cX6_status 44 = .ok (.iload_n 3, 1) := by decide +kernel
theorem dX6_status_45 : decode cX6_status 45 = .ok (.iaload, 1) := by decide +kernel
theorem dX6_status_46 : decode cX6_status 46 = .ok (.goto 4, 3) := by decide +kernel
theorem dX6_status_49 : decode cX6_status 49 = .ok (.iconst 0, 1) := by decide +kernel
theorem dX6_status_50 : decode cX6_status 50 = .ok (.iadd, 1) := by decide +kernel
theorem dX6_status_51 : decode cX6_status 51 = .ok (.istore_n 2, 1) := by decide +kernel
theorem dX6_status_52 : decode cX6_status 52 = .ok (.iinc 3 1, 3) := by decide +kernel
theorem dX6_status_55 : decode cX6_status 55 = .ok (.goto (-31), 3) := by decide +kernel
theorem dX6_status_58 : decode cX6_status 58 = .ok (.iload_n 2, 1) := by decide +kernel
theorem dX6_status_59 : decode cX6_status 59 = .ok (.ireturn, 1) := by decide +kernel
