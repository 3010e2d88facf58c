theorem dX5_init_0 : decode cX5_init 0 = .ok (.aload_n 0, 1) := by decide +kernel
theorem dX5_init_1 : decode cX5_init 1 = .ok (.invokespecial 1, 3) := by decide +kernel
theorem dX5_init_4 : decode cX5_init 4 = .ok (.aload_n 0, 1) := by decide +kernel
theorem dX5_init_5 : decode cX5_init 5 = .ok (.new 7, 3) := by decide +kernel
theorem dX5_init_8 : decode cX5_init 8 = .ok (.dup, 1) := by decide +kernel
theorem dX5_init_9 : decode cX5_init 9 = .ok (.invokespecial 9, 3) := by decide +kernel
theorem dX5_init_12 : decode cX5_init 12 = .ok (.putfield 10, 3) := by decide +kernel
theorem dX5_init_15 : decode cX5_init 15 = .ok (.aload_n 0, 1) := by decide +kernel
theorem dX5_init_16 : decode cX5_init 16 = .ok (.new 7, 3) := by decide +kernel
theorem dX5_init_19 : decode cX5_init 19 = .ok (.dup, 1) := by decide +kernel
theorem dX5_init_20 : decode cX5_init 20 = .ok (.invokespecial 9, 3) := by decide +kernel
theorem dX5_init_23 : decode cX5_init 23 = .ok (.putfield 16, 3) := by decide +kernel
theorem dX5_init_26 : decode cX5_init 26 = .ok (.aload_n 0, 1) := by decide +kernel
theorem dX5_init_27 : decode cX5_init 27 = .ok (.new 7, 3) := by decide +kernel
theorem dX5_init_30 : decode cX5_init 30 = .ok (.dup, 1) := by decide +kernel
theorem dX5_init_31 : decode cX5_init 31 = .ok (.invokespecial 9, 3) := by decide +kernel
theorem dX5_init_34 : decode cX5_init 34 = .ok (.putfield 19, 3) := by decide +kernel
theorem dX5_init_37 : decode cX5_init 37 = .ok (.aload_n 0, 1) := by decide +kernel
theorem dX5_init_38 : decode cX5_init 38 = .ok (.iconst 0, 1) := by decide +kernel
theorem dX5_init_39 : decode cX5_init 39 = .ok (.putfield 22, 3) := by decide +kernel
theorem dX5_init_42 : decode cX5_init 42 = .ok (.aload_n 0, 1) := by decide +kernel
theorem dX5_init_43 : decode cX5_init 43 = .ok (.new 26, 3) := by decide +kernel
theorem dX5_init_46 : decode cX5_init 46 = .ok (.dup, 1) := by decide +kernel
theorem dX5_init_47 : decode cX5_init 47 = .ok (.invokespecial 28, 3) := by decide +kernel
theorem dX5_init_50 : decode cX5_init 50 = .ok (.putfield 29, 3) := by decide +kernel
theorem dX5_init_53 : decode cX5_init 53 = .ok (.aload_n 0, 1) := by decide +kernel
theorem dX5_init_54 : decode cX5_init 54 = .ok (.new 33, 3) := by decide +kernel
theorem dX5_init_57 : decode cX5_init 57 = .ok (.dup, 1) := by decide +kernel
theorem dX5_init_58 : decode cX5_init 58 = .ok (.invokespecial 35, 3) := by decide +kernel
theorem dX5_init_61 : decode cX5_init 61 = .ok (.putfield 36, 3) := by decide +kernel
theorem dX5_init_64 : decode cX5_init 64 = .ok (.aload_n 0, 1) := by decide +kernel
theorem dX5_init_65 : decode cX5_init 65 = .ok (.iconst 4, 1) := by decide +kernel
theorem dX5_init_66 : decode cX5_init 66 = .ok (.anewarray 40, 3) := by decide +kernel
theorem dX5_init_69 : decode cX5_init 69 = .ok (.putfield 42, 3) := by decide +kernel
theorem dX5_init_72 : decode cX5_init 72 = .ok (.iconst 0, 1) := by decide +kernel
theorem dX5_init_73 : decode cX5_init 73 = .ok (.istore_n 1, 1) := by decide +kernel
theorem dX5_init_74 : decode cX5_init 74 = .ok (.iload_n 1, 1) := by decide +kernel
theorem dX5_init_75 : decode cX5_init 75 = .ok (.iconst 4, 1) := by decide +kernel
theorem dX5_init_76 : decode cX5_init 76 = .ok (.if_icmp .ge 22, 3) := by decide +kernel
theorem dX5_init_79 : decode cX5_init 79 = .ok (.aload_n 0, 1) := by decide +kernel
theorem dX5_init_80 : decode cX5_init 80 = .ok (.getfield 42, 3) := by decide +kernel
theorem dX5_init_83 : decode cX5_init 83 = .ok (.iload_n 1, 1) := by decide +kernel
theorem dX5_init_84 : decode cX5_init 84 = .ok (.new 40, 3) := by decide +kernel
theorem dX5_init_87 : decode cX5_init 87 = .ok (.dup, 1) := by decide +kernel
theorem dX5_init_88 : decode cX5_init 88 = .ok (.invokespecial 46, 3) := by decide +kernel
theorem dX5_init_91 : decode cX5_init 91 = .ok (.aastore, 1) := by decide +kernel
theorem dX5_init_92 : decode cX5_init 92 = .ok (.iinc 1 1, 3) := by decide +kernel
theorem dX5_init_95 : decode cX5_init 95 = .ok (.goto (-21), 3) := by decide +kernel
theorem dX5_init_98 : decode cX5_init 98 = .ok (.aload_n 0, 1) := by decide +kernel
theorem dX5_init_99 : decode cX5_init 99 = .ok (.bipush 7, 2) := by decide +kernel
theorem dX5_init_101 : decode cX5_init 101 = .ok (.newarray .int, 2) := by decide +kernel
theorem dX5_init_103 : decode cX5_init 103 = .ok (.putfield 47, 3) := by decide +kernel
theorem dX5_init_106 : decode cX5_init 106 = .ok (.return_, 1) := by decide +kernel
theorem dX5_person_0 : decode cX5_person 0 = .ok (.iload_n 1, 1) := by decide +kernel
theorem dX5_person_1 : decode cX5_person 1 = .ok (.invokestatic 51, 3) := by decide +kernel
theorem dX5_person_4 : decode cX5_person 4 = .ok (.ifCond .eq 10, 3) := by decide +kernel
theorem dX5_person_7 : decode cX5_person 7 = .ok (.iload_n 2, 1) := by decide +kernel
theorem dX5_person_8 : decode cX5_person 8 = .ok (.invokestatic 55, 3) := by decide +kernel
theorem dX5_person_11 : decode cX5_person 11 = .ok (.ifCond .ne 10, 3) := by decide +kernel
theorem dX5_person_14 : decode cX5_person 14 = .ok (.aload_n 0, 1) := by decide +kernel
theorem dX5_person_15 : decode cX5_person 15 = .ok (.ldc 58, 2) := by decide +kernel
theorem dX5_person_17 : decode cX5_person 17 = .ok (.invokevirtual 59, 3) := by decide +kernel
theorem dX5_person_20 : decode cX5_person 20 = .ok (.ireturn, 1) := by decide +kernel
theorem dX5_person_21 : decode cX5_person 21 = .ok (.aload_n 0, 1) := by decide +kernel
theorem dX5_person_22 : decode cX5_person 22 = .ok (.getfield 10, 3) := by decide +kernel
theorem dX5_person_25 : decode cX5_person 25 = .ok (.getfield 63, 3) := by decide +kernel
theorem dX5_person_28 : decode cX5_person 28 = .ok (.bipush 8, 2) := by decide +kernel
theorem dX5_person_30 : decode cX5_person 30 = .ok (.if_icmp .lt 10, 3) := by decide +kernel
theorem dX5_person_33 : decode cX5_person 33 = .ok (.aload_n 0, 1) := by decide +kernel
theorem dX5_person_34 : decode cX5_person 34 = .ok (.ldc 67, 2) := by decide +kernel
theorem dX5_person_36 : decode cX5_person 36 = .ok (.invokevirtual 59, 3) := by decide +kernel
theorem dX5_person_39 : decode cX5_person 39 = .ok (.ireturn, 1) := by decide +kernel
theorem dX5_person_40 : decode cX5_person 40 = .ok (.aload_n 0, 1) := by decide +kernel
theorem dX5_person_41 : decode cX5_person 41 = .ok (.getfield 10, 3) := by decide +kernel
theorem dX5_person_44 : decode cX5_person 44 = .ok (.iload_n 1, 1) := by decide +kernel
theorem dX5_person_45 : decode cX5_person 45 = .ok (.iload_n 2, 1) := by decide +kernel
theorem dX5_person_46 : decode cX5_person 46 = .ok (.invokevirtual 68, 3) := by decide +kernel
theorem dX5_person_49 : decode cX5_person 49 = .ok (.ireturn, 1) := by decide +kernel
theorem dX5_of_0 : decode cX5_of 0 = .ok (.aload_n 0, 1) := by decide +kernel
theorem dX5_of_1 : decode cX5_of 1 = .ok (.iload_n 1, 1) := by decide +kernel
theorem dX5_of_2 : decode cX5_of 2 = .ok (.invokevirtual 72, 3) := by decide +kernel
theorem dX5_of_5 : decode cX5_of 5 = .ok (.ifCond .ne 10, 3) := by decide +kernel
theorem dX5_of_8 : decode cX5_of 8 = .ok (.aload_n 0, 1) := by decide +kernel
theorem dX5_of_9 : decode cX5_of 9 = .ok (.ldc 58, 2) := by decide +kernel
theorem dX5_of_11 : decode cX5_of 11 = .ok (.invokevirtual 59, 3) := by decide +kernel
theorem dX5_of_14 : decode cX5_of 14 = .ok (.ireturn, 1) := by decide +kernel
theorem dX5_of_15 : decode cX5_of 15 = .ok (.iload_n 2, 1) := by decide +kernel
theorem dX5_of_16 : decode cX5_of 16 = .ok (.tableswitch 155 0 7 #[48, 58, 68, 78, 88, 98, 120, 142], 48) := by decide +kernel
theorem dX5_of_64 : decode cX5_of 64 = .ok (.aload_n 0, 1) := by decide +kernel
theorem dX5_of_65 : decode cX5_of 65 = .ok (.getfield 10, 3) := by decide +kernel
theorem dX5_of_68 : decode cX5_of 68 = .ok (.getfield 75, 3) := by decide +kernel
theorem dX5_of_71 : decode cX5_of 71 = .ok (.iload_n 1, 1) := by decide +kernel
theorem dX5_of_72 : decode cX5_of 72 = .ok (.iaload, 1) := by decide +kernel
theorem dX5_of_73 : decode cX5_of 73 = .ok (.ireturn, 1) := by decide +kernel
theorem dX5_of_74 : decode cX5_of 74 = .ok (.aload_n 0, 1) := by decide +kernel
theorem dX5_of_75 : decode cX5_of 75 = .ok (.getfield 10, 3) := by decide +kernel
theorem dX5_of_78 : decode cX5_of 78 = .ok (.getfield 78, 3) := by decide +kernel
theorem dX5_of_81 : decode cX5_of 81 = .ok (.iload_n 1, 1) := by decide +kernel
theorem dX5_of_82 : decode cX5_of 82 = .ok (.iaload, 1) := by decide +kernel
theorem dX5_of_83 : decode cX5_of 83 = .ok (.ireturn, 1) := by decide +kernel
theorem dX5_of_84 : decode cX5_of 84 = .ok (.aload_n 0, 1) := by decide +kernel
theorem dX5_of_85 : decode cX5_of 85 = .ok (.getfield 10, 3) := by decide +kernel
theorem dX5_of_88 : decode cX5_of 88 = .ok (.getfield 81, 3) := by decide +kernel
theorem dX5_of_91 : decode cX5_of 91 = .ok (.iload_n 1, 1) := by decide +kernel
theorem dX5_of_92 : decode cX5_of 92 = .ok (.iaload, 1) := by decide +kernel
theorem dX5_of_93 : decode cX5_of 93 = .ok (.ireturn, 1) := by decide +kernel
theorem dX5_of_94 : decode cX5_of 94 = .ok (.aload_n 0, 1) := by decide +kernel
theorem dX5_of_95 : decode cX5_of 95 = .ok (.getfield 10, 3) := by decide +kernel
theorem dX5_of_98 : decode cX5_of 98 = .ok (.getfield 84, 3) := by decide +kernel
theorem dX5_of_101 : decode cX5_of 101 = .ok (.iload_n 1, 1) := by decide +kernel
theorem dX5_of_102 : decode cX5_of 102 = .ok (.iaload, 1) := by decide +kernel
theorem dX5_of_103 : decode cX5_of 103 = .ok (.ireturn, 1) := by decide +kernel
theorem dX5_of_104 : decode cX5_of 104 = .ok (.aload_n 0, 1) := by decide +kernel
theorem dX5_of_105 : decode cX5_of 105 = .ok (.getfield 10, 3) := by decide +kernel
theorem dX5_of_108 : decode cX5_of 108 = .ok (.getfield 87, 3) := by decide +kernel
theorem dX5_of_111 : decode cX5_of 111 = .ok (.iload_n 1, 1) := by decide +kernel
theorem dX5_of_112 : decode cX5_of 112 = .ok (.iaload, 1) := by decide +kernel
theorem dX5_of_113 : decode cX5_of 113 = .ok (.ireturn, 1) := by decide +kernel
theorem dX5_of_114 : decode cX5_of 114 = .ok (.aload_n 0, 1) := by decide +kernel
theorem dX5_of_115 : decode cX5_of 115 = .ok (.getfield 10, 3) := by decide +kernel
theorem dX5_of_118 : decode cX5_of 118 = .ok (.getfield 75, 3) := by decide +kernel
theorem dX5_of_121 : decode cX5_of 121 = .ok (.iload_n 1, 1) := by decide +kernel
theorem dX5_of_122 : decode cX5_of 122 = .ok (.iaload, 1) := by decide +kernel
theorem dX5_of_123 : decode cX5_of 123 = .ok (.aload_n 0, 1) := by decide +kernel
theorem dX5_of_124 : decode cX5_of 124 = .ok (.getfield 10, 3) := by decide +kernel
theorem dX5_of_127 : decode cX5_of 127 = .ok (.getfield 87, 3) := by decide +kernel
theorem dX5_of_130 : decode cX5_of 130 = .ok (.iload_n 1, 1) := by decide +kernel
theorem dX5_of_131 : decode cX5_of 131 = .ok (.iaload, 1) := by decide +kernel
theorem dX5_of_132 : decode cX5_of 132 = .ok (.invokestatic 90, 3) := by decide +kernel
theorem dX5_of_135 : decode cX5_of 135 = .ok (.ireturn, 1) := by decide +kernel
theorem dX5_of_136 : decode cX5_of 136 = .ok (.aload_n 0, 1) := by decide +kernel
theorem dX5_of_137 : decode cX5_of 137 = .ok (.getfield 10, 3) := by decide +kernel
theorem dX5_of_140 : decode cX5_of 140 = .ok (.getfield 75, 3) := by decide +kernel
theorem dX5_of_143 : decode cX5_of 143 = .ok (.iload_n 1, 1) := by decide +kernel
theorem dX5_of_144 : decode cX5_of 144 = .ok (.iaload, 1) := by decide +kernel
theorem dX5_of_145 : decode cX5_of 145 = .ok (.aload_n 0, 1) := by decide +kernel
theorem dX5_of_146 : decode cX5_of 146 = .ok (.getfield 10, 3) := by decide +kernel
theorem dX5_of_149 : decode cX5_of 149 = .ok (.getfield 84, 3) := by decide +kernel
theorem dX5_of_152 : decode cX5_of 152 = .ok (.iload_n 1, 1) := by decide +kernel
theorem dX5_of_153 : decode cX5_of 153 = .ok (.iaload, 1) := by decide +kernel
theorem dX5_of_154 : decode cX5_of 154 = .ok (.invokestatic 95, 3) := by decide +kernel
theorem dX5_of_157 : decode cX5_of 157 = .ok (.ireturn, 1) := by decide +kernel
theorem dX5_of_158 : decode cX5_of 158 = .ok (.aload_n 0, 1) := by decide +kernel
theorem dX5_of_159 : decode cX5_of 159 = .ok (.getfield 10, 3) := by decide +kernel
theorem dX5_of_162 : decode cX5_of 162 = .ok (.getfield 98, 3) := by decide +kernel
theorem dX5_of_165 : decode cX5_of 165 = .ok (.iload_n 1, 1) := by decide +kernel
theorem dX5_of_166 : decode cX5_of 166 = .ok (.iaload, 1) := by decide +kernel
theorem dX5_of_167 : decode cX5_of 167 = .ok (.invokestatic 101, 3) := by decide +kernel
theorem dX5_of_170 : decode cX5_of 170 = .ok (.ireturn, 1) := by decide +kernel
theorem dX5_of_171 : decode cX5_of 171 = .ok (.aload_n 0, 1) := by decide +kernel
theorem dX5_of_172 : decode cX5_of 172 = .ok (.ldc 58, 2) := by decide +kernel
theorem dX5_of_174 : decode cX5_of 174 = .ok (.invokevirtual 59, 3) := by decide +kernel
theorem dX5_of_177 : decode cX5_of 177 = .ok (.ireturn, 1) := by decide +kernel
theorem dX5_change_0 : decode cX5_change 0 = .ok (.aload_n 0, 1) := by decide +kernel
theorem dX5_change_1 : decode cX5_change 1 = .ok (.iload_n 1, 1) := by decide +kernel
theorem dX5_change_2 : decode cX5_change 2 = .ok (.invokevirtual 72, 3) := by decide +kernel
theorem dX5_change_5 : decode cX5_change 5 = .ok (.ifCond .eq 11, 3) := by decide +kernel
theorem dX5_change_8 : decode cX5_change 8 = .ok (.iload_n 2, 1) := by decide +kernel
theorem dX5_change_9 : decode cX5_change 9 = .ok (.iload_n 3, 1) := by decide +kernel
theorem dX5_change_10 : decode cX5_change 10 = .ok (.invokestatic 106, 3) := by decide +kernel
theorem dX5_change_13 : decode cX5_change 13 = .ok (.ifCond .ne 10, 3) := by decide +kernel
theorem dX5_change_16 : decode cX5_change 16 = .ok (.aload_n 0, 1) := by decide +kernel
theorem dX5_change_17 : decode cX5_change 17 = .ok (.ldc 58, 2) := by decide +kernel
theorem dX5_change_19 : decode cX5_change 19 = .ok (.invokevirtual 59, 3) := by decide +kernel
theorem dX5_change_22 : decode cX5_change 22 = .ok (.ireturn, 1) := by decide +kernel
theorem dX5_change_23 : decode cX5_change 23 = .ok (.iload_n 2, 1) := by decide +kernel
theorem dX5_change_24 : decode cX5_change 24 = .ok (.tableswitch 78 0 3 #[32, 45, 52, 65], 32) := by decide +kernel
theorem dX5_change_56 : decode cX5_change 56 = .ok (.aload_n 0, 1) := by decide +kernel
theorem dX5_change_57 : decode cX5_change 57 = .ok (.getfield 10, 3) := by decide +kernel
theorem dX5_change_60 : decode cX5_change 60 = .ok (.getfield 75, 3) := by decide +kernel
theorem dX5_change_63 : decode cX5_change 63 = .ok (.iload_n 1, 1) := by decide +kernel
theorem dX5_change_64 : decode cX5_change 64 = .ok (.iload_n 3, 1) := by decide +kernel
theorem dX5_change_65 : decode cX5_change 65 = .ok (.invokestatic 110, 3) := by decide +kernel
theorem dX5_change_68 : decode cX5_change 68 = .ok (.ireturn, 1) := by decide +kernel
theorem dX5_change_69 : decode cX5_change 69 = .ok (.aload_n 0, 1) := by decide +kernel
theorem dX5_change_70 : decode cX5_change 70 = .ok (.iload_n 1, 1) := by decide +kernel
theorem dX5_change_71 : decode cX5_change 71 = .ok (.iload_n 3, 1) := by decide +kernel
theorem dX5_change_72 : decode cX5_change 72 = .ok (.invokevirtual 114, 3) := by decide +kernel
theorem dX5_change_75 : decode cX5_change 75 = .ok (.ireturn, 1) := by decide +kernel
theorem dX5_change_76 : decode cX5_change 76 = .ok (.aload_n 0, 1) := by decide +kernel
theorem dX5_change_77 : decode cX5_change 77 = .ok (.getfield 10, 3) := by decide +kernel
theorem dX5_change_80 : decode cX5_change 80 = .ok (.getfield 81, 3) := by decide +kernel
theorem dX5_change_83 : decode cX5_change 83 = .ok (.iload_n 1, 1) := by decide +kernel
theorem dX5_change_84 : decode cX5_change 84 = .ok (.iload_n 3, 1) := by decide +kernel
theorem dX5_change_85 : decode cX5_change 85 = .ok (.invokestatic 110, 3) := by decide +kernel
theorem dX5_change_88 : decode cX5_change 88 = .ok (.ireturn, 1) := by decide +kernel
theorem dX5_change_89 : decode cX5_change 89 = .ok (.aload_n 0, 1) := by decide +kernel
theorem dX5_change_90 : decode cX5_change 90 = .ok (.getfield 10, 3) := by decide +kernel
theorem dX5_change_93 : decode cX5_change 93 = .ok (.getfield 84, 3) := by decide +kernel
theorem dX5_change_96 : decode cX5_change 96 = .ok (.iload_n 1, 1) := by decide +kernel
theorem dX5_change_97 : decode cX5_change 97 = .ok (.iload_n 3, 1) := by decide +kernel
theorem dX5_change_98 : decode cX5_change 98 = .ok (.invokestatic 110, 3) := by decide +kernel
theorem dX5_change_101 : decode cX5_change 101 = .ok (.ireturn, 1) := by decide +kernel
theorem dX5_change_102 : decode cX5_change 102 = .ok (.aload_n 0, 1) := by decide +kernel
theorem dX5_change_103 : decode cX5_change 103 = .ok (.getfield 10, 3) := by decide +kernel
theorem dX5_change_106 : decode cX5_change 106 = .ok (.getfield 87, 3) := by decide +kernel
theorem dX5_change_109 : decode cX5_change 109 = .ok (.iload_n 1, 1) := by decide +kernel
theorem dX5_change_110 : decode cX5_change 110 = .ok (.iload_n 3, 1) := by decide +kernel
theorem dX5_change_111 : decode cX5_change 111 = .ok (.invokestatic 110, 3) := by decide +kernel
theorem dX5_change_114 : decode cX5_change 114 = .ok (.ireturn, 1) := by decide +kernel
theorem dX5_joke_0 : decode cX5_joke 0 = .ok (.iload_n 1, 1) := by decide +kernel
theorem dX5_joke_1 : decode cX5_joke 1 = .ok (.invokestatic 117, 3) := by decide +kernel
theorem dX5_joke_4 : decode cX5_joke 4 = .ok (.ifCond .eq 10, 3) := by decide +kernel
theorem dX5_joke_7 : decode cX5_joke 7 = .ok (.iload_n 2, 1) := by decide +kernel
theorem dX5_joke_8 : decode cX5_joke 8 = .ok (.invokestatic 120, 3) := by decide +kernel
theorem dX5_joke_11 : decode cX5_joke 11 = .ok (.ifCond .ne 10, 3) := by decide +kernel
theorem dX5_joke_14 : decode cX5_joke 14 = .ok (.aload_n 0, 1) := by decide +kernel
theorem dX5_joke_15 : decode cX5_joke 15 = .ok (.ldc 58, 2) := by decide +kernel
theorem dX5_joke_17 : decode cX5_joke 17 = .ok (.invokevirtual 59, 3) := by decide +kernel
theorem dX5_joke_20 : decode cX5_joke 20 = .ok (.ireturn, 1) := by decide +kernel
theorem dX5_joke_21 : decode cX5_joke 21 = .ok (.aload_n 0, 1) := by decide +kernel
theorem dX5_joke_22 : decode cX5_joke 22 = .ok (.getfield 10, 3) := by decide +kernel
theorem dX5_joke_25 : decode cX5_joke 25 = .ok (.getfield 123, 3) := by decide +kernel
theorem dX5_joke_28 : decode cX5_joke 28 = .ok (.bipush 8, 2) := by decide +kernel
theorem dX5_joke_30 : decode cX5_joke 30 = .ok (.if_icmp .lt 10, 3) := by decide +kernel
theorem dX5_joke_33 : decode cX5_joke 33 = .ok (.aload_n 0, 1) := by decide +kernel
theorem dX5_joke_34 : decode cX5_joke 34 = .ok (.ldc 67, 2) := by decide +kernel
theorem dX5_joke_36 : decode cX5_joke 36 = .ok (.invokevirtual 59, 3) := by decide +kernel
theorem dX5_joke_39 : decode cX5_joke 39 = .ok (.ireturn, 1) := by decide +kernel
theorem dX5_joke_40 : decode cX5_joke 40 = .ok (.aload_n 0, 1) := by decide +kernel
theorem dX5_joke_41 : decode cX5_joke 41 = .ok (.getfield 10, 3) := by decide +kernel
theorem dX5_joke_44 : decode cX5_joke 44 = .ok (.iload_n 1, 1) := by decide +kernel
theorem dX5_joke_45 : decode cX5_joke 45 = .ok (.iload_n 2, 1) := by decide +kernel
theorem dX5_joke_46 : decode cX5_joke 46 = .ok (.invokevirtual 126, 3) := by decide +kernel
theorem dX5_joke_49 : decode cX5_joke 49 = .ok (.ireturn, 1) := by decide +kernel
theorem dX5_jokeOf_0 : decode cX5_jokeOf 0 = .ok (.aload_n 0, 1) := by decide +kernel
theorem dX5_jokeOf_1 : decode cX5_jokeOf 1 = .ok (.iload_n 1, 1) := by decide +kernel
theorem dX5_jokeOf_2 : decode cX5_jokeOf 2 = .ok (.invokevirtual 129, 3) := by decide +kernel
theorem dX5_jokeOf_5 : decode cX5_jokeOf 5 = .ok (.ifCond .eq 12, 3) := by decide +kernel
theorem dX5_jokeOf_8 : decode cX5_jokeOf 8 = .ok (.iload_n 2, 1) := by decide +kernel
theorem dX5_jokeOf_9 : decode cX5_jokeOf 9 = .ok (.iconst 0, 1) := by decide +kernel
theorem dX5_jokeOf_10 : decode cX5_jokeOf 10 = .ok (.iconst 1, 1) := by decide +kernel
theorem dX5_jokeOf_11 : decode cX5_jokeOf 11 = .ok (.invokestatic 132, 3) := by decide +kernel
theorem dX5_jokeOf_14 : decode cX5_jokeOf 14 = .ok (.ifCond .ne 10, 3) := by decide +kernel
theorem dX5_jokeOf_17 : decode cX5_jokeOf 17 = .ok (.aload_n 0, 1) := by decide +kernel
theorem dX5_jokeOf_18 : decode cX5_jokeOf 18 = .ok (.ldc 58, 2) := by decide +kernel
theorem dX5_jokeOf_20 : decode cX5_jokeOf 20 = .ok (.invokevirtual 59, 3) := by decide +kernel
theorem dX5_jokeOf_23 : decode cX5_jokeOf 23 = .ok (.ireturn, 1) := by decide +kernel
theorem dX5_jokeOf_24 : decode cX5_jokeOf 24 = .ok (.iload_n 2, 1) := by decide +kernel
theorem dX5_jokeOf_25 : decode cX5_jokeOf 25 = .ok (.ifCond .ne 15, 3) := by decide +kernel
theorem dX5_jokeOf_28 : decode cX5_jokeOf 28 = .ok (.aload_n 0, 1) := by decide +kernel
theorem dX5_jokeOf_29 : decode cX5_jokeOf 29 = .ok (.getfield 10, 3) := by decide +kernel
theorem dX5_jokeOf_32 : decode cX5_jokeOf 32 = .ok (.getfield 136, 3) := by decide +kernel
theorem dX5_jokeOf_35 : decode cX5_jokeOf 35 = .ok (.iload_n 1, 1) := by decide +kernel
theorem dX5_jokeOf_36 : decode cX5_jokeOf 36 = .ok (.iaload, 1) := by decide +kernel
theorem dX5_jokeOf_37 : decode cX5_jokeOf 37 = .ok (.goto 12, 3) := by decide +kernel
theorem dX5_jokeOf_40 : decode cX5_jokeOf 40 = .ok (.aload_n 0, 1) := by decide +kernel
theorem dX5_jokeOf_41 : decode cX5_jokeOf 41 = .ok (.getfield 10, 3) := by decide +kernel
theorem dX5_jokeOf_44 : decode cX5_jokeOf 44 = .ok (.getfield 139, 3) := by decide +kernel
theorem dX5_jokeOf_47 : decode cX5_jokeOf 47 = .ok (.iload_n 1, 1) := by decide +kernel
theorem dX5_jokeOf_48 : decode cX5_jokeOf 48 = .ok (.iaload, 1) := by decide +kernel
theorem dX5_jokeOf_49 : decode cX5_jokeOf 49 = .ok (.ireturn, 1) := by decide +kernel
theorem dX5_law_0 : decode cX5_law 0 = .ok (.iload_n 1, 1) := by decide +kernel
theorem dX5_law_1 : decode cX5_law 1 = .ok (.ifCond .ne 8, 3) := by decide +kernel
theorem dX5_law_4 : decode cX5_law 4 = .ok (.bipush 20, 2) := by decide +kernel
theorem dX5_law_6 : decode cX5_law 6 = .ok (.goto 5, 3) := by decide +kernel
theorem dX5_law_9 : decode cX5_law 9 = .ok (.bipush 15, 2) := by decide +kernel
theorem dX5_law_11 : decode cX5_law 11 = .ok (.istore_n 3, 1) := by decide +kernel
theorem dX5_law_12 : decode cX5_law 12 = .ok (.iload_n 1, 1) := by decide +kernel
theorem dX5_law_13 : decode cX5_law 13 = .ok (.iconst 0, 1) := by decide +kernel
theorem dX5_law_14 : decode cX5_law 14 = .ok (.iconst 1, 1) := by decide +kernel
theorem dX5_law_15 : decode cX5_law 15 = .ok (.invokestatic 132, 3) := by decide +kernel
theorem dX5_law_18 : decode cX5_law 18 = .ok (.ifCond .eq 12, 3) := by decide +kernel
theorem dX5_law_21 : decode cX5_law 21 = .ok (.iload_n 2, 1) := by decide +kernel
theorem dX5_law_22 : decode cX5_law 22 = .ok (.iconst 0, 1) := by decide +kernel
theorem dX5_law_23 : decode cX5_law 23 = .ok (.iload_n 3, 1) := by decide +kernel
theorem dX5_law_24 : decode cX5_law 24 = .ok (.invokestatic 132, 3) := by decide +kernel
theorem dX5_law_27 : decode cX5_law 27 = .ok (.ifCond .ne 10, 3) := by decide +kernel
theorem dX5_law_30 : decode cX5_law 30 = .ok (.aload_n 0, 1) := by decide +kernel
theorem dX5_law_31 : decode cX5_law 31 = .ok (.ldc 58, 2) := by decide +kernel
theorem dX5_law_33 : decode cX5_law 33 = .ok (.invokevirtual 59, 3) := by decide +kernel
theorem dX5_law_36 : decode cX5_law 36 = .ok (.ireturn, 1) := by decide +kernel
theorem dX5_law_37 : decode cX5_law 37 = .ok (.iload_n 1, 1) := by decide +kernel
theorem dX5_law_38 : decode cX5_law 38 = .ok (.ifCond .ne 13, 3) := by decide +kernel
theorem dX5_law_41 : decode cX5_law 41 = .ok (.aload_n 0, 1) := by decide +kernel
theorem dX5_law_42 : decode cX5_law 42 = .ok (.getfield 10, 3) := by decide +kernel
theorem dX5_law_45 : decode cX5_law 45 = .ok (.getfield 142, 3) := by decide +kernel
theorem dX5_law_48 : decode cX5_law 48 = .ok (.goto 10, 3) := by decide +kernel
theorem dX5_law_51 : decode cX5_law 51 = .ok (.aload_n 0, 1) := by decide +kernel
theorem dX5_law_52 : decode cX5_law 52 = .ok (.getfield 10, 3) := by decide +kernel
theorem dX5_law_55 : decode cX5_law 55 = .ok (.getfield 145, 3) := by decide +kernel
theorem dX5_law_58 : decode cX5_law 58 = .ok (.istore 4, 2) := by decide +kernel
theorem dX5_law_60 : decode cX5_law 60 = .ok (.iload_n 1, 1) := by decide +kernel
theorem dX5_law_61 : decode cX5_law 61 = .ok (.ifCond .ne 14, 3) := by decide +kernel
theorem dX5_law_64 : decode cX5_law 64 = .ok (.aload_n 0, 1) := by decide +kernel
theorem dX5_law_65 : decode cX5_law 65 = .ok (.getfield 10, 3) := by decide +kernel
theorem dX5_law_68 : decode cX5_law 68 = .ok (.iload_n 2, 1) := by decide +kernel
theorem dX5_law_69 : decode cX5_law 69 = .ok (.putfield 142, 3) := by decide +kernel
theorem dX5_law_72 : decode cX5_law 72 = .ok (.goto 11, 3) := by decide +kernel
theorem dX5_law_75 : decode cX5_law 75 = .ok (.aload_n 0, 1) := by decide +kernel
theorem dX5_law_76 : decode cX5_law 76 = .ok (.getfield 10, 3) := by decide +kernel
theorem dX5_law_79 : decode cX5_law 79 = .ok (.iload_n 2, 1) := by decide +kernel
theorem dX5_law_80 : decode cX5_law 80 = .ok (.invokevirtual 148, 3) := by decide +kernel
theorem dX5_law_83 : decode cX5_law 83 = .ok (.iload 4, 2) := by decide +kernel
theorem dX5_law_85 : decode cX5_law 85 = .ok (.ireturn, 1) := by decide +kernel
theorem dX5_strength_0 : decode cX5_strength 0 = .ok (.aload_n 0, 1) := by decide +kernel
theorem dX5_strength_1 : decode cX5_strength 1 = .ok (.iload_n 1, 1) := by decide +kernel
theorem dX5_strength_2 : decode cX5_strength 2 = .ok (.invokevirtual 129, 3) := by decide +kernel
theorem dX5_strength_5 : decode cX5_strength 5 = .ok (.ifCond .eq 11, 3) := by decide +kernel
theorem dX5_strength_8 : decode cX5_strength 8 = .ok (.aload_n 0, 1) := by decide +kernel
theorem dX5_strength_9 : decode cX5_strength 9 = .ok (.iload_n 2, 1) := by decide +kernel
theorem dX5_strength_10 : decode cX5_strength 10 = .ok (.invokevirtual 72, 3) := by decide +kernel
theorem dX5_strength_13 : decode cX5_strength 13 = .ok (.ifCond .ne 10, 3) := by decide +kernel
theorem dX5_strength_16 : decode cX5_strength 16 = .ok (.aload_n 0, 1) := by decide +kernel
theorem dX5_strength_17 : decode cX5_strength 17 = .ok (.ldc 58, 2) := by decide +kernel
theorem dX5_strength_19 : decode cX5_strength 19 = .ok (.invokevirtual 59, 3) := by decide +kernel
theorem dX5_strength_22 : decode cX5_strength 22 = .ok (.ireturn, 1) := by decide +kernel
theorem dX5_strength_23 : decode cX5_strength 23 = .ok (.aload_n 0, 1) := by decide +kernel
theorem dX5_strength_24 : decode cX5_strength 24 = .ok (.getfield 10, 3) := by decide +kernel
theorem dX5_strength_27 : decode cX5_strength 27 = .ok (.iload_n 2, 1) := by decide +kernel
theorem dX5_strength_28 : decode cX5_strength 28 = .ok (.aload_n 0, 1) := by decide +kernel
theorem dX5_strength_29 : decode cX5_strength 29 = .ok (.getfield 10, 3) := by decide +kernel
theorem dX5_strength_32 : decode cX5_strength 32 = .ok (.getfield 136, 3) := by decide +kernel
theorem dX5_strength_35 : decode cX5_strength 35 = .ok (.iload_n 1, 1) := by decide +kernel
theorem dX5_strength_36 : decode cX5_strength 36 = .ok (.iaload, 1) := by decide +kernel
theorem dX5_strength_37 : decode cX5_strength 37 = .ok (.aload_n 0, 1) := by decide +kernel
theorem dX5_strength_38 : decode cX5_strength 38 = .ok (.getfield 10, 3) := by decide +kernel
theorem dX5_strength_41 : decode cX5_strength 41 = .ok (.getfield 139, 3) := by decide +kernel
theorem dX5_strength_44 : decode cX5_strength 44 = .ok (.iload_n 1, 1) := by decide +kernel
theorem dX5_strength_45 : decode cX5_strength 45 = .ok (.iaload, 1) := by decide +kernel
theorem dX5_strength_46 : decode cX5_strength 46 = .ok (.invokevirtual 152, 3) := by decide +kernel
theorem dX5_strength_49 : decode cX5_strength 49 = .ok (.istore 4, 2) := by decide +kernel
theorem dX5_strength_51 : decode cX5_strength 51 = .ok (.iload_n 3, 1) := by decide +kernel
theorem dX5_strength_52 : decode cX5_strength 52 = .ok (.tableswitch 57 0 2 #[28, 31, 46], 28) := by decide +kernel
theorem dX5_strength_80 : decode cX5_strength 80 = .ok (.iload 4, 2) := by decide +kernel
theorem dX5_strength_82 : decode cX5_strength 82 = .ok (.ireturn, 1) := by decide +kernel
theorem dX5_strength_83 : decode cX5_strength 83 = .ok (.aload_n 0, 1) := by decide +kernel
theorem dX5_strength_84 : decode cX5_strength 84 = .ok (.getfield 10, 3) := by decide +kernel
theorem dX5_strength_87 : decode cX5_strength 87 = .ok (.getfield 75, 3) := by decide +kernel
theorem dX5_strength_90 : decode cX5_strength 90 = .ok (.iload_n 2, 1) := by decide +kernel
theorem dX5_strength_91 : decode cX5_strength 91 = .ok (.iaload, 1) := by decide +kernel
theorem dX5_strength_92 : decode cX5_strength 92 = .ok (.iload 4, 2) := by decide +kernel
theorem dX5_strength_94 : decode cX5_strength 94 = .ok (.invokestatic 156, 3) := by decide +kernel
theorem dX5_strength_97 : decode cX5_strength 97 = .ok (.ireturn, 1) := by decide +kernel
theorem dX5_strength_98 : decode cX5_strength 98 = .ok (.aload_n 0, 1) := by decide +kernel
theorem dX5_strength_99 : decode cX5_strength 99 = .ok (.getfield 10, 3) := by decide +kernel
theorem dX5_strength_102 : decode cX5_strength 102 = .ok (.iload_n 2, 1) := by decide +kernel
theorem dX5_strength_103 : decode cX5_strength 103 = .ok (.iload 4, 2) := by decide +kernel
theorem dX5_strength_105 : decode cX5_strength 105 = .ok (.invokevirtual 159, 3) := by decide +kernel
theorem dX5_strength_108 : decode cX5_strength 108 = .ok (.ireturn, 1) := by decide +kernel
theorem dX5_strength_109 : decode cX5_strength 109 = .ok (.aload_n 0, 1) := by decide +kernel
theorem dX5_strength_110 : decode cX5_strength 110 = .ok (.ldc 58, 2) := by decide +kernel
theorem dX5_strength_112 : decode cX5_strength 112 = .ok (.invokevirtual 59, 3) := by decide +kernel
theorem dX5_strength_115 : decode cX5_strength 115 = .ok (.ireturn, 1) := by decide +kernel
theorem dX5_tell_0 : decode cX5_tell 0 = .ok (.aload_n 0, 1) := by decide +kernel
theorem dX5_tell_1 : decode cX5_tell 1 = .ok (.iload_n 1, 1) := by decide +kernel
theorem dX5_tell_2 : decode cX5_tell 2 = .ok (.invokevirtual 129, 3) := by decide +kernel
theorem dX5_tell_5 : decode cX5_tell 5 = .ok (.ifCond .ne 10, 3) := by decide +kernel
theorem dX5_tell_8 : decode cX5_tell 8 = .ok (.aload_n 0, 1) := by decide +kernel
theorem dX5_tell_9 : decode cX5_tell 9 = .ok (.ldc 58, 2) := by decide +kernel
theorem dX5_tell_11 : decode cX5_tell 11 = .ok (.invokevirtual 59, 3) := by decide +kernel
theorem dX5_tell_14 : decode cX5_tell 14 = .ok (.ireturn, 1) := by decide +kernel
theorem dX5_tell_15 : decode cX5_tell 15 = .ok (.aload_n 0, 1) := by decide +kernel
theorem dX5_tell_16 : decode cX5_tell 16 = .ok (.getfield 10, 3) := by decide +kernel
theorem dX5_tell_19 : decode cX5_tell 19 = .ok (.getfield 162, 3) := by decide +kernel
theorem dX5_tell_22 : decode cX5_tell 22 = .ok (.iconst 1, 1) := by decide +kernel
theorem dX5_tell_23 : decode cX5_tell 23 = .ok (.iadd, 1) := by decide +kernel
theorem dX5_tell_24 : decode cX5_tell 24 = .ok (.ldc 165, 2) := by decide +kernel
theorem dX5_tell_26 : decode cX5_tell 26 = .ok (.if_icmp .le 10, 3) := by decide +kernel
theorem dX5_tell_29 : decode cX5_tell 29 = .ok (.aload_n 0, 1) := by decide +kernel
theorem dX5_tell_30 : decode cX5_tell 30 = .ok (.ldc 166, 2) := by decide +kernel
theorem dX5_tell_32 : decode cX5_tell 32 = .ok (.invokevirtual 59, 3) := by decide +kernel
theorem dX5_tell_35 : decode cX5_tell 35 = .ok (.ireturn, 1) := by decide +kernel
theorem dX5_tell_36 : decode cX5_tell 36 = .ok (.aload_n 0, 1) := by decide +kernel
theorem dX5_tell_37 : decode cX5_tell 37 = .ok (.getfield 29, 3) := by decide +kernel
theorem dX5_tell_40 : decode cX5_tell 40 = .ok (.aload_n 0, 1) := by decide +kernel
theorem dX5_tell_41 : decode cX5_tell 41 = .ok (.getfield 10, 3) := by decide +kernel
theorem dX5_tell_44 : decode cX5_tell 44 = .ok (.iload_n 1, 1) := by decide +kernel
theorem dX5_tell_45 : decode cX5_tell 45 = .ok (.invokevirtual 167, 3) := by decide +kernel
theorem dX5_tell_48 : decode cX5_tell 48 = .ok (.ireturn, 1) := by decide +kernel
theorem dX5_evening_0 : decode cX5_evening 0 = .ok (.aload_n 0, 1) := by decide +kernel
theorem dX5_evening_1 : decode cX5_evening 1 = .ok (.iload_n 1, 1) := by decide +kernel
theorem dX5_evening_2 : decode cX5_evening 2 = .ok (.invokevirtual 129, 3) := by decide +kernel
theorem dX5_evening_5 : decode cX5_evening 5 = .ok (.ifCond .eq 13, 3) := by decide +kernel
theorem dX5_evening_8 : decode cX5_evening 8 = .ok (.iload_n 2, 1) := by decide +kernel
theorem dX5_evening_9 : decode cX5_evening 9 = .ok (.iconst 1, 1) := by decide +kernel
theorem dX5_evening_10 : decode cX5_evening 10 = .ok (.bipush 60, 2) := by decide +kernel
theorem dX5_evening_12 : decode cX5_evening 12 = .ok (.invokestatic 132, 3) := by decide +kernel
theorem dX5_evening_15 : decode cX5_evening 15 = .ok (.ifCond .ne 10, 3) := by decide +kernel
theorem dX5_evening_18 : decode cX5_evening 18 = .ok (.aload_n 0, 1) := by decide +kernel
theorem dX5_evening_19 : decode cX5_evening 19 = .ok (.ldc 58, 2) := by decide +kernel
theorem dX5_evening_21 : decode cX5_evening 21 = .ok (.invokevirtual 59, 3) := by decide +kernel
theorem dX5_evening_24 : decode cX5_evening 24 = .ok (.ireturn, 1) := by decide +kernel
theorem dX5_evening_25 : decode cX5_evening 25 = .ok (.aload_n 0, 1) := by decide +kernel
theorem dX5_evening_26 : decode cX5_evening 26 = .ok (.getfield 10, 3) := by decide +kernel
theorem dX5_evening_29 : decode cX5_evening 29 = .ok (.getfield 162, 3) := by decide +kernel
theorem dX5_evening_32 : decode cX5_evening 32 = .ok (.iload_n 2, 1) := by decide +kernel
theorem dX5_evening_33 : decode cX5_evening 33 = .ok (.iadd, 1) := by decide +kernel
theorem dX5_evening_34 : decode cX5_evening 34 = .ok (.ldc 165, 2) := by decide +kernel
theorem dX5_evening_36 : decode cX5_evening 36 = .ok (.if_icmp .le 10, 3) := by decide +kernel
theorem dX5_evening_39 : decode cX5_evening 39 = .ok (.aload_n 0, 1) := by decide +kernel
theorem dX5_evening_40 : decode cX5_evening 40 = .ok (.ldc 166, 2) := by decide +kernel
theorem dX5_evening_42 : decode cX5_evening 42 = .ok (.invokevirtual 59, 3) := by decide +kernel
theorem dX5_evening_45 : decode cX5_evening 45 = .ok (.ireturn, 1) := by decide +kernel
theorem dX5_evening_46 : decode cX5_evening 46 = .ok (.aload_n 0, 1) := by decide +kernel
theorem dX5_evening_47 : decode cX5_evening 47 = .ok (.getfield 29, 3) := by decide +kernel
theorem dX5_evening_50 : decode cX5_evening 50 = .ok (.aload_n 0, 1) := by decide +kernel
theorem dX5_evening_51 : decode cX5_evening 51 = .ok (.getfield 10, 3) := by decide +kernel
theorem dX5_evening_54 : decode cX5_evening 54 = .ok (.iload_n 1, 1) := by decide +kernel
theorem dX5_evening_55 : decode cX5_evening 55 = .ok (.iload_n 2, 1) := by decide +kernel
theorem dX5_evening_56 : decode cX5_evening 56 = .ok (.invokevirtual 171, 3) := by decide +kernel
theorem dX5_evening_59 : decode cX5_evening 59 = .ok (.ireturn, 1) := by decide +kernel
theorem dX5_now_0 : decode cX5_now 0 = .ok (.iload_n 1, 1) := by decide +kernel
theorem dX5_now_1 : decode cX5_now 1 = .ok (.tableswitch 101 0 5 #[39, 47, 55, 70, 85, 93], 39) := by decide +kernel
theorem dX5_now_40 : decode cX5_now 40 = .ok (.aload_n 0, 1) := by decide +kernel
theorem dX5_now_41 : decode cX5_now 41 = .ok (.getfield 10, 3) := by decide +kernel
theorem dX5_now_44 : decode cX5_now 44 = .ok (.getfield 162, 3) := by decide +kernel
theorem dX5_now_47 : decode cX5_now 47 = .ok (.ireturn, 1) := by decide +kernel
theorem dX5_now_48 : decode cX5_now 48 = .ok (.aload_n 0, 1) := by decide +kernel
theorem dX5_now_49 : decode cX5_now 49 = .ok (.getfield 10, 3) := by decide +kernel
theorem dX5_now_52 : decode cX5_now 52 = .ok (.getfield 175, 3) := by decide +kernel
theorem dX5_now_55 : decode cX5_now 55 = .ok (.ireturn, 1) := by decide +kernel
theorem dX5_now_56 : decode cX5_now 56 = .ok (.aload_n 0, 1) := by decide +kernel
theorem dX5_now_57 : decode cX5_now 57 = .ok (.getfield 10, 3) := by decide +kernel
theorem dX5_now_60 : decode cX5_now 60 = .ok (.aload_n 0, 1) := by decide +kernel
theorem dX5_now_61 : decode cX5_now 61 = .ok (.getfield 10, 3) := by decide +kernel
theorem dX5_now_64 : decode cX5_now 64 = .ok (.getfield 87, 3) := by decide +kernel
theorem dX5_now_67 : decode cX5_now 67 = .ok (.invokevirtual 178, 3) := by decide +kernel
theorem dX5_now_70 : decode cX5_now 70 = .ok (.ireturn, 1) := by decide +kernel
theorem dX5_now_71 : decode cX5_now 71 = .ok (.aload_n 0, 1) := by decide +kernel
theorem dX5_now_72 : decode cX5_now 72 = .ok (.getfield 10, 3) := by decide +kernel
theorem dX5_now_75 : decode cX5_now 75 = .ok (.aload_n 0, 1) := by decide +kernel
theorem dX5_now_76 : decode cX5_now 76 = .ok (.getfield 10, 3) := by decide +kernel
theorem dX5_now_79 : decode cX5_now 79 = .ok (.getfield 84, 3) := by decide +kernel
theorem dX5_now_82 : decode cX5_now 82 = .ok (.invokevirtual 178, 3) := by decide +kernel
theorem dX5_now_85 : decode cX5_now 85 = .ok (.ireturn, 1) := by decide +kernel
theorem dX5_now_86 : decode cX5_now 86 = .ok (.aload_n 0, 1) := by decide +kernel
theorem dX5_now_87 : decode cX5_now 87 = .ok (.getfield 10, 3) := by decide +kernel
theorem dX5_now_90 : decode cX5_now 90 = .ok (.getfield 142, 3) := by decide +kernel
theorem dX5_now_93 : decode cX5_now 93 = .ok (.ireturn, 1) := by decide +kernel
theorem dX5_now_94 : decode cX5_now 94 = .ok (.aload_n 0, 1) := by decide +kernel
theorem dX5_now_95 : decode cX5_now 95 = .ok (.getfield 10, 3) := by decide +kernel
theorem dX5_now_98 : decode cX5_now 98 = .ok (.getfield 145, 3) := by decide +kernel
theorem dX5_now_101 : decode cX5_now 101 = .ok (.ireturn, 1) := by decide +kernel
theorem dX5_now_102 : decode cX5_now 102 = .ok (.aload_n 0, 1) := by decide +kernel
theorem dX5_now_103 : decode cX5_now 103 = .ok (.ldc 58, 2) := by decide +kernel
theorem dX5_now_105 : decode cX5_now 105 = .ok (.invokevirtual 59, 3) := by decide +kernel
theorem dX5_now_108 : decode cX5_now 108 = .ok (.ireturn, 1) := by decide +kernel
theorem dX5_relief_0 : decode cX5_relief 0 = .ok (.iload_n 1, 1) := by decide +kernel
theorem dX5_relief_1 : decode cX5_relief 1 = .ok (.iconst 0, 1) := by decide +kernel
theorem dX5_relief_2 : decode cX5_relief 2 = .ok (.sipush 9999, 3) := by decide +kernel
theorem dX5_relief_5 : decode cX5_relief 5 = .ok (.invokestatic 132, 3) := by decide +kernel
theorem dX5_relief_8 : decode cX5_relief 8 = .ok (.ifCond .ne 10, 3) := by decide +kernel
theorem dX5_relief_11 : decode cX5_relief 11 = .ok (.aload_n 0, 1) := by decide +kernel
theorem dX5_relief_12 : decode cX5_relief 12 = .ok (.ldc 58, 2) := by decide +kernel
theorem dX5_relief_14 : decode cX5_relief 14 = .ok (.invokevirtual 59, 3) := by decide +kernel
theorem dX5_relief_17 : decode cX5_relief 17 = .ok (.ireturn, 1) := by decide +kernel
theorem dX5_relief_18 : decode cX5_relief 18 = .ok (.aload_n 0, 1) := by decide +kernel
theorem dX5_relief_19 : decode cX5_relief 19 = .ok (.getfield 10, 3) := by decide +kernel
theorem dX5_relief_22 : decode cX5_relief 22 = .ok (.getfield 63, 3) := by decide +kernel
theorem dX5_relief_25 : decode cX5_relief 25 = .ok (.ifCond .ne 10, 3) := by decide +kernel
theorem dX5_relief_28 : decode cX5_relief 28 = .ok (.aload_n 0, 1) := by decide +kernel
theorem dX5_relief_29 : decode cX5_relief 29 = .ok (.ldc 182, 2) := by decide +kernel
theorem dX5_relief_31 : decode cX5_relief 31 = .ok (.invokevirtual 59, 3) := by decide +kernel
theorem dX5_relief_34 : decode cX5_relief 34 = .ok (.ireturn, 1) := by decide +kernel
theorem dX5_relief_35 : decode cX5_relief 35 = .ok (.iload_n 1, 1) := by decide +kernel
theorem dX5_relief_36 : decode cX5_relief 36 = .ok (.aload_n 0, 1) := by decide +kernel
theorem dX5_relief_37 : decode cX5_relief 37 = .ok (.getfield 10, 3) := by decide +kernel
theorem dX5_relief_40 : decode cX5_relief 40 = .ok (.getfield 175, 3) := by decide +kernel
theorem dX5_relief_43 : decode cX5_relief 43 = .ok (.invokestatic 183, 3) := by decide +kernel
theorem dX5_relief_46 : decode cX5_relief 46 = .ok (.istore_n 2, 1) := by decide +kernel
theorem dX5_relief_47 : decode cX5_relief 47 = .ok (.iconst 0, 1) := by decide +kernel
theorem dX5_relief_48 : decode cX5_relief 48 = .ok (.istore_n 3, 1) := by decide +kernel
theorem dX5_relief_49 : decode cX5_relief 49 = .ok (.iload_n 3, 1) := by decide +kernel
theorem dX5_relief_50 : decode cX5_relief 50 = .ok (.iload_n 2, 1) := by decide +kernel
theorem dX5_relief_51 : decode cX5_relief 51 = .ok (.if_icmp .ge 63, 3) := by decide +kernel
theorem dX5_relief_54 : decode cX5_relief 54 = .ok (.aload_n 0, 1) := by decide +kernel
theorem dX5_relief_55 : decode cX5_relief 55 = .ok (.getfield 10, 3) := by decide +kernel
theorem dX5_relief_58 : decode cX5_relief 58 = .ok (.invokevirtual 188, 3) := by decide +kernel
theorem dX5_relief_61 : decode cX5_relief 61 = .ok (.istore 4, 2) := by decide +kernel
theorem dX5_relief_63 : decode cX5_relief 63 = .ok (.aload_n 0, 1) := by decide +kernel
theorem dX5_relief_64 : decode cX5_relief 64 = .ok (.getfield 10, 3) := by decide +kernel
theorem dX5_relief_67 : decode cX5_relief 67 = .ok (.getfield 87, 3) := by decide +kernel
theorem dX5_relief_70 : decode cX5_relief 70 = .ok (.iload 4, 2) := by decide +kernel
theorem dX5_relief_72 : decode cX5_relief 72 = .ok (.iaload, 1) := by decide +kernel
theorem dX5_relief_73 : decode cX5_relief 73 = .ok (.sipush 9999, 3) := by decide +kernel
theorem dX5_relief_76 : decode cX5_relief 76 = .ok (.if_icmp .lt 5, 3) := by decide +kernel
theorem dX5_relief_79 : decode cX5_relief 79 = .ok (.iload_n 3, 1) := by decide +kernel
theorem dX5_relief_80 : decode cX5_relief 80 = .ok (.ireturn, 1) := by decide +kernel
theorem dX5_relief_81 : decode cX5_relief 81 = .ok (.aload_n 0, 1) := by decide +kernel
theorem dX5_relief_82 : decode cX5_relief 82 = .ok (.getfield 10, 3) := by decide +kernel
theorem dX5_relief_85 : decode cX5_relief 85 = .ok (.getfield 87, 3) := by decide +kernel
theorem dX5_relief_88 : decode cX5_relief 88 = .ok (.iload 4, 2) := by decide +kernel
theorem dX5_relief_90 : decode cX5_relief 90 = .ok (.dup2, 1) := by decide +kernel
theorem dX5_relief_91 : decode cX5_relief 91 = .ok (.iaload, 1) := by decide +kernel
theorem dX5_relief_92 : decode cX5_relief 92 = .ok (.iconst 1, 1) := by decide +kernel
theorem dX5_relief_93 : decode cX5_relief 93 = .ok (.iadd, 1) := by decide +kernel
theorem dX5_relief_94 : decode cX5_relief 94 = .ok (.iastore, 1) := by decide +kernel
theorem dX5_relief_95 : decode cX5_relief 95 = .ok (.aload_n 0, 1) := by decide +kernel
theorem dX5_relief_96 : decode cX5_relief 96 = .ok (.getfield 10, 3) := by decide +kernel
theorem dX5_relief_99 : decode cX5_relief 99 = .ok (.dup, 1) := by decide +kernel
theorem dX5_relief_100 : decode cX5_relief 100 = .ok (.getfield 175, 3) := by decide +kernel
theorem dX5_relief_103 : decode cX5_relief 103 = .ok (.iconst 1, 1) := by decide +kernel
theorem dX5_relief_104 : decode cX5_relief 104 = .ok (.isub, 1) := by decide +kernel
theorem dX5_relief_105 : decode cX5_relief 105 = .ok (.putfield 175, 3) := by decide +kernel
theorem dX5_relief_108 : decode cX5_relief 108 = .ok (.iinc 3 1, 3) := by decide +kernel
theorem dX5_relief_111 : decode cX5_relief 111 = .ok (.goto (-62), 3) := by decide +kernel
theorem dX5_relief_114 : decode cX5_relief 114 = .ok (.iload_n 2, 1) := by decide +kernel
theorem dX5_relief_115 : decode cX5_relief 115 = .ok (.ireturn, 1) := by decide +kernel
theorem dX5_laugh_0 : decode cX5_laugh 0 = .ok (.aload_n 0, 1) := by decide +kernel
theorem dX5_laugh_1 : decode cX5_laugh 1 = .ok (.iload_n 1, 1) := by decide +kernel
theorem dX5_laugh_2 : decode cX5_laugh 2 = .ok (.invokevirtual 129, 3) := by decide +kernel
theorem dX5_laugh_5 : decode cX5_laugh 5 = .ok (.ifCond .eq 12, 3) := by decide +kernel
theorem dX5_laugh_8 : decode cX5_laugh 8 = .ok (.iload_n 2, 1) := by decide +kernel
theorem dX5_laugh_9 : decode cX5_laugh 9 = .ok (.iconst 0, 1) := by decide +kernel
theorem dX5_laugh_10 : decode cX5_laugh 10 = .ok (.iconst 1, 1) := by decide +kernel
theorem dX5_laugh_11 : decode cX5_laugh 11 = .ok (.invokestatic 132, 3) := by decide +kernel
theorem dX5_laugh_14 : decode cX5_laugh 14 = .ok (.ifCond .ne 10, 3) := by decide +kernel
theorem dX5_laugh_17 : decode cX5_laugh 17 = .ok (.aload_n 0, 1) := by decide +kernel
theorem dX5_laugh_18 : decode cX5_laugh 18 = .ok (.ldc 58, 2) := by decide +kernel
theorem dX5_laugh_20 : decode cX5_laugh 20 = .ok (.invokevirtual 59, 3) := by decide +kernel
theorem dX5_laugh_23 : decode cX5_laugh 23 = .ok (.ireturn, 1) := by decide +kernel
theorem dX5_laugh_24 : decode cX5_laugh 24 = .ok (.iload_n 2, 1) := by decide +kernel
theorem dX5_laugh_25 : decode cX5_laugh 25 = .ok (.ifCond .ne 33, 3) := by decide +kernel
theorem dX5_laugh_28 : decode cX5_laugh 28 = .ok (.aload_n 0, 1) := by decide +kernel
theorem dX5_laugh_29 : decode cX5_laugh 29 = .ok (.getfield 29, 3) := by decide +kernel
theorem dX5_laugh_32 : decode cX5_laugh 32 = .ok (.aload_n 0, 1) := by decide +kernel
theorem dX5_laugh_33 : decode cX5_laugh 33 = .ok (.getfield 10, 3) := by decide +kernel
theorem dX5_laugh_36 : decode cX5_laugh 36 = .ok (.aload_n 0, 1) := by decide +kernel
theorem dX5_laugh_37 : decode cX5_laugh 37 = .ok (.getfield 10, 3) := by decide +kernel
theorem dX5_laugh_40 : decode cX5_laugh 40 = .ok (.getfield 136, 3) := by decide +kernel
theorem dX5_laugh_43 : decode cX5_laugh 43 = .ok (.iload_n 1, 1) := by decide +kernel
theorem dX5_laugh_44 : decode cX5_laugh 44 = .ok (.iaload, 1) := by decide +kernel
theorem dX5_laugh_45 : decode cX5_laugh 45 = .ok (.aload_n 0, 1) := by decide +kernel
theorem dX5_laugh_46 : decode cX5_laugh 46 = .ok (.getfield 10, 3) := by decide +kernel
theorem dX5_laugh_49 : decode cX5_laugh 49 = .ok (.getfield 139, 3) := by decide +kernel
theorem dX5_laugh_52 : decode cX5_laugh 52 = .ok (.iload_n 1, 1) := by decide +kernel
theorem dX5_laugh_53 : decode cX5_laugh 53 = .ok (.iaload, 1) := by decide +kernel
theorem dX5_laugh_54 : decode cX5_laugh 54 = .ok (.invokevirtual 192, 3) := by decide +kernel
theorem dX5_laugh_57 : decode cX5_laugh 57 = .ok (.ireturn, 1) := by decide +kernel
theorem dX5_laugh_58 : decode cX5_laugh 58 = .ok (.aload_n 0, 1) := by decide +kernel
theorem dX5_laugh_59 : decode cX5_laugh 59 = .ok (.getfield 29, 3) := by decide +kernel
theorem dX5_laugh_62 : decode cX5_laugh 62 = .ok (.aload_n 0, 1) := by decide +kernel
theorem dX5_laugh_63 : decode cX5_laugh 63 = .ok (.getfield 10, 3) := by decide +kernel
theorem dX5_laugh_66 : decode cX5_laugh 66 = .ok (.iload_n 1, 1) := by decide +kernel
theorem dX5_laugh_67 : decode cX5_laugh 67 = .ok (.invokevirtual 195, 3) := by decide +kernel
theorem dX5_laugh_70 : decode cX5_laugh 70 = .ok (.ireturn, 1) := by decide +kernel
theorem dX5_rounds_0 : decode cX5_rounds 0 = .ok (.aload_n 0, 1) := by decide +kernel
theorem dX5_rounds_1 : decode cX5_rounds 1 = .ok (.iload_n 1, 1) := by decide +kernel
theorem dX5_rounds_2 : decode cX5_rounds 2 = .ok (.invokevirtual 129, 3) := by decide +kernel
theorem dX5_rounds_5 : decode cX5_rounds 5 = .ok (.ifCond .ne 10, 3) := by decide +kernel
theorem dX5_rounds_8 : decode cX5_rounds 8 = .ok (.aload_n 0, 1) := by decide +kernel
theorem dX5_rounds_9 : decode cX5_rounds 9 = .ok (.ldc 58, 2) := by decide +kernel
theorem dX5_rounds_11 : decode cX5_rounds 11 = .ok (.invokevirtual 59, 3) := by decide +kernel
theorem dX5_rounds_14 : decode cX5_rounds 14 = .ok (.ireturn, 1) := by decide +kernel
theorem dX5_rounds_15 : decode cX5_rounds 15 = .ok (.aload_n 0, 1) := by decide +kernel
theorem dX5_rounds_16 : decode cX5_rounds 16 = .ok (.getfield 29, 3) := by decide +kernel
theorem dX5_rounds_19 : decode cX5_rounds 19 = .ok (.aload_n 0, 1) := by decide +kernel
theorem dX5_rounds_20 : decode cX5_rounds 20 = .ok (.getfield 10, 3) := by decide +kernel
theorem dX5_rounds_23 : decode cX5_rounds 23 = .ok (.iload_n 1, 1) := by decide +kernel
theorem dX5_rounds_24 : decode cX5_rounds 24 = .ok (.invokevirtual 195, 3) := by decide +kernel
theorem dX5_rounds_27 : decode cX5_rounds 27 = .ok (.pop, 1) := by decide +kernel
theorem dX5_rounds_28 : decode cX5_rounds 28 = .ok (.aload_n 0, 1) := by decide +kernel
theorem dX5_rounds_29 : decode cX5_rounds 29 = .ok (.getfield 29, 3) := by decide +kernel
theorem dX5_rounds_32 : decode cX5_rounds 32 = .ok (.getfield 198, 3) := by decide +kernel
theorem dX5_rounds_35 : decode cX5_rounds 35 = .ok (.ireturn, 1) := by decide +kernel
theorem dX5_raised_0 : decode cX5_raised 0 = .ok (.aload_n 0, 1) := by decide +kernel
theorem dX5_raised_1 : decode cX5_raised 1 = .ok (.iload_n 1, 1) := by decide +kernel
theorem dX5_raised_2 : decode cX5_raised 2 = .ok (.invokevirtual 129, 3) := by decide +kernel
theorem dX5_raised_5 : decode cX5_raised 5 = .ok (.ifCond .ne 10, 3) := by decide +kernel
theorem dX5_raised_8 : decode cX5_raised 8 = .ok (.aload_n 0, 1) := by decide +kernel
theorem dX5_raised_9 : decode cX5_raised 9 = .ok (.ldc 58, 2) := by decide +kernel
theorem dX5_raised_11 : decode cX5_raised 11 = .ok (.invokevirtual 59, 3) := by decide +kernel
theorem dX5_raised_14 : decode cX5_raised 14 = .ok (.ireturn, 1) := by decide +kernel
theorem dX5_raised_15 : decode cX5_raised 15 = .ok (.aload_n 0, 1) := by decide +kernel
theorem dX5_raised_16 : decode cX5_raised 16 = .ok (.getfield 16, 3) := by decide +kernel
theorem dX5_raised_19 : decode cX5_raised 19 = .ok (.aload_n 0, 1) := by decide +kernel
theorem dX5_raised_20 : decode cX5_raised 20 = .ok (.getfield 10, 3) := by decide +kernel
theorem dX5_raised_23 : decode cX5_raised 23 = .ok (.invokevirtual 201, 3) := by decide +kernel
theorem dX5_raised_26 : decode cX5_raised 26 = .ok (.aload_n 0, 1) := by decide +kernel
theorem dX5_raised_27 : decode cX5_raised 27 = .ok (.getfield 29, 3) := by decide +kernel
theorem dX5_raised_30 : decode cX5_raised 30 = .ok (.aload_n 0, 1) := by decide +kernel
theorem dX5_raised_31 : decode cX5_raised 31 = .ok (.getfield 16, 3) := by decide +kernel
theorem dX5_raised_34 : decode cX5_raised 34 = .ok (.iload_n 1, 1) := by decide +kernel
theorem dX5_raised_35 : decode cX5_raised 35 = .ok (.invokevirtual 167, 3) := by decide +kernel
theorem dX5_raised_38 : decode cX5_raised 38 = .ok (.pop, 1) := by decide +kernel
theorem dX5_raised_39 : decode cX5_raised 39 = .ok (.aload_n 0, 1) := by decide +kernel
theorem dX5_raised_40 : decode cX5_raised 40 = .ok (.getfield 16, 3) := by decide +kernel
theorem dX5_raised_43 : decode cX5_raised 43 = .ok (.aload_n 0, 1) := by decide +kernel
theorem dX5_raised_44 : decode cX5_raised 44 = .ok (.getfield 29, 3) := by decide +kernel
theorem dX5_raised_47 : decode cX5_raised 47 = .ok (.getfield 205, 3) := by decide +kernel
theorem dX5_raised_50 : decode cX5_raised 50 = .ok (.invokevirtual 178, 3) := by decide +kernel
theorem dX5_raised_53 : decode cX5_raised 53 = .ok (.ireturn, 1) := by decide +kernel
theorem dX5_ahead_0 : decode cX5_ahead 0 = .ok (.aload_n 0, 1) := by decide +kernel
theorem dX5_ahead_1 : decode cX5_ahead 1 = .ok (.iload_n 1, 1) := by decide +kernel
theorem dX5_ahead_2 : decode cX5_ahead 2 = .ok (.invokevirtual 129, 3) := by decide +kernel
theorem dX5_ahead_5 : decode cX5_ahead 5 = .ok (.ifCond .eq 13, 3) := by decide +kernel
theorem dX5_ahead_8 : decode cX5_ahead 8 = .ok (.iload_n 2, 1) := by decide +kernel
theorem dX5_ahead_9 : decode cX5_ahead 9 = .ok (.iconst 0, 1) := by decide +kernel
theorem dX5_ahead_10 : decode cX5_ahead 10 = .ok (.bipush 60, 2) := by decide +kernel
theorem dX5_ahead_12 : decode cX5_ahead 12 = .ok (.invokestatic 132, 3) := by decide +kernel
theorem dX5_ahead_15 : decode cX5_ahead 15 = .ok (.ifCond .ne 10, 3) := by decide +kernel
theorem dX5_ahead_18 : decode cX5_ahead 18 = .ok (.aload_n 0, 1) := by decide +kernel
theorem dX5_ahead_19 : decode cX5_ahead 19 = .ok (.ldc 58, 2) := by decide +kernel
theorem dX5_ahead_21 : decode cX5_ahead 21 = .ok (.invokevirtual 59, 3) := by decide +kernel
theorem dX5_ahead_24 : decode cX5_ahead 24 = .ok (.ireturn, 1) := by decide +kernel
theorem dX5_ahead_25 : decode cX5_ahead 25 = .ok (.aload_n 0, 1) := by decide +kernel
theorem dX5_ahead_26 : decode cX5_ahead 26 = .ok (.getfield 16, 3) := by decide +kernel
theorem dX5_ahead_29 : decode cX5_ahead 29 = .ok (.aload_n 0, 1) := by decide +kernel
theorem dX5_ahead_30 : decode cX5_ahead 30 = .ok (.getfield 10, 3) := by decide +kernel
theorem dX5_ahead_33 : decode cX5_ahead 33 = .ok (.invokevirtual 201, 3) := by decide +kernel
theorem dX5_ahead_36 : decode cX5_ahead 36 = .ok (.aload_n 0, 1) := by decide +kernel
theorem dX5_ahead_37 : decode cX5_ahead 37 = .ok (.getfield 29, 3) := by decide +kernel
theorem dX5_ahead_40 : decode cX5_ahead 40 = .ok (.aload_n 0, 1) := by decide +kernel
theorem dX5_ahead_41 : decode cX5_ahead 41 = .ok (.getfield 16, 3) := by decide +kernel
theorem dX5_ahead_44 : decode cX5_ahead 44 = .ok (.iload_n 1, 1) := by decide +kernel
theorem dX5_ahead_45 : decode cX5_ahead 45 = .ok (.iload_n 2, 1) := by decide +kernel
theorem dX5_ahead_46 : decode cX5_ahead 46 = .ok (.invokevirtual 171, 3) := by decide +kernel
theorem dX5_ahead_49 : decode cX5_ahead 49 = .ok (.ireturn, 1) := by decide +kernel
theorem dX5_stale_0 : decode cX5_stale 0 = .ok (.aload_n 0, 1) := by decide +kernel
theorem dX5_stale_1 : decode cX5_stale 1 = .ok (.iload_n 1, 1) := by decide +kernel
theorem dX5_stale_2 : decode cX5_stale 2 = .ok (.invokevirtual 129, 3) := by decide +kernel
theorem dX5_stale_5 : decode cX5_stale 5 = .ok (.ifCond .ne 10, 3) := by decide +kernel
theorem dX5_stale_8 : decode cX5_stale 8 = .ok (.aload_n 0, 1) := by decide +kernel
theorem dX5_stale_9 : decode cX5_stale 9 = .ok (.ldc 58, 2) := by decide +kernel
theorem dX5_stale_11 : decode cX5_stale 11 = .ok (.invokevirtual 59, 3) := by decide +kernel
theorem dX5_stale_14 : decode cX5_stale 14 = .ok (.ireturn, 1) := by decide +kernel
theorem dX5_stale_15 : decode cX5_stale 15 = .ok (.aload_n 0, 1) := by decide +kernel
theorem dX5_stale_16 : decode cX5_stale 16 = .ok (.getfield 16, 3) := by decide +kernel
theorem dX5_stale_19 : decode cX5_stale 19 = .ok (.aload_n 0, 1) := by decide +kernel
theorem dX5_stale_20 : decode cX5_stale 20 = .ok (.getfield 10, 3) := by decide +kernel
theorem dX5_stale_23 : decode cX5_stale 23 = .ok (.invokevirtual 201, 3) := by decide +kernel
theorem dX5_stale_26 : decode cX5_stale 26 = .ok (.iconst 0, 1) := by decide +kernel
theorem dX5_stale_27 : decode cX5_stale 27 = .ok (.istore_n 2, 1) := by decide +kernel
theorem dX5_stale_28 : decode cX5_stale 28 = .ok (.iload_n 2, 1) := by decide +kernel
theorem dX5_stale_29 : decode cX5_stale 29 = .ok (.bipush 60, 2) := by decide +kernel
theorem dX5_stale_31 : decode cX5_stale 31 = .ok (.if_icmp .gt 26, 3) := by decide +kernel
theorem dX5_stale_34 : decode cX5_stale 34 = .ok (.aload_n 0, 1) := by decide +kernel
theorem dX5_stale_35 : decode cX5_stale 35 = .ok (.getfield 29, 3) := by decide +kernel
theorem dX5_stale_38 : decode cX5_stale 38 = .ok (.aload_n 0, 1) := by decide +kernel
theorem dX5_stale_39 : decode cX5_stale 39 = .ok (.getfield 16, 3) := by decide +kernel
theorem dX5_stale_42 : decode cX5_stale 42 = .ok (.iload_n 1, 1) := by decide +kernel
theorem dX5_stale_43 : decode cX5_stale 43 = .ok (.invokevirtual 167, 3) := by decide +kernel
theorem dX5_stale_46 : decode cX5_stale 46 = .ok (.ifCond .ne 5, 3) := by decide +kernel
theorem dX5_stale_49 : decode cX5_stale 49 = .ok (.iload_n 2, 1) := by decide +kernel
theorem dX5_stale_50 : decode cX5_stale 50 = .ok (.ireturn, 1) := by decide +kernel
theorem dX5_stale_51 : decode cX5_stale 51 = .ok (.iinc 2 1, 3) := by decide +kernel
theorem dX5_stale_54 : decode cX5_stale 54 = .ok (.goto (-26), 3) := by decide +kernel
theorem dX5_stale_57 : decode cX5_stale 57 = .ok (.aload_n 0, 1) := by decide +kernel
theorem dX5_stale_58 : decode cX5_stale 58 = .ok (.ldc 182, 2) := by decide +kernel
theorem dX5_stale_60 : decode cX5_stale 60 = .ok (.invokevirtual 59, 3) := by decide +kernel
theorem dX5_stale_63 : decode cX5_stale 63 = .ok (.ireturn, 1) := by decide +kernel
theorem dX5_broke_0 : decode cX5_broke 0 = .ok (.aload_n 0, 1) := by decide +kernel
theorem dX5_broke_1 : decode cX5_broke 1 = .ok (.iload_n 1, 1) := by decide +kernel
theorem dX5_broke_2 : decode cX5_broke 2 = .ok (.invokevirtual 129, 3) := by decide +kernel
theorem dX5_broke_5 : decode cX5_broke 5 = .ok (.ifCond .eq 11, 3) := by decide +kernel
theorem dX5_broke_8 : decode cX5_broke 8 = .ok (.aload_n 0, 1) := by decide +kernel
theorem dX5_broke_9 : decode cX5_broke 9 = .ok (.iload_n 2, 1) := by decide +kernel
theorem dX5_broke_10 : decode cX5_broke 10 = .ok (.invokevirtual 72, 3) := by decide +kernel
theorem dX5_broke_13 : decode cX5_broke 13 = .ok (.ifCond .ne 10, 3) := by decide +kernel
theorem dX5_broke_16 : decode cX5_broke 16 = .ok (.aload_n 0, 1) := by decide +kernel
theorem dX5_broke_17 : decode cX5_broke 17 = .ok (.ldc 58, 2) := by decide +kernel
theorem dX5_broke_19 : decode cX5_broke 19 = .ok (.invokevirtual 59, 3) := by decide +kernel
theorem dX5_broke_22 : decode cX5_broke 22 = .ok (.ireturn, 1) := by decide +kernel
theorem dX5_broke_23 : decode cX5_broke 23 = .ok (.aload_n 0, 1) := by decide +kernel
theorem dX5_broke_24 : decode cX5_broke 24 = .ok (.getfield 16, 3) := by decide +kernel
theorem dX5_broke_27 : decode cX5_broke 27 = .ok (.aload_n 0, 1) := by decide +kernel
theorem dX5_broke_28 : decode cX5_broke 28 = .ok (.getfield 10, 3) := by decide +kernel
theorem dX5_broke_31 : decode cX5_broke 31 = .ok (.invokevirtual 201, 3) := by decide +kernel
theorem dX5_broke_34 : decode cX5_broke 34 = .ok (.iconst 0, 1) := by decide +kernel
theorem dX5_broke_35 : decode cX5_broke 35 = .ok (.istore_n 3, 1) := by decide +kernel
theorem dX5_broke_36 : decode cX5_broke 36 = .ok (.iload_n 3, 1) := by decide +kernel
theorem dX5_broke_37 : decode cX5_broke 37 = .ok (.bipush 60, 2) := by decide +kernel
theorem dX5_broke_39 : decode cX5_broke 39 = .ok (.if_icmp .gt 36, 3) := by decide +kernel
theorem dX5_broke_42 : decode cX5_broke 42 = .ok (.aload_n 0, 1) := by decide +kernel
theorem dX5_broke_43 : decode cX5_broke 43 = .ok (.getfield 16, 3) := by decide +kernel
theorem dX5_broke_46 : decode cX5_broke 46 = .ok (.getfield 87, 3) := by decide +kernel
theorem dX5_broke_49 : decode cX5_broke 49 = .ok (.iload_n 2, 1) := by decide +kernel
theorem dX5_broke_50 : decode cX5_broke 50 = .ok (.iaload, 1) := by decide +kernel
theorem dX5_broke_51 : decode cX5_broke 51 = .ok (.ifCond .ne 5, 3) := by decide +kernel
theorem dX5_broke_54 : decode cX5_broke 54 = .ok (.iload_n 3, 1) := by decide +kernel
theorem dX5_broke_55 : decode cX5_broke 55 = .ok (.ireturn, 1) := by decide +kernel
theorem dX5_broke_56 : decode cX5_broke 56 = .ok (.aload_n 0, 1) := by decide +kernel
theorem dX5_broke_57 : decode cX5_broke 57 = .ok (.getfield 29, 3) := by decide +kernel
theorem dX5_broke_60 : decode cX5_broke 60 = .ok (.aload_n 0, 1) := by decide +kernel
theorem dX5_broke_61 : decode cX5_broke 61 = .ok (.getfield 16, 3) := by decide +kernel
theorem dX5_broke_64 : decode cX5_broke 64 = .ok (.iload_n 1, 1) := by decide +kernel
theorem dX5_broke_65 : decode cX5_broke 65 = .ok (.invokevirtual 167, 3) := by decide +kernel
theorem dX5_broke_68 : decode cX5_broke 68 = .ok (.pop, 1) := by decide +kernel
theorem dX5_broke_69 : decode cX5_broke 69 = .ok (.iinc 3 1, 3) := by decide +kernel
theorem dX5_broke_72 : decode cX5_broke 72 = .ok (.goto (-36), 3) := by decide +kernel
theorem dX5_broke_75 : decode cX5_broke 75 = .ok (.aload_n 0, 1) := by decide +kernel
theorem dX5_broke_76 : decode cX5_broke 76 = .ok (.ldc 182, 2) := by decide +kernel
theorem dX5_broke_78 : decode cX5_broke 78 = .ok (.invokevirtual 59, 3) := by decide +kernel
theorem dX5_broke_81 : decode cX5_broke 81 = .ok (.ireturn, 1) := by decide +kernel
theorem dX5_caught_0 : decode cX5_caught 0 = .ok (.iload_n 1, 1) := by decide +kernel
theorem dX5_caught_1 : decode cX5_caught 1 = .ok (.iconst 0, 1) := by decide +kernel
theorem dX5_caught_2 : decode cX5_caught 2 = .ok (.aload_n 0, 1) := by decide +kernel
theorem dX5_caught_3 : decode cX5_caught 3 = .ok (.getfield 10, 3) := by decide +kernel
theorem dX5_caught_6 : decode cX5_caught 6 = .ok (.invokevirtual 208, 3) := by decide +kernel
theorem dX5_caught_9 : decode cX5_caught 9 = .ok (.invokestatic 132, 3) := by decide +kernel
theorem dX5_caught_12 : decode cX5_caught 12 = .ok (.ifCond .ne 10, 3) := by decide +kernel
theorem dX5_caught_15 : decode cX5_caught 15 = .ok (.aload_n 0, 1) := by decide +kernel
theorem dX5_caught_16 : decode cX5_caught 16 = .ok (.ldc 58, 2) := by decide +kernel
theorem dX5_caught_18 : decode cX5_caught 18 = .ok (.invokevirtual 59, 3) := by decide +kernel
theorem dX5_caught_21 : decode cX5_caught 21 = .ok (.ireturn, 1) := by decide +kernel
theorem dX5_caught_22 : decode cX5_caught 22 = .ok (.aload_n 0, 1) := by decide +kernel
theorem dX5_caught_23 : decode cX5_caught 23 = .ok (.getfield 29, 3) := by decide +kernel
theorem dX5_caught_26 : decode cX5_caught 26 = .ok (.aload_n 0, 1) := by decide +kernel
theorem dX5_caught_27 : decode cX5_caught 27 = .ok (.getfield 10, 3) := by decide +kernel
theorem dX5_caught_30 : decode cX5_caught 30 = .ok (.iload_n 1, 1) := by decide +kernel
theorem dX5_caught_31 : decode cX5_caught 31 = .ok (.aload_n 0, 1) := by decide +kernel
theorem dX5_caught_32 : decode cX5_caught 32 = .ok (.getfield 10, 3) := by decide +kernel
theorem dX5_caught_35 : decode cX5_caught 35 = .ok (.invokevirtual 208, 3) := by decide +kernel
theorem dX5_caught_38 : decode cX5_caught 38 = .ok (.invokevirtual 211, 3) := by decide +kernel
theorem dX5_caught_41 : decode cX5_caught 41 = .ok (.ireturn, 1) := by decide +kernel
theorem dX5_starter_0 : decode cX5_starter 0 = .ok (.aload_n 0, 1) := by decide +kernel
theorem dX5_starter_1 : decode cX5_starter 1 = .ok (.getfield 10, 3) := by decide +kernel
theorem dX5_starter_4 : decode cX5_starter 4 = .ok (.getfield 63, 3) := by decide +kernel
theorem dX5_starter_7 : decode cX5_starter 7 = .ok (.ifCond .ne 10, 3) := by decide +kernel
theorem dX5_starter_10 : decode cX5_starter 10 = .ok (.aload_n 0, 1) := by decide +kernel
theorem dX5_starter_11 : decode cX5_starter 11 = .ok (.ldc 182, 2) := by decide +kernel
theorem dX5_starter_13 : decode cX5_starter 13 = .ok (.invokevirtual 59, 3) := by decide +kernel
theorem dX5_starter_16 : decode cX5_starter 16 = .ok (.ireturn, 1) := by decide +kernel
theorem dX5_starter_17 : decode cX5_starter 17 = .ok (.iconst 0, 1) := by decide +kernel
theorem dX5_starter_18 : decode cX5_starter 18 = .ok (.istore_n 1, 1) := by decide +kernel
theorem dX5_starter_19 : decode cX5_starter 19 = .ok (.iconst 0, 1) := by decide +kernel
theorem dX5_starter_20 : decode cX5_starter 20 = .ok (.istore_n 2, 1) := by decide +kernel
theorem dX5_starter_21 : decode cX5_starter 21 = .ok (.iconst 0, 1) := by decide +kernel
theorem dX5_starter_22 : decode cX5_starter 22 = .ok (.istore_n 3, 1) := by decide +kernel
theorem dX5_starter_23 : decode cX5_starter 23 = .ok (.iload_n 3, 1) := by decide +kernel
theorem dX5_starter_24 : decode cX5_starter 24 = .ok (.aload_n 0, 1) := by decide +kernel
theorem dX5_starter_25 : decode cX5_starter 25 = .ok (.getfield 10, 3) := by decide +kernel
theorem dX5_starter_28 : decode cX5_starter 28 = .ok (.getfield 63, 3) := by decide +kernel
theorem dX5_starter_31 : decode cX5_starter 31 = .ok (.if_icmp .ge 46, 3) := by decide +kernel
theorem dX5_starter_34 : decode cX5_starter 34 = .ok (.aload_n 0, 1) := by decide +kernel
theorem dX5_starter_35 : decode cX5_starter 35 = .ok (.getfield 29, 3) := by decide +kernel
theorem dX5_starter_38 : decode cX5_starter 38 = .ok (.aload_n 0, 1) := by decide +kernel
theorem dX5_starter_39 : decode cX5_starter 39 = .ok (.getfield 10, 3) := by decide +kernel
theorem dX5_starter_42 : decode cX5_starter 42 = .ok (.iconst 1, 1) := by decide +kernel
theorem dX5_starter_43 : decode cX5_starter 43 = .ok (.iload_n 3, 1) := by decide +kernel
theorem dX5_starter_44 : decode cX5_starter 44 = .ok (.ishl, 1) := by decide +kernel
theorem dX5_starter_45 : decode cX5_starter 45 = .ok (.aload_n 0, 1) := by decide +kernel
theorem dX5_starter_46 : decode cX5_starter 46 = .ok (.getfield 10, 3) := by decide +kernel
theorem dX5_starter_49 : decode cX5_starter 49 = .ok (.invokevirtual 208, 3) := by decide +kernel
theorem dX5_starter_52 : decode cX5_starter 52 = .ok (.invokevirtual 211, 3) := by decide +kernel
theorem dX5_starter_55 : decode cX5_starter 55 = .ok (.invokestatic 101, 3) := by decide +kernel
theorem dX5_starter_58 : decode cX5_starter 58 = .ok (.istore 4, 2) := by decide +kernel
theorem dX5_starter_60 : decode cX5_starter 60 = .ok (.iload 4, 2) := by decide +kernel
theorem dX5_starter_62 : decode cX5_starter 62 = .ok (.iload_n 2, 1) := by decide +kernel
theorem dX5_starter_63 : decode cX5_starter 63 = .ok (.if_icmp .le 8, 3) := by decide +kernel
theorem dX5_starter_66 : decode cX5_starter 66 = .ok (.iload 4, 2) := by decide +kernel
theorem dX5_starter_68 : decode cX5_starter 68 = .ok (.istore_n 2, 1) := by decide +kernel
theorem dX5_starter_69 : decode cX5_starter 69 = .ok (.iload_n 3, 1) := by decide +kernel
theorem dX5_starter_70 : decode cX5_starter 70 = .ok (.istore_n 1, 1) := by decide +kernel
theorem dX5_starter_71 : decode cX5_starter 71 = .ok (.iinc 3 1, 3) := by decide +kernel
theorem dX5_starter_74 : decode cX5_starter 74 = .ok (.goto (-51), 3) := by decide +kernel
theorem dX5_starter_77 : decode cX5_starter 77 = .ok (.iload_n 1, 1) := by decide +kernel
theorem dX5_starter_78 : decode cX5_starter 78 = .ok (.ireturn, 1) := by decide +kernel
theorem dX5_fewest_0 : decode cX5_fewest 0 = .ok (.aload_n 0, 1) := by decide +kernel
theorem dX5_fewest_1 : decode cX5_fewest 1 = .ok (.getfield 10, 3) := by decide +kernel
theorem dX5_fewest_4 : decode cX5_fewest 4 = .ok (.invokevirtual 208, 3) := by decide +kernel
theorem dX5_fewest_7 : decode cX5_fewest 7 = .ok (.istore_n 1, 1) := by decide +kernel
theorem dX5_fewest_8 : decode cX5_fewest 8 = .ok (.iload_n 1, 1) := by decide +kernel
theorem dX5_fewest_9 : decode cX5_fewest 9 = .ok (.istore_n 2, 1) := by decide +kernel
theorem dX5_fewest_10 : decode cX5_fewest 10 = .ok (.iconst 0, 1) := by decide +kernel
theorem dX5_fewest_11 : decode cX5_fewest 11 = .ok (.istore_n 3, 1) := by decide +kernel
theorem dX5_fewest_12 : decode cX5_fewest 12 = .ok (.iload_n 3, 1) := by decide +kernel
theorem dX5_fewest_13 : decode cX5_fewest 13 = .ok (.iload_n 1, 1) := by decide +kernel
theorem dX5_fewest_14 : decode cX5_fewest 14 = .ok (.if_icmp .gt 36, 3) := by decide +kernel
theorem dX5_fewest_17 : decode cX5_fewest 17 = .ok (.iload_n 3, 1) := by decide +kernel
theorem dX5_fewest_18 : decode cX5_fewest 18 = .ok (.iload_n 2, 1) := by decide +kernel
theorem dX5_fewest_19 : decode cX5_fewest 19 = .ok (.invokestatic 214, 3) := by decide +kernel
theorem dX5_fewest_22 : decode cX5_fewest 22 = .ok (.ifCond .eq 22, 3) := by decide +kernel
theorem dX5_fewest_25 : decode cX5_fewest 25 = .ok (.aload_n 0, 1) := by decide +kernel
theorem dX5_fewest_26 : decode cX5_fewest 26 = .ok (.getfield 29, 3) := by decide +kernel
theorem dX5_fewest_29 : decode cX5_fewest 29 = .ok (.aload_n 0, 1) := by decide +kernel
theorem dX5_fewest_30 : decode cX5_fewest 30 = .ok (.getfield 10, 3) := by decide +kernel
theorem dX5_fewest_33 : decode cX5_fewest 33 = .ok (.iload_n 3, 1) := by decide +kernel
theorem dX5_fewest_34 : decode cX5_fewest 34 = .ok (.iload_n 1, 1) := by decide +kernel
theorem dX5_fewest_35 : decode cX5_fewest 35 = .ok (.invokevirtual 211, 3) := by decide +kernel
theorem dX5_fewest_38 : decode cX5_fewest 38 = .ok (.iload_n 1, 1) := by decide +kernel
theorem dX5_fewest_39 : decode cX5_fewest 39 = .ok (.if_icmp .ne 5, 3) := by decide +kernel
theorem dX5_fewest_42 : decode cX5_fewest 42 = .ok (.iload_n 3, 1) := by decide +kernel
theorem dX5_fewest_43 : decode cX5_fewest 43 = .ok (.istore_n 2, 1) := by decide +kernel
theorem dX5_fewest_44 : decode cX5_fewest 44 = .ok (.iinc 3 1, 3) := by decide +kernel
theorem dX5_fewest_47 : decode cX5_fewest 47 = .ok (.goto (-35), 3) := by decide +kernel
theorem dX5_fewest_50 : decode cX5_fewest 50 = .ok (.iload_n 2, 1) := by decide +kernel
theorem dX5_fewest_51 : decode cX5_fewest 51 = .ok (.ireturn, 1) := by decide +kernel
theorem dX5_away_0 : decode cX5_away 0 = .ok (.aload_n 0, 1) := by decide +kernel
theorem dX5_away_1 : decode cX5_away 1 = .ok (.iload_n 1, 1) := by decide +kernel
theorem dX5_away_2 : decode cX5_away 2 = .ok (.invokevirtual 129, 3) := by decide +kernel
theorem dX5_away_5 : decode cX5_away 5 = .ok (.ifCond .eq 13, 3) := by decide +kernel
theorem dX5_away_8 : decode cX5_away 8 = .ok (.iload_n 2, 1) := by decide +kernel
theorem dX5_away_9 : decode cX5_away 9 = .ok (.iconst 0, 1) := by decide +kernel
theorem dX5_away_10 : decode cX5_away 10 = .ok (.bipush 8, 2) := by decide +kernel
theorem dX5_away_12 : decode cX5_away 12 = .ok (.invokestatic 132, 3) := by decide +kernel
theorem dX5_away_15 : decode cX5_away 15 = .ok (.ifCond .ne 10, 3) := by decide +kernel
theorem dX5_away_18 : decode cX5_away 18 = .ok (.aload_n 0, 1) := by decide +kernel
theorem dX5_away_19 : decode cX5_away 19 = .ok (.ldc 58, 2) := by decide +kernel
theorem dX5_away_21 : decode cX5_away 21 = .ok (.invokevirtual 59, 3) := by decide +kernel
theorem dX5_away_24 : decode cX5_away 24 = .ok (.ireturn, 1) := by decide +kernel
theorem dX5_away_25 : decode cX5_away 25 = .ok (.aload_n 0, 1) := by decide +kernel
theorem dX5_away_26 : decode cX5_away 26 = .ok (.getfield 29, 3) := by decide +kernel
theorem dX5_away_29 : decode cX5_away 29 = .ok (.aload_n 0, 1) := by decide +kernel
theorem dX5_away_30 : decode cX5_away 30 = .ok (.getfield 10, 3) := by decide +kernel
theorem dX5_away_33 : decode cX5_away 33 = .ok (.aload_n 0, 1) := by decide +kernel
theorem dX5_away_34 : decode cX5_away 34 = .ok (.getfield 10, 3) := by decide +kernel
theorem dX5_away_37 : decode cX5_away 37 = .ok (.getfield 136, 3) := by decide +kernel
theorem dX5_away_40 : decode cX5_away 40 = .ok (.iload_n 1, 1) := by decide +kernel
theorem dX5_away_41 : decode cX5_away 41 = .ok (.iaload, 1) := by decide +kernel
theorem dX5_away_42 : decode cX5_away 42 = .ok (.aload_n 0, 1) := by decide +kernel
theorem dX5_away_43 : decode cX5_away 43 = .ok (.getfield 10, 3) := by decide +kernel
theorem dX5_away_46 : decode cX5_away 46 = .ok (.getfield 139, 3) := by decide +kernel
theorem dX5_away_49 : decode cX5_away 49 = .ok (.iload_n 1, 1) := by decide +kernel
theorem dX5_away_50 : decode cX5_away 50 = .ok (.iaload, 1) := by decide +kernel
theorem dX5_away_51 : decode cX5_away 51 = .ok (.invokevirtual 192, 3) := by decide +kernel
theorem dX5_away_54 : decode cX5_away 54 = .ok (.istore_n 3, 1) := by decide +kernel
theorem dX5_away_55 : decode cX5_away 55 = .ok (.aload_n 0, 1) := by decide +kernel
theorem dX5_away_56 : decode cX5_away 56 = .ok (.getfield 10, 3) := by decide +kernel
theorem dX5_away_59 : decode cX5_away 59 = .ok (.invokevirtual 208, 3) := by decide +kernel
theorem dX5_away_62 : decode cX5_away 62 = .ok (.istore 4, 2) := by decide +kernel
theorem dX5_away_64 : decode cX5_away 64 = .ok (.iload 4, 2) := by decide +kernel
theorem dX5_away_66 : decode cX5_away 66 = .ok (.istore 5, 2) := by decide +kernel
theorem dX5_away_68 : decode cX5_away 68 = .ok (.iconst 0, 1) := by decide +kernel
theorem dX5_away_69 : decode cX5_away 69 = .ok (.istore 6, 2) := by decide +kernel
theorem dX5_away_71 : decode cX5_away 71 = .ok (.iload 6, 2) := by decide +kernel
theorem dX5_away_73 : decode cX5_away 73 = .ok (.iload 4, 2) := by decide +kernel
theorem dX5_away_75 : decode cX5_away 75 = .ok (.if_icmp .gt 54, 3) := by decide +kernel
theorem dX5_away_78 : decode cX5_away 78 = .ok (.iload 6, 2) := by decide +kernel
theorem dX5_away_80 : decode cX5_away 80 = .ok (.iload 5, 2) := by decide +kernel
theorem dX5_away_82 : decode cX5_away 82 = .ok (.invokestatic 214, 3) := by decide +kernel
theorem dX5_away_85 : decode cX5_away 85 = .ok (.ifCond .eq 38, 3) := by decide +kernel
theorem dX5_away_88 : decode cX5_away 88 = .ok (.aload_n 0, 1) := by decide +kernel
theorem dX5_away_89 : decode cX5_away 89 = .ok (.getfield 29, 3) := by decide +kernel
theorem dX5_away_92 : decode cX5_away 92 = .ok (.aload_n 0, 1) := by decide +kernel
theorem dX5_away_93 : decode cX5_away 93 = .ok (.getfield 10, 3) := by decide +kernel
theorem dX5_away_96 : decode cX5_away 96 = .ok (.iload_n 3, 1) := by decide +kernel
theorem dX5_away_97 : decode cX5_away 97 = .ok (.iload 6, 2) := by decide +kernel
theorem dX5_away_99 : decode cX5_away 99 = .ok (.iconst (-1), 1) := by decide +kernel
theorem dX5_away_100 : decode cX5_away 100 = .ok (.ixor, 1) := by decide +kernel
theorem dX5_away_101 : decode cX5_away 101 = .ok (.iand, 1) := by decide +kernel
theorem dX5_away_102 : decode cX5_away 102 = .ok (.iload 4, 2) := by decide +kernel
theorem dX5_away_104 : decode cX5_away 104 = .ok (.iload 6, 2) := by decide +kernel
theorem dX5_away_106 : decode cX5_away 106 = .ok (.iconst (-1), 1) := by decide +kernel
theorem dX5_away_107 : decode cX5_away 107 = .ok (.ixor, 1) := by decide +kernel
theorem dX5_away_108 : decode cX5_away 108 = .ok (.iand, 1) := by decide +kernel
theorem dX5_away_109 : decode cX5_away 109 = .ok (.invokevirtual 211, 3) := by decide +kernel
theorem dX5_away_112 : decode cX5_away 112 = .ok (.invokestatic 101, 3) := by decide +kernel
theorem dX5_away_115 : decode cX5_away 115 = .ok (.iload_n 2, 1) := by decide +kernel
theorem dX5_away_116 : decode cX5_away 116 = .ok (.if_icmp .gt 7, 3) := by decide +kernel
theorem dX5_away_119 : decode cX5_away 119 = .ok (.iload 6, 2) := by decide +kernel
theorem dX5_away_121 : decode cX5_away 121 = .ok (.istore 5, 2) := by decide +kernel
theorem dX5_away_123 : decode cX5_away 123 = .ok (.iinc 6 1, 3) := by decide +kernel
theorem dX5_away_126 : decode cX5_away 126 = .ok (.goto (-55), 3) := by decide +kernel
theorem dX5_away_129 : decode cX5_away 129 = .ok (.iload 5, 2) := by decide +kernel
theorem dX5_away_131 : decode cX5_away 131 = .ok (.ireturn, 1) := by decide +kernel
theorem dX5_seatFor_0 : decode cX5_seatFor 0 = .ok (.aload_n 0, 1) := by decide +kernel
theorem dX5_seatFor_1 : decode cX5_seatFor 1 = .ok (.iload_n 1, 1) := by decide +kernel
theorem dX5_seatFor_2 : decode cX5_seatFor 2 = .ok (.invokevirtual 72, 3) := by decide +kernel
theorem dX5_seatFor_5 : decode cX5_seatFor 5 = .ok (.ifCond .eq 11, 3) := by decide +kernel
theorem dX5_seatFor_8 : decode cX5_seatFor 8 = .ok (.aload_n 0, 1) := by decide +kernel
theorem dX5_seatFor_9 : decode cX5_seatFor 9 = .ok (.iload_n 2, 1) := by decide +kernel
theorem dX5_seatFor_10 : decode cX5_seatFor 10 = .ok (.invokevirtual 129, 3) := by decide +kernel
theorem dX5_seatFor_13 : decode cX5_seatFor 13 = .ok (.ifCond .ne 10, 3) := by decide +kernel
theorem dX5_seatFor_16 : decode cX5_seatFor 16 = .ok (.aload_n 0, 1) := by decide +kernel
theorem dX5_seatFor_17 : decode cX5_seatFor 17 = .ok (.ldc 58, 2) := by decide +kernel
theorem dX5_seatFor_19 : decode cX5_seatFor 19 = .ok (.invokevirtual 59, 3) := by decide +kernel
theorem dX5_seatFor_22 : decode cX5_seatFor 22 = .ok (.ireturn, 1) := by decide +kernel
theorem dX5_seatFor_23 : decode cX5_seatFor 23 = .ok (.aload_n 0, 1) := by decide +kernel
theorem dX5_seatFor_24 : decode cX5_seatFor 24 = .ok (.getfield 16, 3) := by decide +kernel
theorem dX5_seatFor_27 : decode cX5_seatFor 27 = .ok (.aload_n 0, 1) := by decide +kernel
theorem dX5_seatFor_28 : decode cX5_seatFor 28 = .ok (.getfield 10, 3) := by decide +kernel
theorem dX5_seatFor_31 : decode cX5_seatFor 31 = .ok (.invokevirtual 201, 3) := by decide +kernel
theorem dX5_seatFor_34 : decode cX5_seatFor 34 = .ok (.iconst 0, 1) := by decide +kernel
theorem dX5_seatFor_35 : decode cX5_seatFor 35 = .ok (.istore_n 3, 1) := by decide +kernel
theorem dX5_seatFor_36 : decode cX5_seatFor 36 = .ok (.bipush 9, 2) := by decide +kernel
theorem dX5_seatFor_38 : decode cX5_seatFor 38 = .ok (.istore 4, 2) := by decide +kernel
theorem dX5_seatFor_40 : decode cX5_seatFor 40 = .ok (.iconst 0, 1) := by decide +kernel
theorem dX5_seatFor_41 : decode cX5_seatFor 41 = .ok (.istore 5, 2) := by decide +kernel
theorem dX5_seatFor_43 : decode cX5_seatFor 43 = .ok (.iload 5, 2) := by decide +kernel
theorem dX5_seatFor_45 : decode cX5_seatFor 45 = .ok (.bipush 15, 2) := by decide +kernel
theorem dX5_seatFor_47 : decode cX5_seatFor 47 = .ok (.if_icmp .gt 50, 3) := by decide +kernel
theorem dX5_seatFor_50 : decode cX5_seatFor 50 = .ok (.aload_n 0, 1) := by decide +kernel
theorem dX5_seatFor_51 : decode cX5_seatFor 51 = .ok (.getfield 16, 3) := by decide +kernel
theorem dX5_seatFor_54 : decode cX5_seatFor 54 = .ok (.iload_n 1, 1) := by decide +kernel
theorem dX5_seatFor_55 : decode cX5_seatFor 55 = .ok (.iload 5, 2) := by decide +kernel
theorem dX5_seatFor_57 : decode cX5_seatFor 57 = .ok (.invokevirtual 217, 3) := by decide +kernel
theorem dX5_seatFor_60 : decode cX5_seatFor 60 = .ok (.aload_n 0, 1) := by decide +kernel
theorem dX5_seatFor_61 : decode cX5_seatFor 61 = .ok (.getfield 29, 3) := by decide +kernel
theorem dX5_seatFor_64 : decode cX5_seatFor 64 = .ok (.aload_n 0, 1) := by decide +kernel
theorem dX5_seatFor_65 : decode cX5_seatFor 65 = .ok (.getfield 16, 3) := by decide +kernel
theorem dX5_seatFor_68 : decode cX5_seatFor 68 = .ok (.iload_n 2, 1) := by decide +kernel
theorem dX5_seatFor_69 : decode cX5_seatFor 69 = .ok (.invokevirtual 195, 3) := by decide +kernel
theorem dX5_seatFor_72 : decode cX5_seatFor 72 = .ok (.invokestatic 101, 3) := by decide +kernel
theorem dX5_seatFor_75 : decode cX5_seatFor 75 = .ok (.istore 6, 2) := by decide +kernel
theorem dX5_seatFor_77 : decode cX5_seatFor 77 = .ok (.iload 6, 2) := by decide +kernel
theorem dX5_seatFor_79 : decode cX5_seatFor 79 = .ok (.iload 4, 2) := by decide +kernel
theorem dX5_seatFor_81 : decode cX5_seatFor 81 = .ok (.if_icmp .ge 10, 3) := by decide +kernel
theorem dX5_seatFor_84 : decode cX5_seatFor 84 = .ok (.iload 6, 2) := by decide +kernel
theorem dX5_seatFor_86 : decode cX5_seatFor 86 = .ok (.istore 4, 2) := by decide +kernel
theorem dX5_seatFor_88 : decode cX5_seatFor 88 = .ok (.iload 5, 2) := by decide +kernel
theorem dX5_seatFor_90 : decode cX5_seatFor 90 = .ok (.istore_n 3, 1) := by decide +kernel
theorem dX5_seatFor_91 : decode cX5_seatFor 91 = .ok (.iinc 5 1, 3) := by decide +kernel
theorem dX5_seatFor_94 : decode cX5_seatFor 94 = .ok (.goto (-51), 3) := by decide +kernel
theorem dX5_seatFor_97 : decode cX5_seatFor 97 = .ok (.iload_n 3, 1) := by decide +kernel
theorem dX5_seatFor_98 : decode cX5_seatFor 98 = .ok (.ireturn, 1) := by decide +kernel
theorem dX5_kindFor_0 : decode cX5_kindFor 0 = .ok (.aload_n 0, 1) := by decide +kernel
theorem dX5_kindFor_1 : decode cX5_kindFor 1 = .ok (.iload_n 1, 1) := by decide +kernel
theorem dX5_kindFor_2 : decode cX5_kindFor 2 = .ok (.invokevirtual 72, 3) := by decide +kernel
theorem dX5_kindFor_5 : decode cX5_kindFor 5 = .ok (.ifCond .eq 11, 3) := by decide +kernel
theorem dX5_kindFor_8 : decode cX5_kindFor 8 = .ok (.aload_n 0, 1) := by decide +kernel
theorem dX5_kindFor_9 : decode cX5_kindFor 9 = .ok (.iload_n 2, 1) := by decide +kernel
theorem dX5_kindFor_10 : decode cX5_kindFor 10 = .ok (.invokevirtual 129, 3) := by decide +kernel
theorem dX5_kindFor_13 : decode cX5_kindFor 13 = .ok (.ifCond .ne 10, 3) := by decide +kernel
theorem dX5_kindFor_16 : decode cX5_kindFor 16 = .ok (.aload_n 0, 1) := by decide +kernel
theorem dX5_kindFor_17 : decode cX5_kindFor 17 = .ok (.ldc 58, 2) := by decide +kernel
theorem dX5_kindFor_19 : decode cX5_kindFor 19 = .ok (.invokevirtual 59, 3) := by decide +kernel
theorem dX5_kindFor_22 : decode cX5_kindFor 22 = .ok (.ireturn, 1) := by decide +kernel
theorem dX5_kindFor_23 : decode cX5_kindFor 23 = .ok (.aload_n 0, 1) := by decide +kernel
theorem dX5_kindFor_24 : decode cX5_kindFor 24 = .ok (.getfield 16, 3) := by decide +kernel
theorem dX5_kindFor_27 : decode cX5_kindFor 27 = .ok (.aload_n 0, 1) := by decide +kernel
theorem dX5_kindFor_28 : decode cX5_kindFor 28 = .ok (.getfield 10, 3) := by decide +kernel
theorem dX5_kindFor_31 : decode cX5_kindFor 31 = .ok (.invokevirtual 201, 3) := by decide +kernel
theorem dX5_kindFor_34 : decode cX5_kindFor 34 = .ok (.iconst 0, 1) := by decide +kernel
theorem dX5_kindFor_35 : decode cX5_kindFor 35 = .ok (.istore_n 3, 1) := by decide +kernel
theorem dX5_kindFor_36 : decode cX5_kindFor 36 = .ok (.iconst (-1), 1) := by decide +kernel
theorem dX5_kindFor_37 : decode cX5_kindFor 37 = .ok (.istore 4, 2) := by decide +kernel
theorem dX5_kindFor_39 : decode cX5_kindFor 39 = .ok (.iconst 0, 1) := by decide +kernel
theorem dX5_kindFor_40 : decode cX5_kindFor 40 = .ok (.istore 5, 2) := by decide +kernel
theorem dX5_kindFor_42 : decode cX5_kindFor 42 = .ok (.iload 5, 2) := by decide +kernel
theorem dX5_kindFor_44 : decode cX5_kindFor 44 = .ok (.bipush 7, 2) := by decide +kernel
theorem dX5_kindFor_46 : decode cX5_kindFor 46 = .ok (.if_icmp .ge 51, 3) := by decide +kernel
theorem dX5_kindFor_49 : decode cX5_kindFor 49 = .ok (.aload_n 0, 1) := by decide +kernel
theorem dX5_kindFor_50 : decode cX5_kindFor 50 = .ok (.getfield 16, 3) := by decide +kernel
theorem dX5_kindFor_53 : decode cX5_kindFor 53 = .ok (.getfield 75, 3) := by decide +kernel
theorem dX5_kindFor_56 : decode cX5_kindFor 56 = .ok (.iload_n 1, 1) := by decide +kernel
theorem dX5_kindFor_57 : decode cX5_kindFor 57 = .ok (.iload 5, 2) := by decide +kernel
theorem dX5_kindFor_59 : decode cX5_kindFor 59 = .ok (.iastore, 1) := by decide +kernel
theorem dX5_kindFor_60 : decode cX5_kindFor 60 = .ok (.aload_n 0, 1) := by decide +kernel
theorem dX5_kindFor_61 : decode cX5_kindFor 61 = .ok (.getfield 29, 3) := by decide +kernel
theorem dX5_kindFor_64 : decode cX5_kindFor 64 = .ok (.aload_n 0, 1) := by decide +kernel
theorem dX5_kindFor_65 : decode cX5_kindFor 65 = .ok (.getfield 16, 3) := by decide +kernel
theorem dX5_kindFor_68 : decode cX5_kindFor 68 = .ok (.iload_n 2, 1) := by decide +kernel
theorem dX5_kindFor_69 : decode cX5_kindFor 69 = .ok (.invokevirtual 195, 3) := by decide +kernel
theorem dX5_kindFor_72 : decode cX5_kindFor 72 = .ok (.invokestatic 101, 3) := by decide +kernel
theorem dX5_kindFor_75 : decode cX5_kindFor 75 = .ok (.istore 6, 2) := by decide +kernel
theorem dX5_kindFor_77 : decode cX5_kindFor 77 = .ok (.iload 6, 2) := by decide +kernel
theorem dX5_kindFor_79 : decode cX5_kindFor 79 = .ok (.iload 4, 2) := by decide +kernel
theorem dX5_kindFor_81 : decode cX5_kindFor 81 = .ok (.if_icmp .le 10, 3) := by decide +kernel
theorem dX5_kindFor_84 : decode cX5_kindFor 84 = .ok (.iload 6, 2) := by decide +kernel
theorem dX5_kindFor_86 : decode cX5_kindFor 86 = .ok (.istore 4, 2) := by decide +kernel
theorem dX5_kindFor_88 : decode cX5_kindFor 88 = .ok (.iload 5, 2) := by decide +kernel
theorem dX5_kindFor_90 : decode cX5_kindFor 90 = .ok (.istore_n 3, 1) := by decide +kernel
theorem dX5_kindFor_91 : decode cX5_kindFor 91 = .ok (.iinc 5 1, 3) := by decide +kernel
theorem dX5_kindFor_94 : decode cX5_kindFor 94 = .ok (.goto (-52), 3) := by decide +kernel
theorem dX5_kindFor_97 : decode cX5_kindFor 97 = .ok (.iload_n 3, 1) := by decide +kernel
theorem dX5_kindFor_98 : decode cX5_kindFor 98 = .ok (.ireturn, 1) := by decide +kernel
theorem dX5_reachFor_0 : decode cX5_reachFor 0 = .ok (.aload_n 0, 1) := by decide +kernel
theorem dX5_reachFor_1 : decode cX5_reachFor 1 = .ok (.iload_n 1, 1) := by decide +kernel
theorem dX5_reachFor_2 : decode cX5_reachFor 2 = .ok (.invokevirtual 129, 3) := by decide +kernel
theorem dX5_reachFor_5 : decode cX5_reachFor 5 = .ok (.ifCond .ne 10, 3) := by decide +kernel
theorem dX5_reachFor_8 : decode cX5_reachFor 8 = .ok (.aload_n 0, 1) := by decide +kernel
theorem dX5_reachFor_9 : decode cX5_reachFor 9 = .ok (.ldc 58, 2) := by decide +kernel
theorem dX5_reachFor_11 : decode cX5_reachFor 11 = .ok (.invokevirtual 59, 3) := by decide +kernel
theorem dX5_reachFor_14 : decode cX5_reachFor 14 = .ok (.ireturn, 1) := by decide +kernel
theorem dX5_reachFor_15 : decode cX5_reachFor 15 = .ok (.aload_n 0, 1) := by decide +kernel
theorem dX5_reachFor_16 : decode cX5_reachFor 16 = .ok (.getfield 16, 3) := by decide +kernel
theorem dX5_reachFor_19 : decode cX5_reachFor 19 = .ok (.aload_n 0, 1) := by decide +kernel
theorem dX5_reachFor_20 : decode cX5_reachFor 20 = .ok (.getfield 10, 3) := by decide +kernel
theorem dX5_reachFor_23 : decode cX5_reachFor 23 = .ok (.invokevirtual 201, 3) := by decide +kernel
theorem dX5_reachFor_26 : decode cX5_reachFor 26 = .ok (.iconst 0, 1) := by decide +kernel
theorem dX5_reachFor_27 : decode cX5_reachFor 27 = .ok (.istore_n 2, 1) := by decide +kernel
theorem dX5_reachFor_28 : decode cX5_reachFor 28 = .ok (.iload_n 2, 1) := by decide +kernel
theorem dX5_reachFor_29 : decode cX5_reachFor 29 = .ok (.bipush 15, 2) := by decide +kernel
theorem dX5_reachFor_31 : decode cX5_reachFor 31 = .ok (.if_icmp .gt 41, 3) := by decide +kernel
theorem dX5_reachFor_34 : decode cX5_reachFor 34 = .ok (.aload_n 0, 1) := by decide +kernel
theorem dX5_reachFor_35 : decode cX5_reachFor 35 = .ok (.getfield 16, 3) := by decide +kernel
theorem dX5_reachFor_38 : decode cX5_reachFor 38 = .ok (.iload_n 2, 1) := by decide +kernel
theorem dX5_reachFor_39 : decode cX5_reachFor 39 = .ok (.invokevirtual 148, 3) := by decide +kernel
theorem dX5_reachFor_42 : decode cX5_reachFor 42 = .ok (.aload_n 0, 1) := by decide +kernel
theorem dX5_reachFor_43 : decode cX5_reachFor 43 = .ok (.getfield 29, 3) := by decide +kernel
theorem dX5_reachFor_46 : decode cX5_reachFor 46 = .ok (.aload_n 0, 1) := by decide +kernel
theorem dX5_reachFor_47 : decode cX5_reachFor 47 = .ok (.getfield 16, 3) := by decide +kernel
theorem dX5_reachFor_50 : decode cX5_reachFor 50 = .ok (.iload_n 1, 1) := by decide +kernel
theorem dX5_reachFor_51 : decode cX5_reachFor 51 = .ok (.invokevirtual 195, 3) := by decide +kernel
theorem dX5_reachFor_54 : decode cX5_reachFor 54 = .ok (.aload_n 0, 1) := by decide +kernel
theorem dX5_reachFor_55 : decode cX5_reachFor 55 = .ok (.getfield 16, 3) := by decide +kernel
theorem dX5_reachFor_58 : decode cX5_reachFor 58 = .ok (.invokevirtual 208, 3) := by decide +kernel
theorem dX5_reachFor_61 : decode cX5_reachFor 61 = .ok (.if_icmp .ne 5, 3) := by decide +kernel
theorem dX5_reachFor_64 : decode cX5_reachFor 64 = .ok (.iload_n 2, 1) := by decide +kernel
theorem dX5_reachFor_65 : decode cX5_reachFor 65 = .ok (.ireturn, 1) := by decide +kernel
theorem dX5_reachFor_66 : decode cX5_reachFor 66 = .ok (.iinc 2 1, 3) := by decide +kernel
theorem dX5_reachFor_69 : decode cX5_reachFor 69 = .ok (.goto (-41), 3) := by decide +kernel
theorem dX5_reachFor_72 : decode cX5_reachFor 72 = .ok (.aload_n 0, 1) := by decide +kernel
theorem dX5_reachFor_73 : decode cX5_reachFor 73 = .ok (.ldc 182, 2) := by decide +kernel
theorem dX5_reachFor_75 : decode cX5_reachFor 75 = .ok (.invokevirtual 59, 3) := by decide +kernel
theorem dX5_reachFor_78 : decode cX5_reachFor 78 = .ok (.ireturn, 1) := by decide +kernel
theorem dX5_rateFor_0 : decode cX5_rateFor 0 = .ok (.aload_n 0, 1) := by decide +kernel
theorem dX5_rateFor_1 : decode cX5_rateFor 1 = .ok (.iload_n 1, 1) := by decide +kernel
theorem dX5_rateFor_2 : decode cX5_rateFor 2 = .ok (.invokevirtual 129, 3) := by decide +kernel
theorem dX5_rateFor_5 : decode cX5_rateFor 5 = .ok (.ifCond .eq 13, 3) := by decide +kernel
theorem dX5_rateFor_8 : decode cX5_rateFor 8 = .ok (.iload_n 2, 1) := by decide +kernel
theorem dX5_rateFor_9 : decode cX5_rateFor 9 = .ok (.iconst 1, 1) := by decide +kernel
theorem dX5_rateFor_10 : decode cX5_rateFor 10 = .ok (.bipush 20, 2) := by decide +kernel
theorem dX5_rateFor_12 : decode cX5_rateFor 12 = .ok (.invokestatic 132, 3) := by decide +kernel
theorem dX5_rateFor_15 : decode cX5_rateFor 15 = .ok (.ifCond .ne 10, 3) := by decide +kernel
theorem dX5_rateFor_18 : decode cX5_rateFor 18 = .ok (.aload_n 0, 1) := by decide +kernel
theorem dX5_rateFor_19 : decode cX5_rateFor 19 = .ok (.ldc 58, 2) := by decide +kernel
theorem dX5_rateFor_21 : decode cX5_rateFor 21 = .ok (.invokevirtual 59, 3) := by decide +kernel
theorem dX5_rateFor_24 : decode cX5_rateFor 24 = .ok (.ireturn, 1) := by decide +kernel
theorem dX5_rateFor_25 : decode cX5_rateFor 25 = .ok (.iconst 0, 1) := by decide +kernel
theorem dX5_rateFor_26 : decode cX5_rateFor 26 = .ok (.istore_n 3, 1) := by decide +kernel
theorem dX5_rateFor_27 : decode cX5_rateFor 27 = .ok (.iconst (-1), 1) := by decide +kernel
theorem dX5_rateFor_28 : decode cX5_rateFor 28 = .ok (.istore 4, 2) := by decide +kernel
theorem dX5_rateFor_30 : decode cX5_rateFor 30 = .ok (.iconst 0, 1) := by decide +kernel
theorem dX5_rateFor_31 : decode cX5_rateFor 31 = .ok (.istore 5, 2) := by decide +kernel
theorem dX5_rateFor_33 : decode cX5_rateFor 33 = .ok (.iload 5, 2) := by decide +kernel
theorem dX5_rateFor_35 : decode cX5_rateFor 35 = .ok (.bipush 20, 2) := by decide +kernel
theorem dX5_rateFor_37 : decode cX5_rateFor 37 = .ok (.if_icmp .gt 58, 3) := by decide +kernel
theorem dX5_rateFor_40 : decode cX5_rateFor 40 = .ok (.aload_n 0, 1) := by decide +kernel
theorem dX5_rateFor_41 : decode cX5_rateFor 41 = .ok (.getfield 16, 3) := by decide +kernel
theorem dX5_rateFor_44 : decode cX5_rateFor 44 = .ok (.aload_n 0, 1) := by decide +kernel
theorem dX5_rateFor_45 : decode cX5_rateFor 45 = .ok (.getfield 10, 3) := by decide +kernel
theorem dX5_rateFor_48 : decode cX5_rateFor 48 = .ok (.invokevirtual 201, 3) := by decide +kernel
theorem dX5_rateFor_51 : decode cX5_rateFor 51 = .ok (.aload_n 0, 1) := by decide +kernel
theorem dX5_rateFor_52 : decode cX5_rateFor 52 = .ok (.getfield 16, 3) := by decide +kernel
theorem dX5_rateFor_55 : decode cX5_rateFor 55 = .ok (.iload 5, 2) := by decide +kernel
theorem dX5_rateFor_57 : decode cX5_rateFor 57 = .ok (.putfield 142, 3) := by decide +kernel
theorem dX5_rateFor_60 : decode cX5_rateFor 60 = .ok (.aload_n 0, 1) := by decide +kernel
theorem dX5_rateFor_61 : decode cX5_rateFor 61 = .ok (.getfield 29, 3) := by decide +kernel
theorem dX5_rateFor_64 : decode cX5_rateFor 64 = .ok (.aload_n 0, 1) := by decide +kernel
theorem dX5_rateFor_65 : decode cX5_rateFor 65 = .ok (.getfield 16, 3) := by decide +kernel
theorem dX5_rateFor_68 : decode cX5_rateFor 68 = .ok (.iload_n 1, 1) := by decide +kernel
theorem dX5_rateFor_69 : decode cX5_rateFor 69 = .ok (.iload_n 2, 1) := by decide +kernel
theorem dX5_rateFor_70 : decode cX5_rateFor 70 = .ok (.invokevirtual 171, 3) := by decide +kernel
theorem dX5_rateFor_73 : decode cX5_rateFor 73 = .ok (.istore 6, 2) := by decide +kernel
theorem dX5_rateFor_75 : decode cX5_rateFor 75 = .ok (.iload 6, 2) := by decide +kernel
theorem dX5_rateFor_77 : decode cX5_rateFor 77 = .ok (.iload 4, 2) := by decide +kernel
theorem dX5_rateFor_79 : decode cX5_rateFor 79 = .ok (.if_icmp .le 10, 3) := by decide +kernel
theorem dX5_rateFor_82 : decode cX5_rateFor 82 = .ok (.iload 6, 2) := by decide +kernel
theorem dX5_rateFor_84 : decode cX5_rateFor 84 = .ok (.istore 4, 2) := by decide +kernel
theorem dX5_rateFor_86 : decode cX5_rateFor 86 = .ok (.iload 5, 2) := by decide +kernel
theorem dX5_rateFor_88 : decode cX5_rateFor 88 = .ok (.istore_n 3, 1) := by decide +kernel
theorem dX5_rateFor_89 : decode cX5_rateFor 89 = .ok (.iinc 5 1, 3) := by decide +kernel
theorem dX5_rateFor_92 : decode cX5_rateFor 92 = .ok (.goto (-59), 3) := by decide +kernel
theorem dX5_rateFor_95 : decode cX5_rateFor 95 = .ok (.iload_n 3, 1) := by decide +kernel
theorem dX5_rateFor_96 : decode cX5_rateFor 96 = .ok (.ireturn, 1) := by decide +kernel
theorem dX5_best_0 : decode cX5_best 0 = .ok (.iload_n 1, 1) := by decide +kernel
theorem dX5_best_1 : decode cX5_best 1 = .ok (.invokestatic 120, 3) := by decide +kernel
theorem dX5_best_4 : decode cX5_best 4 = .ok (.ifCond .ne 10, 3) := by decide +kernel
theorem dX5_best_7 : decode cX5_best 7 = .ok (.aload_n 0, 1) := by decide +kernel
theorem dX5_best_8 : decode cX5_best 8 = .ok (.ldc 58, 2) := by decide +kernel
theorem dX5_best_10 : decode cX5_best 10 = .ok (.invokevirtual 59, 3) := by decide +kernel
theorem dX5_best_13 : decode cX5_best 13 = .ok (.ireturn, 1) := by decide +kernel
theorem dX5_best_14 : decode cX5_best 14 = .ok (.iconst 1, 1) := by decide +kernel
theorem dX5_best_15 : decode cX5_best 15 = .ok (.istore_n 2, 1) := by decide +kernel
theorem dX5_best_16 : decode cX5_best 16 = .ok (.iconst (-1), 1) := by decide +kernel
theorem dX5_best_17 : decode cX5_best 17 = .ok (.istore_n 3, 1) := by decide +kernel
theorem dX5_best_18 : decode cX5_best 18 = .ok (.iconst 1, 1) := by decide +kernel
theorem dX5_best_19 : decode cX5_best 19 = .ok (.istore 4, 2) := by decide +kernel
theorem dX5_best_21 : decode cX5_best 21 = .ok (.iload 4, 2) := by decide +kernel
theorem dX5_best_23 : decode cX5_best 23 = .ok (.bipush 63, 2) := by decide +kernel
theorem dX5_best_25 : decode cX5_best 25 = .ok (.if_icmp .gt 30, 3) := by decide +kernel
theorem dX5_best_28 : decode cX5_best 28 = .ok (.aload_n 0, 1) := by decide +kernel
theorem dX5_best_29 : decode cX5_best 29 = .ok (.iload 4, 2) := by decide +kernel
theorem dX5_best_31 : decode cX5_best 31 = .ok (.iload_n 1, 1) := by decide +kernel
theorem dX5_best_32 : decode cX5_best 32 = .ok (.invokevirtual 221, 3) := by decide +kernel
theorem dX5_best_35 : decode cX5_best 35 = .ok (.istore 5, 2) := by decide +kernel
theorem dX5_best_37 : decode cX5_best 37 = .ok (.iload 5, 2) := by decide +kernel
theorem dX5_best_39 : decode cX5_best 39 = .ok (.iload_n 3, 1) := by decide +kernel
theorem dX5_best_40 : decode cX5_best 40 = .ok (.if_icmp .le 9, 3) := by decide +kernel
theorem dX5_best_43 : decode cX5_best 43 = .ok (.iload 5, 2) := by decide +kernel
theorem dX5_best_45 : decode cX5_best 45 = .ok (.istore_n 3, 1) := by decide +kernel
theorem dX5_best_46 : decode cX5_best 46 = .ok (.iload 4, 2) := by decide +kernel
theorem dX5_best_48 : decode cX5_best 48 = .ok (.istore_n 2, 1) := by decide +kernel
theorem dX5_best_49 : decode cX5_best 49 = .ok (.iinc 4 1, 3) := by decide +kernel
theorem dX5_best_52 : decode cX5_best 52 = .ok (.goto (-31), 3) := by decide +kernel
theorem dX5_best_55 : decode cX5_best 55 = .ok (.iload_n 2, 1) := by decide +kernel
theorem dX5_best_56 : decode cX5_best 56 = .ok (.ireturn, 1) := by decide +kernel
theorem dX5_quiet_0 : decode cX5_quiet 0 = .ok (.iload_n 1, 1) := by decide +kernel
theorem dX5_quiet_1 : decode cX5_quiet 1 = .ok (.invokestatic 120, 3) := by decide +kernel
theorem dX5_quiet_4 : decode cX5_quiet 4 = .ok (.ifCond .ne 10, 3) := by decide +kernel
theorem dX5_quiet_7 : decode cX5_quiet 7 = .ok (.aload_n 0, 1) := by decide +kernel
theorem dX5_quiet_8 : decode cX5_quiet 8 = .ok (.ldc 58, 2) := by decide +kernel
theorem dX5_quiet_10 : decode cX5_quiet 10 = .ok (.invokevirtual 59, 3) := by decide +kernel
theorem dX5_quiet_13 : decode cX5_quiet 13 = .ok (.ireturn, 1) := by decide +kernel
theorem dX5_quiet_14 : decode cX5_quiet 14 = .ok (.iconst 0, 1) := by decide +kernel
theorem dX5_quiet_15 : decode cX5_quiet 15 = .ok (.istore_n 2, 1) := by decide +kernel
theorem dX5_quiet_16 : decode cX5_quiet 16 = .ok (.bipush 9, 2) := by decide +kernel
theorem dX5_quiet_18 : decode cX5_quiet 18 = .ok (.istore_n 3, 1) := by decide +kernel
theorem dX5_quiet_19 : decode cX5_quiet 19 = .ok (.iconst 1, 1) := by decide +kernel
theorem dX5_quiet_20 : decode cX5_quiet 20 = .ok (.istore 4, 2) := by decide +kernel
theorem dX5_quiet_22 : decode cX5_quiet 22 = .ok (.iload 4, 2) := by decide +kernel
theorem dX5_quiet_24 : decode cX5_quiet 24 = .ok (.bipush 63, 2) := by decide +kernel
theorem dX5_quiet_26 : decode cX5_quiet 26 = .ok (.if_icmp .gt 35, 3) := by decide +kernel
theorem dX5_quiet_29 : decode cX5_quiet 29 = .ok (.aload_n 0, 1) := by decide +kernel
theorem dX5_quiet_30 : decode cX5_quiet 30 = .ok (.iload 4, 2) := by decide +kernel
theorem dX5_quiet_32 : decode cX5_quiet 32 = .ok (.iload_n 1, 1) := by decide +kernel
theorem dX5_quiet_33 : decode cX5_quiet 33 = .ok (.invokevirtual 221, 3) := by decide +kernel
theorem dX5_quiet_36 : decode cX5_quiet 36 = .ok (.istore 5, 2) := by decide +kernel
theorem dX5_quiet_38 : decode cX5_quiet 38 = .ok (.iload 5, 2) := by decide +kernel
theorem dX5_quiet_40 : decode cX5_quiet 40 = .ok (.ifCond .le 15, 3) := by decide +kernel
theorem dX5_quiet_43 : decode cX5_quiet 43 = .ok (.iload 5, 2) := by decide +kernel
theorem dX5_quiet_45 : decode cX5_quiet 45 = .ok (.iload_n 3, 1) := by decide +kernel
theorem dX5_quiet_46 : decode cX5_quiet 46 = .ok (.if_icmp .ge 9, 3) := by decide +kernel
theorem dX5_quiet_49 : decode cX5_quiet 49 = .ok (.iload 5, 2) := by decide +kernel
theorem dX5_quiet_51 : decode cX5_quiet 51 = .ok (.istore_n 3, 1) := by decide +kernel
theorem dX5_quiet_52 : decode cX5_quiet 52 = .ok (.iload 4, 2) := by decide +kernel
theorem dX5_quiet_54 : decode cX5_quiet 54 = .ok (.istore_n 2, 1) := by decide +kernel
theorem dX5_quiet_55 : decode cX5_quiet 55 = .ok (.iinc 4 1, 3) := by decide +kernel
theorem dX5_quiet_58 : decode cX5_quiet 58 = .ok (.goto (-36), 3) := by decide +kernel
theorem dX5_quiet_61 : decode cX5_quiet 61 = .ok (.iload_n 2, 1) := by decide +kernel
theorem dX5_quiet_62 : decode cX5_quiet 62 = .ok (.ifCond .ne 12, 3) := by decide +kernel
theorem dX5_quiet_65 : decode cX5_quiet 65 = .ok (.aload_n 0, 1) := by decide +kernel
theorem dX5_quiet_66 : decode cX5_quiet 66 = .ok (.ldc 182, 2) := by decide +kernel
theorem dX5_quiet_68 : decode cX5_quiet 68 = .ok (.invokevirtual 59, 3) := by decide +kernel
theorem dX5_quiet_71 : decode cX5_quiet 71 = .ok (.goto 4, 3) := by decide +kernel
theorem dX5_quiet_74 : decode cX5_quiet 74 = .ok (.iload_n 2, 1) := by decide +kernel
theorem dX5_quiet_75 : decode cX5_quiet 75 = .ok (.ireturn, 1) := by decide +kernel
theorem dX5_safe_0 : decode cX5_safe 0 = .ok (.iload_n 1, 1) := by decide +kernel
theorem dX5_safe_1 : decode cX5_safe 1 = .ok (.invokestatic 117, 3) := by decide +kernel
theorem dX5_safe_4 : decode cX5_safe 4 = .ok (.ifCond .ne 10, 3) := by decide +kernel
theorem dX5_safe_7 : decode cX5_safe 7 = .ok (.aload_n 0, 1) := by decide +kernel
theorem dX5_safe_8 : decode cX5_safe 8 = .ok (.ldc 58, 2) := by decide +kernel
theorem dX5_safe_10 : decode cX5_safe 10 = .ok (.invokevirtual 59, 3) := by decide +kernel
theorem dX5_safe_13 : decode cX5_safe 13 = .ok (.ireturn, 1) := by decide +kernel
theorem dX5_safe_14 : decode cX5_safe 14 = .ok (.bipush 9, 2) := by decide +kernel
theorem dX5_safe_16 : decode cX5_safe 16 = .ok (.istore_n 2, 1) := by decide +kernel
theorem dX5_safe_17 : decode cX5_safe 17 = .ok (.iload_n 2, 1) := by decide +kernel
theorem dX5_safe_18 : decode cX5_safe 18 = .ok (.ifCond .lt 20, 3) := by decide +kernel
theorem dX5_safe_21 : decode cX5_safe 21 = .ok (.aload_n 0, 1) := by decide +kernel
theorem dX5_safe_22 : decode cX5_safe 22 = .ok (.iload_n 1, 1) := by decide +kernel
theorem dX5_safe_23 : decode cX5_safe 23 = .ok (.iload_n 2, 1) := by decide +kernel
theorem dX5_safe_24 : decode cX5_safe 24 = .ok (.invokevirtual 221, 3) := by decide +kernel
theorem dX5_safe_27 : decode cX5_safe 27 = .ok (.ifCond .ne 5, 3) := by decide +kernel
theorem dX5_safe_30 : decode cX5_safe 30 = .ok (.iload_n 2, 1) := by decide +kernel
theorem dX5_safe_31 : decode cX5_safe 31 = .ok (.ireturn, 1) := by decide +kernel
theorem dX5_safe_32 : decode cX5_safe 32 = .ok (.iinc 2 (-1), 3) := by decide +kernel
theorem dX5_safe_35 : decode cX5_safe 35 = .ok (.goto (-18), 3) := by decide +kernel
theorem dX5_safe_38 : decode cX5_safe 38 = .ok (.aload_n 0, 1) := by decide +kernel
theorem dX5_safe_39 : decode cX5_safe 39 = .ok (.ldc 182, 2) := by decide +kernel
theorem dX5_safe_41 : decode cX5_safe 41 = .ok (.invokevirtual 59, 3) := by decide +kernel
theorem dX5_safe_44 : decode cX5_safe 44 = .ok (.ireturn, 1) := by decide +kernel
theorem dX5_tastes_0 : decode cX5_tastes 0 = .ok (.aload_n 0, 1) := by decide +kernel
theorem dX5_tastes_1 : decode cX5_tastes 1 = .ok (.iload_n 1, 1) := by decide +kernel
theorem dX5_tastes_2 : decode cX5_tastes 2 = .ok (.iload_n 2, 1) := by decide +kernel
theorem dX5_tastes_3 : decode cX5_tastes 3 = .ok (.iload_n 3, 1) := by decide +kernel
theorem dX5_tastes_4 : decode cX5_tastes 4 = .ok (.invokevirtual 224, 3) := by decide +kernel
theorem dX5_tastes_7 : decode cX5_tastes 7 = .ok (.istore 4, 2) := by decide +kernel
theorem dX5_tastes_9 : decode cX5_tastes 9 = .ok (.iload 4, 2) := by decide +kernel
theorem dX5_tastes_11 : decode cX5_tastes 11 = .ok (.ifCond .eq 10, 3) := by decide +kernel
theorem dX5_tastes_14 : decode cX5_tastes 14 = .ok (.aload_n 0, 1) := by decide +kernel
theorem dX5_tastes_15 : decode cX5_tastes 15 = .ok (.iload 4, 2) := by decide +kernel
theorem dX5_tastes_17 : decode cX5_tastes 17 = .ok (.invokevirtual 59, 3) := by decide +kernel
theorem dX5_tastes_20 : decode cX5_tastes 20 = .ok (.ireturn, 1) := by decide +kernel
theorem dX5_tastes_21 : decode cX5_tastes 21 = .ok (.iconst 0, 1) := by decide +kernel
theorem dX5_tastes_22 : decode cX5_tastes 22 = .ok (.istore 5, 2) := by decide +kernel
theorem dX5_tastes_24 : decode cX5_tastes 24 = .ok (.iconst 0, 1) := by decide +kernel
theorem dX5_tastes_25 : decode cX5_tastes 25 = .ok (.istore 6, 2) := by decide +kernel
theorem dX5_tastes_27 : decode cX5_tastes 27 = .ok (.iload 6, 2) := by decide +kernel
theorem dX5_tastes_29 : decode cX5_tastes 29 = .ok (.bipush 63, 2) := by decide +kernel
theorem dX5_tastes_31 : decode cX5_tastes 31 = .ok (.if_icmp .gt 29, 3) := by decide +kernel
theorem dX5_tastes_34 : decode cX5_tastes 34 = .ok (.aload_n 0, 1) := by decide +kernel
theorem dX5_tastes_35 : decode cX5_tastes 35 = .ok (.aload_n 0, 1) := by decide +kernel
theorem dX5_tastes_36 : decode cX5_tastes 36 = .ok (.getfield 42, 3) := by decide +kernel
theorem dX5_tastes_39 : decode cX5_tastes 39 = .ok (.iload_n 1, 1) := by decide +kernel
theorem dX5_tastes_40 : decode cX5_tastes 40 = .ok (.aaload, 1) := by decide +kernel
theorem dX5_tastes_41 : decode cX5_tastes 41 = .ok (.iload_n 2, 1) := by decide +kernel
theorem dX5_tastes_42 : decode cX5_tastes 42 = .ok (.iload_n 3, 1) := by decide +kernel
theorem dX5_tastes_43 : decode cX5_tastes 43 = .ok (.iload 6, 2) := by decide +kernel
theorem dX5_tastes_45 : decode cX5_tastes 45 = .ok (.invokevirtual 227, 3) := by decide +kernel
theorem dX5_tastes_48 : decode cX5_tastes 48 = .ok (.ifCond .eq 6, 3) := by decide +kernel
theorem dX5_tastes_51 : decode cX5_tastes 51 = .ok (.iinc 5 1, 3) := by decide +kernel
theorem dX5_tastes_54 : decode cX5_tastes 54 = .ok (.iinc 6 1, 3) := by decide +kernel
theorem dX5_tastes_57 : decode cX5_tastes 57 = .ok (.goto (-30), 3) := by decide +kernel
theorem dX5_tastes_60 : decode cX5_tastes 60 = .ok (.iload 5, 2) := by decide +kernel
theorem dX5_tastes_62 : decode cX5_tastes 62 = .ok (.ireturn, 1) := by decide +kernel
theorem dX5_taste_0 : decode cX5_taste 0 = .ok (.aload_n 0, 1) := by decide +kernel
theorem dX5_taste_1 : decode cX5_taste 1 = .ok (.iload_n 1, 1) := by decide +kernel
theorem dX5_taste_2 : decode cX5_taste 2 = .ok (.iload_n 2, 1) := by decide +kernel
theorem dX5_taste_3 : decode cX5_taste 3 = .ok (.iload_n 3, 1) := by decide +kernel
theorem dX5_taste_4 : decode cX5_taste 4 = .ok (.invokevirtual 224, 3) := by decide +kernel
theorem dX5_taste_7 : decode cX5_taste 7 = .ok (.istore 4, 2) := by decide +kernel
theorem dX5_taste_9 : decode cX5_taste 9 = .ok (.iload 4, 2) := by decide +kernel
theorem dX5_taste_11 : decode cX5_taste 11 = .ok (.ifCond .eq 10, 3) := by decide +kernel
theorem dX5_taste_14 : decode cX5_taste 14 = .ok (.aload_n 0, 1) := by decide +kernel
theorem dX5_taste_15 : decode cX5_taste 15 = .ok (.iload 4, 2) := by decide +kernel
theorem dX5_taste_17 : decode cX5_taste 17 = .ok (.invokevirtual 59, 3) := by decide +kernel
theorem dX5_taste_20 : decode cX5_taste 20 = .ok (.ireturn, 1) := by decide +kernel
theorem dX5_taste_21 : decode cX5_taste 21 = .ok (.iconst 0, 1) := by decide +kernel
theorem dX5_taste_22 : decode cX5_taste 22 = .ok (.istore 5, 2) := by decide +kernel
theorem dX5_taste_24 : decode cX5_taste 24 = .ok (.iload 5, 2) := by decide +kernel
theorem dX5_taste_26 : decode cX5_taste 26 = .ok (.bipush 63, 2) := by decide +kernel
theorem dX5_taste_28 : decode cX5_taste 28 = .ok (.if_icmp .gt 29, 3) := by decide +kernel
theorem dX5_taste_31 : decode cX5_taste 31 = .ok (.aload_n 0, 1) := by decide +kernel
theorem dX5_taste_32 : decode cX5_taste 32 = .ok (.aload_n 0, 1) := by decide +kernel
theorem dX5_taste_33 : decode cX5_taste 33 = .ok (.getfield 42, 3) := by decide +kernel
theorem dX5_taste_36 : decode cX5_taste 36 = .ok (.iload_n 1, 1) := by decide +kernel
theorem dX5_taste_37 : decode cX5_taste 37 = .ok (.aaload, 1) := by decide +kernel
theorem dX5_taste_38 : decode cX5_taste 38 = .ok (.iload_n 2, 1) := by decide +kernel
theorem dX5_taste_39 : decode cX5_taste 39 = .ok (.iload_n 3, 1) := by decide +kernel
theorem dX5_taste_40 : decode cX5_taste 40 = .ok (.iload 5, 2) := by decide +kernel
theorem dX5_taste_42 : decode cX5_taste 42 = .ok (.invokevirtual 227, 3) := by decide +kernel
theorem dX5_taste_45 : decode cX5_taste 45 = .ok (.ifCond .eq 6, 3) := by decide +kernel
theorem dX5_taste_48 : decode cX5_taste 48 = .ok (.iload 5, 2) := by decide +kernel
theorem dX5_taste_50 : decode cX5_taste 50 = .ok (.ireturn, 1) := by decide +kernel
theorem dX5_taste_51 : decode cX5_taste 51 = .ok (.iinc 5 1, 3) := by decide +kernel
theorem dX5_taste_54 : decode cX5_taste 54 = .ok (.goto (-30), 3) := by decide +kernel
theorem dX5_taste_57 : decode cX5_taste 57 = .ok (.aload_n 0, 1) := by decide +kernel
theorem dX5_taste_58 : decode cX5_taste 58 = .ok (.ldc 182, 2) := by decide +kernel
theorem dX5_taste_60 : decode cX5_taste 60 = .ok (.invokevirtual 59, 3) := by decide +kernel
theorem dX5_taste_63 : decode cX5_taste 63 = .ok (.ireturn, 1) := by decide +kernel
theorem dX5_which_0 : decode cX5_which 0 = .ok (.aload_n 0, 1) := by decide +kernel
theorem dX5_which_1 : decode cX5_which 1 = .ok (.iload_n 1, 1) := by decide +kernel
theorem dX5_which_2 : decode cX5_which 2 = .ok (.invokevirtual 231, 3) := by decide +kernel
theorem dX5_which_5 : decode cX5_which 5 = .ok (.istore_n 2, 1) := by decide +kernel
theorem dX5_which_6 : decode cX5_which 6 = .ok (.iload_n 2, 1) := by decide +kernel
theorem dX5_which_7 : decode cX5_which 7 = .ok (.ifCond .eq 9, 3) := by decide +kernel
theorem dX5_which_10 : decode cX5_which 10 = .ok (.aload_n 0, 1) := by decide +kernel
theorem dX5_which_11 : decode cX5_which 11 = .ok (.iload_n 2, 1) := by decide +kernel
theorem dX5_which_12 : decode cX5_which 12 = .ok (.invokevirtual 59, 3) := by decide +kernel
theorem dX5_which_15 : decode cX5_which 15 = .ok (.ireturn, 1) := by decide +kernel
theorem dX5_which_16 : decode cX5_which 16 = .ok (.iconst 0, 1) := by decide +kernel
theorem dX5_which_17 : decode cX5_which 17 = .ok (.istore_n 3, 1) := by decide +kernel
theorem dX5_which_18 : decode cX5_which 18 = .ok (.iconst 0, 1) := by decide +kernel
theorem dX5_which_19 : decode cX5_which 19 = .ok (.istore 4, 2) := by decide +kernel
theorem dX5_which_21 : decode cX5_which 21 = .ok (.iload 4, 2) := by decide +kernel
theorem dX5_which_23 : decode cX5_which 23 = .ok (.aload_n 0, 1) := by decide +kernel
theorem dX5_which_24 : decode cX5_which 24 = .ok (.getfield 10, 3) := by decide +kernel
theorem dX5_which_27 : decode cX5_which 27 = .ok (.getfield 123, 3) := by decide +kernel
theorem dX5_which_30 : decode cX5_which 30 = .ok (.if_icmp .ge 67, 3) := by decide +kernel
theorem dX5_which_33 : decode cX5_which 33 = .ok (.aload_n 0, 1) := by decide +kernel
theorem dX5_which_34 : decode cX5_which 34 = .ok (.getfield 16, 3) := by decide +kernel
theorem dX5_which_37 : decode cX5_which 37 = .ok (.aload_n 0, 1) := by decide +kernel
theorem dX5_which_38 : decode cX5_which 38 = .ok (.getfield 10, 3) := by decide +kernel
theorem dX5_which_41 : decode cX5_which 41 = .ok (.invokevirtual 201, 3) := by decide +kernel
theorem dX5_which_44 : decode cX5_which 44 = .ok (.aload_n 0, 1) := by decide +kernel
theorem dX5_which_45 : decode cX5_which 45 = .ok (.getfield 29, 3) := by decide +kernel
theorem dX5_which_48 : decode cX5_which 48 = .ok (.aload_n 0, 1) := by decide +kernel
theorem dX5_which_49 : decode cX5_which 49 = .ok (.getfield 16, 3) := by decide +kernel
theorem dX5_which_52 : decode cX5_which 52 = .ok (.iload 4, 2) := by decide +kernel
theorem dX5_which_54 : decode cX5_which 54 = .ok (.invokevirtual 167, 3) := by decide +kernel
theorem dX5_which_57 : decode cX5_which 57 = .ok (.pop, 1) := by decide +kernel
theorem dX5_which_58 : decode cX5_which 58 = .ok (.aload_n 0, 1) := by decide +kernel
theorem dX5_which_59 : decode cX5_which 59 = .ok (.getfield 42, 3) := by decide +kernel
theorem dX5_which_62 : decode cX5_which 62 = .ok (.iload_n 1, 1) := by decide +kernel
theorem dX5_which_63 : decode cX5_which 63 = .ok (.aaload, 1) := by decide +kernel
theorem dX5_which_64 : decode cX5_which 64 = .ok (.aload_n 0, 1) := by decide +kernel
theorem dX5_which_65 : decode cX5_which 65 = .ok (.getfield 29, 3) := by decide +kernel
theorem dX5_which_68 : decode cX5_which 68 = .ok (.getfield 205, 3) := by decide +kernel
theorem dX5_which_71 : decode cX5_which 71 = .ok (.aload_n 0, 1) := by decide +kernel
theorem dX5_which_72 : decode cX5_which 72 = .ok (.getfield 10, 3) := by decide +kernel
theorem dX5_which_75 : decode cX5_which 75 = .ok (.getfield 63, 3) := by decide +kernel
theorem dX5_which_78 : decode cX5_which 78 = .ok (.invokevirtual 234, 3) := by decide +kernel
theorem dX5_which_81 : decode cX5_which 81 = .ok (.ifCond .eq 10, 3) := by decide +kernel
theorem dX5_which_84 : decode cX5_which 84 = .ok (.iload_n 3, 1) := by decide +kernel
theorem dX5_which_85 : decode cX5_which 85 = .ok (.iconst 1, 1) := by decide +kernel
theorem dX5_which_86 : decode cX5_which 86 = .ok (.iload 4, 2) := by decide +kernel
theorem dX5_which_88 : decode cX5_which 88 = .ok (.ishl, 1) := by decide +kernel
theorem dX5_which_89 : decode cX5_which 89 = .ok (.ior, 1) := by decide +kernel
theorem dX5_which_90 : decode cX5_which 90 = .ok (.istore_n 3, 1) := by decide +kernel
theorem dX5_which_91 : decode cX5_which 91 = .ok (.iinc 4 1, 3) := by decide +kernel
theorem dX5_which_94 : decode cX5_which 94 = .ok (.goto (-73), 3) := by decide +kernel
theorem dX5_which_97 : decode cX5_which 97 = .ok (.iload_n 3, 1) := by decide +kernel
theorem dX5_which_98 : decode cX5_which 98 = .ok (.ireturn, 1) := by decide +kernel
theorem dX5_shows_0 : decode cX5_shows 0 = .ok (.iload_n 1, 1) := by decide +kernel
theorem dX5_shows_1 : decode cX5_shows 1 = .ok (.iconst 1, 1) := by decide +kernel
theorem dX5_shows_2 : decode cX5_shows 2 = .ok (.bipush 20, 2) := by decide +kernel
theorem dX5_shows_4 : decode cX5_shows 4 = .ok (.invokestatic 132, 3) := by decide +kernel
theorem dX5_shows_7 : decode cX5_shows 7 = .ok (.ifCond .ne 10, 3) := by decide +kernel
theorem dX5_shows_10 : decode cX5_shows 10 = .ok (.aload_n 0, 1) := by decide +kernel
theorem dX5_shows_11 : decode cX5_shows 11 = .ok (.ldc 58, 2) := by decide +kernel
theorem dX5_shows_13 : decode cX5_shows 13 = .ok (.invokevirtual 59, 3) := by decide +kernel
theorem dX5_shows_16 : decode cX5_shows 16 = .ok (.ireturn, 1) := by decide +kernel
theorem dX5_shows_17 : decode cX5_shows 17 = .ok (.aload_n 0, 1) := by decide +kernel
theorem dX5_shows_18 : decode cX5_shows 18 = .ok (.getfield 10, 3) := by decide +kernel
theorem dX5_shows_21 : decode cX5_shows 21 = .ok (.getfield 123, 3) := by decide +kernel
theorem dX5_shows_24 : decode cX5_shows 24 = .ok (.ifCond .eq 17, 3) := by decide +kernel
theorem dX5_shows_27 : decode cX5_shows 27 = .ok (.aload_n 0, 1) := by decide +kernel
theorem dX5_shows_28 : decode cX5_shows 28 = .ok (.getfield 10, 3) := by decide +kernel
theorem dX5_shows_31 : decode cX5_shows 31 = .ok (.getfield 162, 3) := by decide +kernel
theorem dX5_shows_34 : decode cX5_shows 34 = .ok (.iload_n 1, 1) := by decide +kernel
theorem dX5_shows_35 : decode cX5_shows 35 = .ok (.iadd, 1) := by decide +kernel
theorem dX5_shows_36 : decode cX5_shows 36 = .ok (.ldc 165, 2) := by decide +kernel
theorem dX5_shows_38 : decode cX5_shows 38 = .ok (.if_icmp .le 10, 3) := by decide +kernel
theorem dX5_shows_41 : decode cX5_shows 41 = .ok (.aload_n 0, 1) := by decide +kernel
theorem dX5_shows_42 : decode cX5_shows 42 = .ok (.ldc 166, 2) := by decide +kernel
theorem dX5_shows_44 : decode cX5_shows 44 = .ok (.invokevirtual 59, 3) := by decide +kernel
theorem dX5_shows_47 : decode cX5_shows 47 = .ok (.ireturn, 1) := by decide +kernel
theorem dX5_shows_48 : decode cX5_shows 48 = .ok (.iconst 0, 1) := by decide +kernel
theorem dX5_shows_49 : decode cX5_shows 49 = .ok (.istore_n 2, 1) := by decide +kernel
theorem dX5_shows_50 : decode cX5_shows 50 = .ok (.iload_n 2, 1) := by decide +kernel
theorem dX5_shows_51 : decode cX5_shows 51 = .ok (.iload_n 1, 1) := by decide +kernel
theorem dX5_shows_52 : decode cX5_shows 52 = .ok (.if_icmp .ge 35, 3) := by decide +kernel
theorem dX5_shows_55 : decode cX5_shows 55 = .ok (.aload_n 0, 1) := by decide +kernel
theorem dX5_shows_56 : decode cX5_shows 56 = .ok (.getfield 29, 3) := by decide +kernel
theorem dX5_shows_59 : decode cX5_shows 59 = .ok (.aload_n 0, 1) := by decide +kernel
theorem dX5_shows_60 : decode cX5_shows 60 = .ok (.getfield 10, 3) := by decide +kernel
theorem dX5_shows_63 : decode cX5_shows 63 = .ok (.aload_n 0, 1) := by decide +kernel
theorem dX5_shows_64 : decode cX5_shows 64 = .ok (.getfield 10, 3) := by decide +kernel
theorem dX5_shows_67 : decode cX5_shows 67 = .ok (.aload_n 0, 1) := by decide +kernel
theorem dX5_shows_68 : decode cX5_shows 68 = .ok (.getfield 10, 3) := by decide +kernel
theorem dX5_shows_71 : decode cX5_shows 71 = .ok (.getfield 123, 3) := by decide +kernel
theorem dX5_shows_74 : decode cX5_shows 74 = .ok (.invokevirtual 238, 3) := by decide +kernel
theorem dX5_shows_77 : decode cX5_shows 77 = .ok (.invokevirtual 167, 3) := by decide +kernel
theorem dX5_shows_80 : decode cX5_shows 80 = .ok (.pop, 1) := by decide +kernel
theorem dX5_shows_81 : decode cX5_shows 81 = .ok (.iinc 2 1, 3) := by decide +kernel
theorem dX5_shows_84 : decode cX5_shows 84 = .ok (.goto (-34), 3) := by decide +kernel
theorem dX5_shows_87 : decode cX5_shows 87 = .ok (.aload_n 0, 1) := by decide +kernel
theorem dX5_shows_88 : decode cX5_shows 88 = .ok (.getfield 10, 3) := by decide +kernel
theorem dX5_shows_91 : decode cX5_shows 91 = .ok (.getfield 175, 3) := by decide +kernel
theorem dX5_shows_94 : decode cX5_shows 94 = .ok (.ireturn, 1) := by decide +kernel
theorem dX5_odds_0 : decode cX5_odds 0 = .ok (.iload_n 1, 1) := by decide +kernel
theorem dX5_odds_1 : decode cX5_odds 1 = .ok (.iconst 0, 1) := by decide +kernel
theorem dX5_odds_2 : decode cX5_odds 2 = .ok (.bipush 14, 2) := by decide +kernel
theorem dX5_odds_4 : decode cX5_odds 4 = .ok (.invokestatic 132, 3) := by decide +kernel
theorem dX5_odds_7 : decode cX5_odds 7 = .ok (.ifCond .eq 12, 3) := by decide +kernel
theorem dX5_odds_10 : decode cX5_odds 10 = .ok (.iload_n 2, 1) := by decide +kernel
theorem dX5_odds_11 : decode cX5_odds 11 = .ok (.iconst 0, 1) := by decide +kernel
theorem dX5_odds_12 : decode cX5_odds 12 = .ok (.iconst 1, 1) := by decide +kernel
theorem dX5_odds_13 : decode cX5_odds 13 = .ok (.invokestatic 132, 3) := by decide +kernel
theorem dX5_odds_16 : decode cX5_odds 16 = .ok (.ifCond .ne 11, 3) := by decide +kernel
theorem dX5_odds_19 : decode cX5_odds 19 = .ok (.aload_n 0, 1) := by decide +kernel
theorem dX5_odds_20 : decode cX5_odds 20 = .ok (.ldc 58, 2) := by decide +kernel
theorem dX5_odds_22 : decode cX5_odds 22 = .ok (.invokevirtual 59, 3) := by decide +kernel
theorem dX5_odds_25 : decode cX5_odds 25 = .ok (.i2l, 1) := by decide +kernel
theorem dX5_odds_26 : decode cX5_odds 26 = .ok (.lreturn, 1) := by decide +kernel
theorem dX5_odds_27 : decode cX5_odds 27 = .ok (.aload_n 0, 1) := by decide +kernel
theorem dX5_odds_28 : decode cX5_odds 28 = .ok (.getfield 10, 3) := by decide +kernel
theorem dX5_odds_31 : decode cX5_odds 31 = .ok (.getfield 123, 3) := by decide +kernel
theorem dX5_odds_34 : decode cX5_odds 34 = .ok (.ifCond .ne 11, 3) := by decide +kernel
theorem dX5_odds_37 : decode cX5_odds 37 = .ok (.aload_n 0, 1) := by decide +kernel
theorem dX5_odds_38 : decode cX5_odds 38 = .ok (.ldc 182, 2) := by decide +kernel
theorem dX5_odds_40 : decode cX5_odds 40 = .ok (.invokevirtual 59, 3) := by decide +kernel
theorem dX5_odds_43 : decode cX5_odds 43 = .ok (.i2l, 1) := by decide +kernel
theorem dX5_odds_44 : decode cX5_odds 44 = .ok (.lreturn, 1) := by decide +kernel
theorem dX5_odds_45 : decode cX5_odds 45 = .ok (.iconst 0, 1) := by decide +kernel
theorem dX5_odds_46 : decode cX5_odds 46 = .ok (.istore_n 3, 1) := by decide +kernel
theorem dX5_odds_47 : decode cX5_odds 47 = .ok (.iconst 0, 1) := by decide +kernel
theorem dX5_odds_48 : decode cX5_odds 48 = .ok (.istore 4, 2) := by decide +kernel
theorem dX5_odds_50 : decode cX5_odds 50 = .ok (.iload 4, 2) := by decide +kernel
theorem dX5_odds_52 : decode cX5_odds 52 = .ok (.aload_n 0, 1) := by decide +kernel
theorem dX5_odds_53 : decode cX5_odds 53 = .ok (.getfield 10, 3) := by decide +kernel
theorem dX5_odds_56 : decode cX5_odds 56 = .ok (.getfield 123, 3) := by decide +kernel
theorem dX5_odds_59 : decode cX5_odds 59 = .ok (.if_icmp .ge 28, 3) := by decide +kernel
theorem dX5_odds_62 : decode cX5_odds 62 = .ok (.aload_n 0, 1) := by decide +kernel
theorem dX5_odds_63 : decode cX5_odds 63 = .ok (.getfield 29, 3) := by decide +kernel
theorem dX5_odds_66 : decode cX5_odds 66 = .ok (.aload_n 0, 1) := by decide +kernel
theorem dX5_odds_67 : decode cX5_odds 67 = .ok (.getfield 10, 3) := by decide +kernel
theorem dX5_odds_70 : decode cX5_odds 70 = .ok (.iload 4, 2) := by decide +kernel
theorem dX5_odds_72 : decode cX5_odds 72 = .ok (.invokevirtual 195, 3) := by decide +kernel
theorem dX5_odds_75 : decode cX5_odds 75 = .ok (.ifCond .eq 6, 3) := by decide +kernel
theorem dX5_odds_78 : decode cX5_odds 78 = .ok (.iinc 3 1, 3) := by decide +kernel
theorem dX5_odds_81 : decode cX5_odds 81 = .ok (.iinc 4 1, 3) := by decide +kernel
theorem dX5_odds_84 : decode cX5_odds 84 = .ok (.goto (-34), 3) := by decide +kernel
theorem dX5_odds_87 : decode cX5_odds 87 = .ok (.iload_n 2, 1) := by decide +kernel
theorem dX5_odds_88 : decode cX5_odds 88 = .ok (.ifCond .ne 17, 3) := by decide +kernel
theorem dX5_odds_91 : decode cX5_odds 91 = .ok (.iload_n 3, 1) := by decide +kernel
theorem dX5_odds_92 : decode cX5_odds 92 = .ok (.aload_n 0, 1) := by decide +kernel
theorem dX5_odds_93 : decode cX5_odds 93 = .ok (.getfield 10, 3) := by decide +kernel
theorem dX5_odds_96 : decode cX5_odds 96 = .ok (.getfield 123, 3) := by decide +kernel
theorem dX5_odds_99 : decode cX5_odds 99 = .ok (.invokestatic 241, 3) := by decide +kernel
theorem dX5_odds_102 : decode cX5_odds 102 = .ok (.goto 14, 3) := by decide +kernel
theorem dX5_odds_105 : decode cX5_odds 105 = .ok (.aload_n 0, 1) := by decide +kernel
theorem dX5_odds_106 : decode cX5_odds 106 = .ok (.getfield 10, 3) := by decide +kernel
theorem dX5_odds_109 : decode cX5_odds 109 = .ok (.getfield 123, 3) := by decide +kernel
theorem dX5_odds_112 : decode cX5_odds 112 = .ok (.iload_n 3, 1) := by decide +kernel
theorem dX5_odds_113 : decode cX5_odds 113 = .ok (.invokestatic 241, 3) := by decide +kernel
theorem dX5_odds_116 : decode cX5_odds 116 = .ok (.istore 4, 2) := by decide +kernel
theorem dX5_odds_118 : decode cX5_odds 118 = .ok (.iload 4, 2) := by decide +kernel
theorem dX5_odds_120 : decode cX5_odds 120 = .ok (.iload_n 1, 1) := by decide +kernel
theorem dX5_odds_121 : decode cX5_odds 121 = .ok (.invokestatic 244, 3) := by decide +kernel
theorem dX5_odds_124 : decode cX5_odds 124 = .ok (.lreturn, 1) := by decide +kernel
theorem dX5_seed_0 : decode cX5_seed 0 = .ok (.aload_n 0, 1) := by decide +kernel
theorem dX5_seed_1 : decode cX5_seed 1 = .ok (.getfield 10, 3) := by decide +kernel
theorem dX5_seed_4 : decode cX5_seed 4 = .ok (.getfield 248, 3) := by decide +kernel
theorem dX5_seed_7 : decode cX5_seed 7 = .ok (.istore_n 2, 1) := by decide +kernel
theorem dX5_seed_8 : decode cX5_seed 8 = .ok (.aload_n 0, 1) := by decide +kernel
theorem dX5_seed_9 : decode cX5_seed 9 = .ok (.getfield 10, 3) := by decide +kernel
theorem dX5_seed_12 : decode cX5_seed 12 = .ok (.iload_n 1, 1) := by decide +kernel
theorem dX5_seed_13 : decode cX5_seed 13 = .ok (.putfield 248, 3) := by decide +kernel
theorem dX5_seed_16 : decode cX5_seed 16 = .ok (.iload_n 2, 1) := by decide +kernel
theorem dX5_seed_17 : decode cX5_seed 17 = .ok (.ireturn, 1) := by decide +kernel
theorem dX5_feed_0 : decode cX5_feed 0 = .ok (.iload_n 2, 1) := by decide +kernel
theorem dX5_feed_1 : decode cX5_feed 1 = .ok (.iconst 1, 1) := by decide +kernel
theorem dX5_feed_2 : decode cX5_feed 2 = .ok (.iconst 4, 1) := by decide +kernel
theorem dX5_feed_3 : decode cX5_feed 3 = .ok (.invokestatic 132, 3) := by decide +kernel
theorem dX5_feed_6 : decode cX5_feed 6 = .ok (.ifCond .ne 10, 3) := by decide +kernel
theorem dX5_feed_9 : decode cX5_feed 9 = .ok (.aload_n 0, 1) := by decide +kernel
theorem dX5_feed_10 : decode cX5_feed 10 = .ok (.ldc 58, 2) := by decide +kernel
theorem dX5_feed_12 : decode cX5_feed 12 = .ok (.invokevirtual 59, 3) := by decide +kernel
theorem dX5_feed_15 : decode cX5_feed 15 = .ok (.ireturn, 1) := by decide +kernel
theorem dX5_feed_16 : decode cX5_feed 16 = .ok (.aload_n 0, 1) := by decide +kernel
theorem dX5_feed_17 : decode cX5_feed 17 = .ok (.getfield 36, 3) := by decide +kernel
theorem dX5_feed_20 : decode cX5_feed 20 = .ok (.getfield 251, 3) := by decide +kernel
theorem dX5_feed_23 : decode cX5_feed 23 = .ok (.iload_n 2, 1) := by decide +kernel
theorem dX5_feed_24 : decode cX5_feed 24 = .ok (.iadd, 1) := by decide +kernel
theorem dX5_feed_25 : decode cX5_feed 25 = .ok (.bipush 120, 2) := by decide +kernel
theorem dX5_feed_27 : decode cX5_feed 27 = .ok (.if_icmp .le 10, 3) := by decide +kernel
theorem dX5_feed_30 : decode cX5_feed 30 = .ok (.aload_n 0, 1) := by decide +kernel
theorem dX5_feed_31 : decode cX5_feed 31 = .ok (.ldc 67, 2) := by decide +kernel
theorem dX5_feed_33 : decode cX5_feed 33 = .ok (.invokevirtual 59, 3) := by decide +kernel
theorem dX5_feed_36 : decode cX5_feed 36 = .ok (.ireturn, 1) := by decide +kernel
theorem dX5_feed_37 : decode cX5_feed 37 = .ok (.iload_n 2, 1) := by decide +kernel
theorem dX5_feed_38 : decode cX5_feed 38 = .ok (.iconst 1, 1) := by decide +kernel
theorem dX5_feed_39 : decode cX5_feed 39 = .ok (.isub, 1) := by decide +kernel
theorem dX5_feed_40 : decode cX5_feed 40 = .ok (.istore_n 3, 1) := by decide +kernel
theorem dX5_feed_41 : decode cX5_feed 41 = .ok (.iload_n 3, 1) := by decide +kernel
theorem dX5_feed_42 : decode cX5_feed 42 = .ok (.ifCond .lt 23, 3) := by decide +kernel
theorem dX5_feed_45 : decode cX5_feed 45 = .ok (.aload_n 0, 1) := by decide +kernel
theorem dX5_feed_46 : decode cX5_feed 46 = .ok (.getfield 36, 3) := by decide +kernel
theorem dX5_feed_49 : decode cX5_feed 49 = .ok (.iload_n 1, 1) := by decide +kernel
theorem dX5_feed_50 : decode cX5_feed 50 = .ok (.bipush 8, 2) := by decide +kernel
theorem dX5_feed_52 : decode cX5_feed 52 = .ok (.iload_n 3, 1) := by decide +kernel
theorem dX5_feed_53 : decode cX5_feed 53 = .ok (.imul, 1) := by decide +kernel
theorem dX5_feed_54 : decode cX5_feed 54 = .ok (.iushr, 1) := by decide +kernel
theorem dX5_feed_55 : decode cX5_feed 55 = .ok (.i2b, 1) := by decide +kernel
theorem dX5_feed_56 : decode cX5_feed 56 = .ok (.invokevirtual 254, 3) := by decide +kernel
theorem dX5_feed_59 : decode cX5_feed 59 = .ok (.iinc 3 (-1), 3) := by decide +kernel
theorem dX5_feed_62 : decode cX5_feed 62 = .ok (.goto (-21), 3) := by decide +kernel
theorem dX5_feed_65 : decode cX5_feed 65 = .ok (.aload_n 0, 1) := by decide +kernel
theorem dX5_feed_66 : decode cX5_feed 66 = .ok (.getfield 36, 3) := by decide +kernel
theorem dX5_feed_69 : decode cX5_feed 69 = .ok (.getfield 251, 3) := by decide +kernel
theorem dX5_feed_72 : decode cX5_feed 72 = .ok (.ireturn, 1) := by decide +kernel
theorem dX5_wipe_0 : decode cX5_wipe 0 = .ok (.aload_n 0, 1) := by decide +kernel
theorem dX5_wipe_1 : decode cX5_wipe 1 = .ok (.getfield 36, 3) := by decide +kernel
theorem dX5_wipe_4 : decode cX5_wipe 4 = .ok (.getfield 251, 3) := by decide +kernel
theorem dX5_wipe_7 : decode cX5_wipe 7 = .ok (.istore_n 1, 1) := by decide +kernel
theorem dX5_wipe_8 : decode cX5_wipe 8 = .ok (.aload_n 0, 1) := by decide +kernel
theorem dX5_wipe_9 : decode cX5_wipe 9 = .ok (.getfield 36, 3) := by decide +kernel
theorem dX5_wipe_12 : decode cX5_wipe 12 = .ok (.iconst 0, 1) := by decide +kernel
theorem dX5_wipe_13 : decode cX5_wipe 13 = .ok (.putfield 251, 3) := by decide +kernel
theorem dX5_wipe_16 : decode cX5_wipe 16 = .ok (.iload_n 1, 1) := by decide +kernel
theorem dX5_wipe_17 : decode cX5_wipe 17 = .ok (.ireturn, 1) := by decide +kernel
theorem dX5_text_0 : decode cX5_text 0 = .ok (.aload_n 0, 1) := by decide +kernel
theorem dX5_text_1 : decode cX5_text 1 = .ok (.getfield 16, 3) := by decide +kernel
theorem dX5_text_4 : decode cX5_text 4 = .ok (.aload_n 0, 1) := by decide +kernel
theorem dX5_text_5 : decode cX5_text 5 = .ok (.getfield 10, 3) := by decide +kernel
theorem dX5_text_8 : decode cX5_text 8 = .ok (.invokevirtual 201, 3) := by decide +kernel
theorem dX5_text_11 : decode cX5_text 11 = .ok (.aload_n 0, 1) := by decide +kernel
theorem dX5_text_12 : decode cX5_text 12 = .ok (.getfield 36, 3) := by decide +kernel
theorem dX5_text_15 : decode cX5_text 15 = .ok (.aload_n 0, 1) := by decide +kernel
theorem dX5_text_16 : decode cX5_text 16 = .ok (.getfield 16, 3) := by decide +kernel
theorem dX5_text_19 : decode cX5_text 19 = .ok (.invokevirtual 258, 3) := by decide +kernel
theorem dX5_text_22 : decode cX5_text 22 = .ok (.istore_n 1, 1) := by decide +kernel
theorem dX5_text_23 : decode cX5_text 23 = .ok (.aload_n 0, 1) := by decide +kernel
theorem dX5_text_24 : decode cX5_text 24 = .ok (.getfield 36, 3) := by decide +kernel
theorem dX5_text_27 : decode cX5_text 27 = .ok (.iconst 0, 1) := by decide +kernel
theorem dX5_text_28 : decode cX5_text 28 = .ok (.putfield 251, 3) := by decide +kernel
theorem dX5_text_31 : decode cX5_text 31 = .ok (.iload_n 1, 1) := by decide +kernel
theorem dX5_text_32 : decode cX5_text 32 = .ok (.ifCond .lt 14, 3) := by decide +kernel
theorem dX5_text_35 : decode cX5_text 35 = .ok (.aload_n 0, 1) := by decide +kernel
theorem dX5_text_36 : decode cX5_text 36 = .ok (.getfield 10, 3) := by decide +kernel
theorem dX5_text_39 : decode cX5_text 39 = .ok (.aload_n 0, 1) := by decide +kernel
theorem dX5_text_40 : decode cX5_text 40 = .ok (.getfield 16, 3) := by decide +kernel
theorem dX5_text_43 : decode cX5_text 43 = .ok (.invokevirtual 201, 3) := by decide +kernel
theorem dX5_text_46 : decode cX5_text 46 = .ok (.iload_n 1, 1) := by decide +kernel
theorem dX5_text_47 : decode cX5_text 47 = .ok (.ireturn, 1) := by decide +kernel
theorem dX5_hold_0 : decode cX5_hold 0 = .ok (.iload_n 2, 1) := by decide +kernel
theorem dX5_hold_1 : decode cX5_hold 1 = .ok (.iconst (-1), 1) := by decide +kernel
theorem dX5_hold_2 : decode cX5_hold 2 = .ok (.if_icmp .ne 7, 3) := by decide +kernel
theorem dX5_hold_5 : decode cX5_hold 5 = .ok (.iconst 1, 1) := by decide +kernel
theorem dX5_hold_6 : decode cX5_hold 6 = .ok (.goto 4, 3) := by decide +kernel
theorem dX5_hold_9 : decode cX5_hold 9 = .ok (.iconst 0, 1) := by decide +kernel
theorem dX5_hold_10 : decode cX5_hold 10 = .ok (.istore_n 3, 1) := by decide +kernel
theorem dX5_hold_11 : decode cX5_hold 11 = .ok (.iload_n 1, 1) := by decide +kernel
theorem dX5_hold_12 : decode cX5_hold 12 = .ok (.iconst 0, 1) := by decide +kernel
theorem dX5_hold_13 : decode cX5_hold 13 = .ok (.bipush 9, 2) := by decide +kernel
theorem dX5_hold_15 : decode cX5_hold 15 = .ok (.invokestatic 132, 3) := by decide +kernel
theorem dX5_hold_18 : decode cX5_hold 18 = .ok (.ifCond .eq 15, 3) := by decide +kernel
theorem dX5_hold_21 : decode cX5_hold 21 = .ok (.iload_n 3, 1) := by decide +kernel
theorem dX5_hold_22 : decode cX5_hold 22 = .ok (.ifCond .ne 18, 3) := by decide +kernel
theorem dX5_hold_25 : decode cX5_hold 25 = .ok (.aload_n 0, 1) := by decide +kernel
theorem dX5_hold_26 : decode cX5_hold 26 = .ok (.iload_n 2, 1) := by decide +kernel
theorem dX5_hold_27 : decode cX5_hold 27 = .ok (.invokevirtual 72, 3) := by decide +kernel
theorem dX5_hold_30 : decode cX5_hold 30 = .ok (.ifCond .ne 10, 3) := by decide +kernel
theorem dX5_hold_33 : decode cX5_hold 33 = .ok (.aload_n 0, 1) := by decide +kernel
theorem dX5_hold_34 : decode cX5_hold 34 = .ok (.ldc 58, 2) := by decide +kernel
theorem dX5_hold_36 : decode cX5_hold 36 = .ok (.invokevirtual 59, 3) := by decide +kernel
theorem dX5_hold_39 : decode cX5_hold 39 = .ok (.ireturn, 1) := by decide +kernel
theorem dX5_hold_40 : decode cX5_hold 40 = .ok (.aload_n 0, 1) := by decide +kernel
theorem dX5_hold_41 : decode cX5_hold 41 = .ok (.getfield 10, 3) := by decide +kernel
theorem dX5_hold_44 : decode cX5_hold 44 = .ok (.getfield 262, 3) := by decide +kernel
theorem dX5_hold_47 : decode cX5_hold 47 = .ok (.iload_n 1, 1) := by decide +kernel
theorem dX5_hold_48 : decode cX5_hold 48 = .ok (.iload_n 2, 1) := by decide +kernel
theorem dX5_hold_49 : decode cX5_hold 49 = .ok (.iastore, 1) := by decide +kernel
theorem dX5_hold_50 : decode cX5_hold 50 = .ok (.iconst 1, 1) := by decide +kernel
theorem dX5_hold_51 : decode cX5_hold 51 = .ok (.ireturn, 1) := by decide +kernel
theorem dX5_as_0 : decode cX5_as 0 = .ok (.iload_n 1, 1) := by decide +kernel
theorem dX5_as_1 : decode cX5_as 1 = .ok (.iconst 0, 1) := by decide +kernel
theorem dX5_as_2 : decode cX5_as 2 = .ok (.bipush 9, 2) := by decide +kernel
theorem dX5_as_4 : decode cX5_as 4 = .ok (.invokestatic 132, 3) := by decide +kernel
theorem dX5_as_7 : decode cX5_as 7 = .ok (.ifCond .eq 10, 3) := by decide +kernel
theorem dX5_as_10 : decode cX5_as 10 = .ok (.iload_n 2, 1) := by decide +kernel
theorem dX5_as_11 : decode cX5_as 11 = .ok (.invokestatic 51, 3) := by decide +kernel
theorem dX5_as_14 : decode cX5_as 14 = .ok (.ifCond .ne 10, 3) := by decide +kernel
theorem dX5_as_17 : decode cX5_as 17 = .ok (.aload_n 0, 1) := by decide +kernel
theorem dX5_as_18 : decode cX5_as 18 = .ok (.ldc 58, 2) := by decide +kernel
theorem dX5_as_20 : decode cX5_as 20 = .ok (.invokevirtual 59, 3) := by decide +kernel
theorem dX5_as_23 : decode cX5_as 23 = .ok (.ireturn, 1) := by decide +kernel
theorem dX5_as_24 : decode cX5_as 24 = .ok (.aload_n 0, 1) := by decide +kernel
theorem dX5_as_25 : decode cX5_as 25 = .ok (.getfield 10, 3) := by decide +kernel
theorem dX5_as_28 : decode cX5_as 28 = .ok (.getfield 262, 3) := by decide +kernel
theorem dX5_as_31 : decode cX5_as 31 = .ok (.iload_n 1, 1) := by decide +kernel
theorem dX5_as_32 : decode cX5_as 32 = .ok (.iaload, 1) := by decide +kernel
theorem dX5_as_33 : decode cX5_as 33 = .ok (.istore_n 3, 1) := by decide +kernel
theorem dX5_as_34 : decode cX5_as 34 = .ok (.aload_n 0, 1) := by decide +kernel
theorem dX5_as_35 : decode cX5_as 35 = .ok (.iload_n 3, 1) := by decide +kernel
theorem dX5_as_36 : decode cX5_as 36 = .ok (.invokevirtual 72, 3) := by decide +kernel
theorem dX5_as_39 : decode cX5_as 39 = .ok (.ifCond .ne 11, 3) := by decide +kernel
theorem dX5_as_42 : decode cX5_as 42 = .ok (.aload_n 0, 1) := by decide +kernel
theorem dX5_as_43 : decode cX5_as 43 = .ok (.ldc_w 265, 3) := by decide +kernel
theorem dX5_as_46 : decode cX5_as 46 = .ok (.invokevirtual 59, 3) := by decide +kernel
theorem dX5_as_49 : decode cX5_as 49 = .ok (.ireturn, 1) := by decide +kernel
theorem dX5_as_50 : decode cX5_as 50 = .ok (.aload_n 0, 1) := by decide +kernel
theorem dX5_as_51 : decode cX5_as 51 = .ok (.getfield 10, 3) := by decide +kernel
theorem dX5_as_54 : decode cX5_as 54 = .ok (.getfield 75, 3) := by decide +kernel
theorem dX5_as_57 : decode cX5_as 57 = .ok (.iload_n 3, 1) := by decide +kernel
theorem dX5_as_58 : decode cX5_as 58 = .ok (.iaload, 1) := by decide +kernel
theorem dX5_as_59 : decode cX5_as 59 = .ok (.iload_n 2, 1) := by decide +kernel
theorem dX5_as_60 : decode cX5_as 60 = .ok (.invokestatic 266, 3) := by decide +kernel
theorem dX5_as_63 : decode cX5_as 63 = .ok (.ifCond .eq 7, 3) := by decide +kernel
theorem dX5_as_66 : decode cX5_as 66 = .ok (.iload_n 3, 1) := by decide +kernel
theorem dX5_as_67 : decode cX5_as 67 = .ok (.goto 10, 3) := by decide +kernel
theorem dX5_as_70 : decode cX5_as 70 = .ok (.aload_n 0, 1) := by decide +kernel
theorem dX5_as_71 : decode cX5_as 71 = .ok (.ldc_w 269, 3) := by decide +kernel
theorem dX5_as_74 : decode cX5_as 74 = .ok (.invokevirtual 59, 3) := by decide +kernel
theorem dX5_as_77 : decode cX5_as 77 = .ok (.ireturn, 1) := by decide +kernel
theorem dX5_sheet_0 : decode cX5_sheet 0 = .ok (.iload_n 2, 1) := by decide +kernel
theorem dX5_sheet_1 : decode cX5_sheet 1 = .ok (.ifCond .eq 21, 3) := by decide +kernel
theorem dX5_sheet_4 : decode cX5_sheet 4 = .ok (.iload_n 2, 1) := by decide +kernel
theorem dX5_sheet_5 : decode cX5_sheet 5 = .ok (.bipush 8, 2) := by decide +kernel
theorem dX5_sheet_7 : decode cX5_sheet 7 = .ok (.if_icmp .eq 15, 3) := by decide +kernel
theorem dX5_sheet_10 : decode cX5_sheet 10 = .ok (.iload_n 2, 1) := by decide +kernel
theorem dX5_sheet_11 : decode cX5_sheet 11 = .ok (.bipush 16, 2) := by decide +kernel
theorem dX5_sheet_13 : decode cX5_sheet 13 = .ok (.if_icmp .eq 9, 3) := by decide +kernel
theorem dX5_sheet_16 : decode cX5_sheet 16 = .ok (.iload_n 2, 1) := by decide +kernel
theorem dX5_sheet_17 : decode cX5_sheet 17 = .ok (.bipush 32, 2) := by decide +kernel
theorem dX5_sheet_19 : decode cX5_sheet 19 = .ok (.if_icmp .ne 7, 3) := by decide +kernel
theorem dX5_sheet_22 : decode cX5_sheet 22 = .ok (.iconst 1, 1) := by decide +kernel
theorem dX5_sheet_23 : decode cX5_sheet 23 = .ok (.goto 4, 3) := by decide +kernel
theorem dX5_sheet_26 : decode cX5_sheet 26 = .ok (.iconst 0, 1) := by decide +kernel
theorem dX5_sheet_27 : decode cX5_sheet 27 = .ok (.istore 4, 2) := by decide +kernel
theorem dX5_sheet_29 : decode cX5_sheet 29 = .ok (.iload_n 1, 1) := by decide +kernel
theorem dX5_sheet_30 : decode cX5_sheet 30 = .ok (.iconst 0, 1) := by decide +kernel
theorem dX5_sheet_31 : decode cX5_sheet 31 = .ok (.iconst 3, 1) := by decide +kernel
theorem dX5_sheet_32 : decode cX5_sheet 32 = .ok (.invokestatic 132, 3) := by decide +kernel
theorem dX5_sheet_35 : decode cX5_sheet 35 = .ok (.ifCond .eq 8, 3) := by decide +kernel
theorem dX5_sheet_38 : decode cX5_sheet 38 = .ok (.iload 4, 2) := by decide +kernel
theorem dX5_sheet_40 : decode cX5_sheet 40 = .ok (.ifCond .ne 10, 3) := by decide +kernel
theorem dX5_sheet_43 : decode cX5_sheet 43 = .ok (.aload_n 0, 1) := by decide +kernel
theorem dX5_sheet_44 : decode cX5_sheet 44 = .ok (.ldc 58, 2) := by decide +kernel
theorem dX5_sheet_46 : decode cX5_sheet 46 = .ok (.invokevirtual 59, 3) := by decide +kernel
theorem dX5_sheet_49 : decode cX5_sheet 49 = .ok (.ireturn, 1) := by decide +kernel
theorem dX5_sheet_50 : decode cX5_sheet 50 = .ok (.iload_n 3, 1) := by decide +kernel
theorem dX5_sheet_51 : decode cX5_sheet 51 = .ok (.ifCond .ge 11, 3) := by decide +kernel
theorem dX5_sheet_54 : decode cX5_sheet 54 = .ok (.aload_n 0, 1) := by decide +kernel
theorem dX5_sheet_55 : decode cX5_sheet 55 = .ok (.ldc_w 270, 3) := by decide +kernel
theorem dX5_sheet_58 : decode cX5_sheet 58 = .ok (.invokevirtual 59, 3) := by decide +kernel
theorem dX5_sheet_61 : decode cX5_sheet 61 = .ok (.ireturn, 1) := by decide +kernel
theorem dX5_sheet_62 : decode cX5_sheet 62 = .ok (.iload_n 3, 1) := by decide +kernel
theorem dX5_sheet_63 : decode cX5_sheet 63 = .ok (.bipush 40, 2) := by decide +kernel
theorem dX5_sheet_65 : decode cX5_sheet 65 = .ok (.if_icmp .le 10, 3) := by decide +kernel
theorem dX5_sheet_68 : decode cX5_sheet 68 = .ok (.aload_n 0, 1) := by decide +kernel
theorem dX5_sheet_69 : decode cX5_sheet 69 = .ok (.ldc 58, 2) := by decide +kernel
theorem dX5_sheet_71 : decode cX5_sheet 71 = .ok (.invokevirtual 59, 3) := by decide +kernel
theorem dX5_sheet_74 : decode cX5_sheet 74 = .ok (.ireturn, 1) := by decide +kernel
theorem dX5_sheet_75 : decode cX5_sheet 75 = .ok (.aload_n 0, 1) := by decide +kernel
theorem dX5_sheet_76 : decode cX5_sheet 76 = .ok (.getfield 42, 3) := by decide +kernel
theorem dX5_sheet_79 : decode cX5_sheet 79 = .ok (.iload_n 1, 1) := by decide +kernel
theorem dX5_sheet_80 : decode cX5_sheet 80 = .ok (.aaload, 1) := by decide +kernel
theorem dX5_sheet_81 : decode cX5_sheet 81 = .ok (.iload_n 2, 1) := by decide +kernel
theorem dX5_sheet_82 : decode cX5_sheet 82 = .ok (.iload_n 2, 1) := by decide +kernel
theorem dX5_sheet_83 : decode cX5_sheet 83 = .ok (.ifCond .ne 7, 3) := by decide +kernel
theorem dX5_sheet_86 : decode cX5_sheet 86 = .ok (.iconst 0, 1) := by decide +kernel
theorem dX5_sheet_87 : decode cX5_sheet 87 = .ok (.goto 4, 3) := by decide +kernel
theorem dX5_sheet_90 : decode cX5_sheet 90 = .ok (.iload_n 3, 1) := by decide +kernel
theorem dX5_sheet_91 : decode cX5_sheet 91 = .ok (.invokevirtual 271, 3) := by decide +kernel
theorem dX5_sheet_94 : decode cX5_sheet 94 = .ok (.aload_n 0, 1) := by decide +kernel
theorem dX5_sheet_95 : decode cX5_sheet 95 = .ok (.getfield 42, 3) := by decide +kernel
theorem dX5_sheet_98 : decode cX5_sheet 98 = .ok (.iload_n 1, 1) := by decide +kernel
theorem dX5_sheet_99 : decode cX5_sheet 99 = .ok (.aaload, 1) := by decide +kernel
theorem dX5_sheet_100 : decode cX5_sheet 100 = .ok (.getfield 274, 3) := by decide +kernel
theorem dX5_sheet_103 : decode cX5_sheet 103 = .ok (.ireturn, 1) := by decide +kernel
theorem dX5_write_0 : decode cX5_write 0 = .ok (.aload_n 0, 1) := by decide +kernel
theorem dX5_write_1 : decode cX5_write 1 = .ok (.iload_n 1, 1) := by decide +kernel
theorem dX5_write_2 : decode cX5_write 2 = .ok (.invokevirtual 231, 3) := by decide +kernel
theorem dX5_write_5 : decode cX5_write 5 = .ok (.istore 4, 2) := by decide +kernel
theorem dX5_write_7 : decode cX5_write 7 = .ok (.iload 4, 2) := by decide +kernel
theorem dX5_write_9 : decode cX5_write 9 = .ok (.ifCond .eq 10, 3) := by decide +kernel
theorem dX5_write_12 : decode cX5_write 12 = .ok (.aload_n 0, 1) := by decide +kernel
theorem dX5_write_13 : decode cX5_write 13 = .ok (.iload 4, 2) := by decide +kernel
theorem dX5_write_15 : decode cX5_write 15 = .ok (.invokevirtual 59, 3) := by decide +kernel
theorem dX5_write_18 : decode cX5_write 18 = .ok (.ireturn, 1) := by decide +kernel
theorem dX5_write_19 : decode cX5_write 19 = .ok (.iload_n 2, 1) := by decide +kernel
theorem dX5_write_20 : decode cX5_write 20 = .ok (.iconst 0, 1) := by decide +kernel
theorem dX5_write_21 : decode cX5_write 21 = .ok (.aload_n 0, 1) := by decide +kernel
theorem dX5_write_22 : decode cX5_write 22 = .ok (.getfield 42, 3) := by decide +kernel
theorem dX5_write_25 : decode cX5_write 25 = .ok (.iload_n 1, 1) := by decide +kernel
theorem dX5_write_26 : decode cX5_write 26 = .ok (.aaload, 1) := by decide +kernel
theorem dX5_write_27 : decode cX5_write 27 = .ok (.getfield 274, 3) := by decide +kernel
theorem dX5_write_30 : decode cX5_write 30 = .ok (.iconst 1, 1) := by decide +kernel
theorem dX5_write_31 : decode cX5_write 31 = .ok (.isub, 1) := by decide +kernel
theorem dX5_write_32 : decode cX5_write 32 = .ok (.invokestatic 132, 3) := by decide +kernel
theorem dX5_write_35 : decode cX5_write 35 = .ok (.ifCond .ne 10, 3) := by decide +kernel
theorem dX5_write_38 : decode cX5_write 38 = .ok (.aload_n 0, 1) := by decide +kernel
theorem dX5_write_39 : decode cX5_write 39 = .ok (.ldc 58, 2) := by decide +kernel
theorem dX5_write_41 : decode cX5_write 41 = .ok (.invokevirtual 59, 3) := by decide +kernel
theorem dX5_write_44 : decode cX5_write 44 = .ok (.ireturn, 1) := by decide +kernel
theorem dX5_write_45 : decode cX5_write 45 = .ok (.aload_n 0, 1) := by decide +kernel
theorem dX5_write_46 : decode cX5_write 46 = .ok (.getfield 42, 3) := by decide +kernel
theorem dX5_write_49 : decode cX5_write 49 = .ok (.iload_n 1, 1) := by decide +kernel
theorem dX5_write_50 : decode cX5_write 50 = .ok (.aaload, 1) := by decide +kernel
theorem dX5_write_51 : decode cX5_write 51 = .ok (.iload_n 2, 1) := by decide +kernel
theorem dX5_write_52 : decode cX5_write 52 = .ok (.iload_n 3, 1) := by decide +kernel
theorem dX5_write_53 : decode cX5_write 53 = .ok (.invokevirtual 275, 3) := by decide +kernel
theorem dX5_write_56 : decode cX5_write 56 = .ok (.iconst 1, 1) := by decide +kernel
theorem dX5_write_57 : decode cX5_write 57 = .ok (.ireturn, 1) := by decide +kernel
theorem dX5_copy_0 : decode cX5_copy 0 = .ok (.iload_n 1, 1) := by decide +kernel
theorem dX5_copy_1 : decode cX5_copy 1 = .ok (.iconst 0, 1) := by decide +kernel
theorem dX5_copy_2 : decode cX5_copy 2 = .ok (.iconst 3, 1) := by decide +kernel
theorem dX5_copy_3 : decode cX5_copy 3 = .ok (.invokestatic 132, 3) := by decide +kernel
theorem dX5_copy_6 : decode cX5_copy 6 = .ok (.ifCond .eq 12, 3) := by decide +kernel
theorem dX5_copy_9 : decode cX5_copy 9 = .ok (.iload_n 3, 1) := by decide +kernel
theorem dX5_copy_10 : decode cX5_copy 10 = .ok (.iconst 0, 1) := by decide +kernel
theorem dX5_copy_11 : decode cX5_copy 11 = .ok (.iconst 3, 1) := by decide +kernel
theorem dX5_copy_12 : decode cX5_copy 12 = .ok (.invokestatic 132, 3) := by decide +kernel
theorem dX5_copy_15 : decode cX5_copy 15 = .ok (.ifCond .ne 10, 3) := by decide +kernel
theorem dX5_copy_18 : decode cX5_copy 18 = .ok (.aload_n 0, 1) := by decide +kernel
theorem dX5_copy_19 : decode cX5_copy 19 = .ok (.ldc 58, 2) := by decide +kernel
theorem dX5_copy_21 : decode cX5_copy 21 = .ok (.invokevirtual 59, 3) := by decide +kernel
theorem dX5_copy_24 : decode cX5_copy 24 = .ok (.ireturn, 1) := by decide +kernel
theorem dX5_copy_25 : decode cX5_copy 25 = .ok (.aload_n 0, 1) := by decide +kernel
theorem dX5_copy_26 : decode cX5_copy 26 = .ok (.getfield 42, 3) := by decide +kernel
theorem dX5_copy_29 : decode cX5_copy 29 = .ok (.iload_n 1, 1) := by decide +kernel
theorem dX5_copy_30 : decode cX5_copy 30 = .ok (.aaload, 1) := by decide +kernel
theorem dX5_copy_31 : decode cX5_copy 31 = .ok (.astore 6, 2) := by decide +kernel
theorem dX5_copy_33 : decode cX5_copy 33 = .ok (.aload_n 0, 1) := by decide +kernel
theorem dX5_copy_34 : decode cX5_copy 34 = .ok (.getfield 42, 3) := by decide +kernel
theorem dX5_copy_37 : decode cX5_copy 37 = .ok (.iload_n 3, 1) := by decide +kernel
theorem dX5_copy_38 : decode cX5_copy 38 = .ok (.aaload, 1) := by decide +kernel
theorem dX5_copy_39 : decode cX5_copy 39 = .ok (.astore 7, 2) := by decide +kernel
theorem dX5_copy_41 : decode cX5_copy 41 = .ok (.aload 6, 2) := by decide +kernel
theorem dX5_copy_43 : decode cX5_copy 43 = .ok (.invokevirtual 277, 3) := by decide +kernel
theorem dX5_copy_46 : decode cX5_copy 46 = .ok (.ifCond .ne 11, 3) := by decide +kernel
theorem dX5_copy_49 : decode cX5_copy 49 = .ok (.aload 7, 2) := by decide +kernel
theorem dX5_copy_51 : decode cX5_copy 51 = .ok (.invokevirtual 277, 3) := by decide +kernel
theorem dX5_copy_54 : decode cX5_copy 54 = .ok (.ifCond .eq 11, 3) := by decide +kernel
theorem dX5_copy_57 : decode cX5_copy 57 = .ok (.aload_n 0, 1) := by decide +kernel
theorem dX5_copy_58 : decode cX5_copy 58 = .ok (.ldc_w 265, 3) := by decide +kernel
theorem dX5_copy_61 : decode cX5_copy 61 = .ok (.invokevirtual 59, 3) := by decide +kernel
theorem dX5_copy_64 : decode cX5_copy 64 = .ok (.ireturn, 1) := by decide +kernel
theorem dX5_copy_65 : decode cX5_copy 65 = .ok (.aload 6, 2) := by decide +kernel
theorem dX5_copy_67 : decode cX5_copy 67 = .ok (.getfield 281, 3) := by decide +kernel
theorem dX5_copy_70 : decode cX5_copy 70 = .ok (.aload 7, 2) := by decide +kernel
theorem dX5_copy_72 : decode cX5_copy 72 = .ok (.getfield 281, 3) := by decide +kernel
theorem dX5_copy_75 : decode cX5_copy 75 = .ok (.if_icmp .eq 11, 3) := by decide +kernel
theorem dX5_copy_78 : decode cX5_copy 78 = .ok (.aload_n 0, 1) := by decide +kernel
theorem dX5_copy_79 : decode cX5_copy 79 = .ok (.ldc_w 269, 3) := by decide +kernel
theorem dX5_copy_82 : decode cX5_copy 82 = .ok (.invokevirtual 59, 3) := by decide +kernel
theorem dX5_copy_85 : decode cX5_copy 85 = .ok (.ireturn, 1) := by decide +kernel
theorem dX5_copy_86 : decode cX5_copy 86 = .ok (.aload 6, 2) := by decide +kernel
theorem dX5_copy_88 : decode cX5_copy 88 = .ok (.iload_n 2, 1) := by decide +kernel
theorem dX5_copy_89 : decode cX5_copy 89 = .ok (.iload 5, 2) := by decide +kernel
theorem dX5_copy_91 : decode cX5_copy 91 = .ok (.invokevirtual 284, 3) := by decide +kernel
theorem dX5_copy_94 : decode cX5_copy 94 = .ok (.ifCond .eq 15, 3) := by decide +kernel
theorem dX5_copy_97 : decode cX5_copy 97 = .ok (.aload 7, 2) := by decide +kernel
theorem dX5_copy_99 : decode cX5_copy 99 = .ok (.iload 4, 2) := by decide +kernel
theorem dX5_copy_101 : decode cX5_copy 101 = .ok (.iload 5, 2) := by decide +kernel
theorem dX5_copy_103 : decode cX5_copy 103 = .ok (.invokevirtual 284, 3) := by decide +kernel
theorem dX5_copy_106 : decode cX5_copy 106 = .ok (.ifCond .ne 10, 3) := by decide +kernel
theorem dX5_copy_109 : decode cX5_copy 109 = .ok (.aload_n 0, 1) := by decide +kernel
theorem dX5_copy_110 : decode cX5_copy 110 = .ok (.ldc 58, 2) := by decide +kernel
theorem dX5_copy_112 : decode cX5_copy 112 = .ok (.invokevirtual 59, 3) := by decide +kernel
theorem dX5_copy_115 : decode cX5_copy 115 = .ok (.ireturn, 1) := by decide +kernel
theorem dX5_copy_116 : decode cX5_copy 116 = .ok (.aload 6, 2) := by decide +kernel
theorem dX5_copy_118 : decode cX5_copy 118 = .ok (.getfield 287, 3) := by decide +kernel
theorem dX5_copy_121 : decode cX5_copy 121 = .ok (.iload_n 2, 1) := by decide +kernel
theorem dX5_copy_122 : decode cX5_copy 122 = .ok (.aload 7, 2) := by decide +kernel
theorem dX5_copy_124 : decode cX5_copy 124 = .ok (.getfield 287, 3) := by decide +kernel
theorem dX5_copy_127 : decode cX5_copy 127 = .ok (.iload 4, 2) := by decide +kernel
theorem dX5_copy_129 : decode cX5_copy 129 = .ok (.iload 5, 2) := by decide +kernel
theorem dX5_copy_131 : decode cX5_copy 131 = .ok (.invokestatic 290, 3) := by decide +kernel
theorem dX5_copy_134 : decode cX5_copy 134 = .ok (.iload 5, 2) := by decide +kernel
theorem dX5_copy_136 : decode cX5_copy 136 = .ok (.ireturn, 1) := by decide +kernel
theorem dX5_load_0 : decode cX5_load 0 = .ok (.aload_n 0, 1) := by decide +kernel
theorem dX5_load_1 : decode cX5_load 1 = .ok (.iload_n 1, 1) := by decide +kernel
theorem dX5_load_2 : decode cX5_load 2 = .ok (.invokevirtual 231, 3) := by decide +kernel
theorem dX5_load_5 : decode cX5_load 5 = .ok (.istore_n 2, 1) := by decide +kernel
theorem dX5_load_6 : decode cX5_load 6 = .ok (.iload_n 2, 1) := by decide +kernel
theorem dX5_load_7 : decode cX5_load 7 = .ok (.ifCond .eq 9, 3) := by decide +kernel
theorem dX5_load_10 : decode cX5_load 10 = .ok (.aload_n 0, 1) := by decide +kernel
theorem dX5_load_11 : decode cX5_load 11 = .ok (.iload_n 2, 1) := by decide +kernel
theorem dX5_load_12 : decode cX5_load 12 = .ok (.invokevirtual 59, 3) := by decide +kernel
theorem dX5_load_15 : decode cX5_load 15 = .ok (.ireturn, 1) := by decide +kernel
theorem dX5_load_16 : decode cX5_load 16 = .ok (.aload_n 0, 1) := by decide +kernel
theorem dX5_load_17 : decode cX5_load 17 = .ok (.getfield 42, 3) := by decide +kernel
theorem dX5_load_20 : decode cX5_load 20 = .ok (.iload_n 1, 1) := by decide +kernel
theorem dX5_load_21 : decode cX5_load 21 = .ok (.aaload, 1) := by decide +kernel
theorem dX5_load_22 : decode cX5_load 22 = .ok (.getfield 274, 3) := by decide +kernel
theorem dX5_load_25 : decode cX5_load 25 = .ok (.aload_n 0, 1) := by decide +kernel
theorem dX5_load_26 : decode cX5_load 26 = .ok (.getfield 10, 3) := by decide +kernel
theorem dX5_load_29 : decode cX5_load 29 = .ok (.getfield 63, 3) := by decide +kernel
theorem dX5_load_32 : decode cX5_load 32 = .ok (.invokestatic 183, 3) := by decide +kernel
theorem dX5_load_35 : decode cX5_load 35 = .ok (.istore_n 3, 1) := by decide +kernel
theorem dX5_load_36 : decode cX5_load 36 = .ok (.iconst 0, 1) := by decide +kernel
theorem dX5_load_37 : decode cX5_load 37 = .ok (.istore 4, 2) := by decide +kernel
theorem dX5_load_39 : decode cX5_load 39 = .ok (.iload 4, 2) := by decide +kernel
theorem dX5_load_41 : decode cX5_load 41 = .ok (.iload_n 3, 1) := by decide +kernel
theorem dX5_load_42 : decode cX5_load 42 = .ok (.if_icmp .ge 51, 3) := by decide +kernel
theorem dX5_load_45 : decode cX5_load 45 = .ok (.aload_n 0, 1) := by decide +kernel
theorem dX5_load_46 : decode cX5_load 46 = .ok (.getfield 42, 3) := by decide +kernel
theorem dX5_load_49 : decode cX5_load 49 = .ok (.iload_n 1, 1) := by decide +kernel
theorem dX5_load_50 : decode cX5_load 50 = .ok (.aaload, 1) := by decide +kernel
theorem dX5_load_51 : decode cX5_load 51 = .ok (.getfield 287, 3) := by decide +kernel
theorem dX5_load_54 : decode cX5_load 54 = .ok (.iload 4, 2) := by decide +kernel
theorem dX5_load_56 : decode cX5_load 56 = .ok (.iaload, 1) := by decide +kernel
theorem dX5_load_57 : decode cX5_load 57 = .ok (.invokestatic 55, 3) := by decide +kernel
theorem dX5_load_60 : decode cX5_load 60 = .ok (.ifCond .ne 6, 3) := by decide +kernel
theorem dX5_load_63 : decode cX5_load 63 = .ok (.iload 4, 2) := by decide +kernel
theorem dX5_load_65 : decode cX5_load 65 = .ok (.ireturn, 1) := by decide +kernel
theorem dX5_load_66 : decode cX5_load 66 = .ok (.aload_n 0, 1) := by decide +kernel
theorem dX5_load_67 : decode cX5_load 67 = .ok (.getfield 10, 3) := by decide +kernel
theorem dX5_load_70 : decode cX5_load 70 = .ok (.iload 4, 2) := by decide +kernel
theorem dX5_load_72 : decode cX5_load 72 = .ok (.aload_n 0, 1) := by decide +kernel
theorem dX5_load_73 : decode cX5_load 73 = .ok (.getfield 42, 3) := by decide +kernel
theorem dX5_load_76 : decode cX5_load 76 = .ok (.iload_n 1, 1) := by decide +kernel
theorem dX5_load_77 : decode cX5_load 77 = .ok (.aaload, 1) := by decide +kernel
theorem dX5_load_78 : decode cX5_load 78 = .ok (.getfield 287, 3) := by decide +kernel
theorem dX5_load_81 : decode cX5_load 81 = .ok (.iload 4, 2) := by decide +kernel
theorem dX5_load_83 : decode cX5_load 83 = .ok (.iaload, 1) := by decide +kernel
theorem dX5_load_84 : decode cX5_load 84 = .ok (.invokevirtual 217, 3) := by decide +kernel
theorem dX5_load_87 : decode cX5_load 87 = .ok (.iinc 4 1, 3) := by decide +kernel
theorem dX5_load_90 : decode cX5_load 90 = .ok (.goto (-51), 3) := by decide +kernel
theorem dX5_load_93 : decode cX5_load 93 = .ok (.iload_n 3, 1) := by decide +kernel
theorem dX5_load_94 : decode cX5_load 94 = .ok (.ireturn, 1) := by decide +kernel
theorem dX5_judge_0 : decode cX5_judge 0 = .ok (.aload_n 0, 1) := by decide +kernel
theorem dX5_judge_1 : decode cX5_judge 1 = .ok (.iload_n 1, 1) := by decide +kernel
theorem dX5_judge_2 : decode cX5_judge 2 = .ok (.invokevirtual 231, 3) := by decide +kernel
theorem dX5_judge_5 : decode cX5_judge 5 = .ok (.istore_n 2, 1) := by decide +kernel
theorem dX5_judge_6 : decode cX5_judge 6 = .ok (.iload_n 2, 1) := by decide +kernel
theorem dX5_judge_7 : decode cX5_judge 7 = .ok (.ifCond .eq 9, 3) := by decide +kernel
theorem dX5_judge_10 : decode cX5_judge 10 = .ok (.aload_n 0, 1) := by decide +kernel
theorem dX5_judge_11 : decode cX5_judge 11 = .ok (.iload_n 2, 1) := by decide +kernel
theorem dX5_judge_12 : decode cX5_judge 12 = .ok (.invokevirtual 59, 3) := by decide +kernel
theorem dX5_judge_15 : decode cX5_judge 15 = .ok (.ireturn, 1) := by decide +kernel
theorem dX5_judge_16 : decode cX5_judge 16 = .ok (.aload_n 0, 1) := by decide +kernel
theorem dX5_judge_17 : decode cX5_judge 17 = .ok (.getfield 10, 3) := by decide +kernel
theorem dX5_judge_20 : decode cX5_judge 20 = .ok (.getfield 123, 3) := by decide +kernel
theorem dX5_judge_23 : decode cX5_judge 23 = .ok (.ifCond .ne 10, 3) := by decide +kernel
theorem dX5_judge_26 : decode cX5_judge 26 = .ok (.aload_n 0, 1) := by decide +kernel
theorem dX5_judge_27 : decode cX5_judge 27 = .ok (.ldc 166, 2) := by decide +kernel
theorem dX5_judge_29 : decode cX5_judge 29 = .ok (.invokevirtual 59, 3) := by decide +kernel
theorem dX5_judge_32 : decode cX5_judge 32 = .ok (.ireturn, 1) := by decide +kernel
theorem dX5_judge_33 : decode cX5_judge 33 = .ok (.aload_n 0, 1) := by decide +kernel
theorem dX5_judge_34 : decode cX5_judge 34 = .ok (.getfield 29, 3) := by decide +kernel
theorem dX5_judge_37 : decode cX5_judge 37 = .ok (.aload_n 0, 1) := by decide +kernel
theorem dX5_judge_38 : decode cX5_judge 38 = .ok (.getfield 10, 3) := by decide +kernel
theorem dX5_judge_41 : decode cX5_judge 41 = .ok (.iconst 0, 1) := by decide +kernel
theorem dX5_judge_42 : decode cX5_judge 42 = .ok (.invokevirtual 195, 3) := by decide +kernel
theorem dX5_judge_45 : decode cX5_judge 45 = .ok (.istore_n 3, 1) := by decide +kernel
theorem dX5_judge_46 : decode cX5_judge 46 = .ok (.iconst 0, 1) := by decide +kernel
theorem dX5_judge_47 : decode cX5_judge 47 = .ok (.istore 4, 2) := by decide +kernel
theorem dX5_judge_49 : decode cX5_judge 49 = .ok (.iconst 0, 1) := by decide +kernel
theorem dX5_judge_50 : decode cX5_judge 50 = .ok (.istore 5, 2) := by decide +kernel
theorem dX5_judge_52 : decode cX5_judge 52 = .ok (.iload 5, 2) := by decide +kernel
theorem dX5_judge_54 : decode cX5_judge 54 = .ok (.aload_n 0, 1) := by decide +kernel
theorem dX5_judge_55 : decode cX5_judge 55 = .ok (.getfield 42, 3) := by decide +kernel
theorem dX5_judge_58 : decode cX5_judge 58 = .ok (.iload_n 1, 1) := by decide +kernel
theorem dX5_judge_59 : decode cX5_judge 59 = .ok (.aaload, 1) := by decide +kernel
theorem dX5_judge_60 : decode cX5_judge 60 = .ok (.getfield 274, 3) := by decide +kernel
theorem dX5_judge_63 : decode cX5_judge 63 = .ok (.if_icmp .ge 82, 3) := by decide +kernel
theorem dX5_judge_66 : decode cX5_judge 66 = .ok (.aload_n 0, 1) := by decide +kernel
theorem dX5_judge_67 : decode cX5_judge 67 = .ok (.getfield 42, 3) := by decide +kernel
theorem dX5_judge_70 : decode cX5_judge 70 = .ok (.iload_n 1, 1) := by decide +kernel
theorem dX5_judge_71 : decode cX5_judge 71 = .ok (.aaload, 1) := by decide +kernel
theorem dX5_judge_72 : decode cX5_judge 72 = .ok (.getfield 287, 3) := by decide +kernel
theorem dX5_judge_75 : decode cX5_judge 75 = .ok (.iload 5, 2) := by decide +kernel
theorem dX5_judge_77 : decode cX5_judge 77 = .ok (.iaload, 1) := by decide +kernel
theorem dX5_judge_78 : decode cX5_judge 78 = .ok (.istore 6, 2) := by decide +kernel
theorem dX5_judge_80 : decode cX5_judge 80 = .ok (.aload_n 0, 1) := by decide +kernel
theorem dX5_judge_81 : decode cX5_judge 81 = .ok (.iload 6, 2) := by decide +kernel
theorem dX5_judge_83 : decode cX5_judge 83 = .ok (.invokevirtual 72, 3) := by decide +kernel
theorem dX5_judge_86 : decode cX5_judge 86 = .ok (.ifCond .eq 27, 3) := by decide +kernel
theorem dX5_judge_89 : decode cX5_judge 89 = .ok (.iload_n 3, 1) := by decide +kernel
theorem dX5_judge_90 : decode cX5_judge 90 = .ok (.iload 6, 2) := by decide +kernel
theorem dX5_judge_92 : decode cX5_judge 92 = .ok (.invokestatic 296, 3) := by decide +kernel
theorem dX5_judge_95 : decode cX5_judge 95 = .ok (.ifCond .eq 18, 3) := by decide +kernel
theorem dX5_judge_98 : decode cX5_judge 98 = .ok (.aload_n 0, 1) := by decide +kernel
theorem dX5_judge_99 : decode cX5_judge 99 = .ok (.getfield 29, 3) := by decide +kernel
theorem dX5_judge_102 : decode cX5_judge 102 = .ok (.getfield 299, 3) := by decide +kernel
theorem dX5_judge_105 : decode cX5_judge 105 = .ok (.iload 6, 2) := by decide +kernel
theorem dX5_judge_107 : decode cX5_judge 107 = .ok (.iaload, 1) := by decide +kernel
theorem dX5_judge_108 : decode cX5_judge 108 = .ok (.iload 4, 2) := by decide +kernel
theorem dX5_judge_110 : decode cX5_judge 110 = .ok (.if_icmp .ge 8, 3) := by decide +kernel
theorem dX5_judge_113 : decode cX5_judge 113 = .ok (.iconst 1, 1) := by decide +kernel
theorem dX5_judge_114 : decode cX5_judge 114 = .ok (.iload 5, 2) := by decide +kernel
theorem dX5_judge_116 : decode cX5_judge 116 = .ok (.iadd, 1) := by decide +kernel
theorem dX5_judge_117 : decode cX5_judge 117 = .ok (.ireturn, 1) := by decide +kernel
theorem dX5_judge_118 : decode cX5_judge 118 = .ok (.iload_n 3, 1) := by decide +kernel
theorem dX5_judge_119 : decode cX5_judge 119 = .ok (.iconst 1, 1) := by decide +kernel
theorem dX5_judge_120 : decode cX5_judge 120 = .ok (.iload 6, 2) := by decide +kernel
theorem dX5_judge_122 : decode cX5_judge 122 = .ok (.ishl, 1) := by decide +kernel
theorem dX5_judge_123 : decode cX5_judge 123 = .ok (.iconst (-1), 1) := by decide +kernel
theorem dX5_judge_124 : decode cX5_judge 124 = .ok (.ixor, 1) := by decide +kernel
theorem dX5_judge_125 : decode cX5_judge 125 = .ok (.iand, 1) := by decide +kernel
theorem dX5_judge_126 : decode cX5_judge 126 = .ok (.istore_n 3, 1) := by decide +kernel
theorem dX5_judge_127 : decode cX5_judge 127 = .ok (.aload_n 0, 1) := by decide +kernel
theorem dX5_judge_128 : decode cX5_judge 128 = .ok (.getfield 29, 3) := by decide +kernel
theorem dX5_judge_131 : decode cX5_judge 131 = .ok (.getfield 299, 3) := by decide +kernel
theorem dX5_judge_134 : decode cX5_judge 134 = .ok (.iload 6, 2) := by decide +kernel
theorem dX5_judge_136 : decode cX5_judge 136 = .ok (.iaload, 1) := by decide +kernel
theorem dX5_judge_137 : decode cX5_judge 137 = .ok (.istore 4, 2) := by decide +kernel
theorem dX5_judge_139 : decode cX5_judge 139 = .ok (.iinc 5 1, 3) := by decide +kernel
theorem dX5_judge_142 : decode cX5_judge 142 = .ok (.goto (-90), 3) := by decide +kernel
theorem dX5_judge_145 : decode cX5_judge 145 = .ok (.iconst 0, 1) := by decide +kernel
theorem dX5_judge_146 : decode cX5_judge 146 = .ok (.ireturn, 1) := by decide +kernel
theorem dX5_image_0 : decode cX5_image 0 = .ok (.aload_n 0, 1) := by decide +kernel
theorem dX5_image_1 : decode cX5_image 1 = .ok (.getfield 19, 3) := by decide +kernel
theorem dX5_image_4 : decode cX5_image 4 = .ok (.aload_n 0, 1) := by decide +kernel
theorem dX5_image_5 : decode cX5_image 5 = .ok (.getfield 10, 3) := by decide +kernel
theorem dX5_image_8 : decode cX5_image 8 = .ok (.invokevirtual 201, 3) := by decide +kernel
theorem dX5_image_11 : decode cX5_image 11 = .ok (.aload_n 0, 1) := by decide +kernel
theorem dX5_image_12 : decode cX5_image 12 = .ok (.iconst 1, 1) := by decide +kernel
theorem dX5_image_13 : decode cX5_image 13 = .ok (.putfield 22, 3) := by decide +kernel
theorem dX5_image_16 : decode cX5_image 16 = .ok (.iconst 1, 1) := by decide +kernel
theorem dX5_image_17 : decode cX5_image 17 = .ok (.ireturn, 1) := by decide +kernel
theorem dX5_undo_0 : decode cX5_undo 0 = .ok (.aload_n 0, 1) := by decide +kernel
theorem dX5_undo_1 : decode cX5_undo 1 = .ok (.getfield 22, 3) := by decide +kernel
theorem dX5_undo_4 : decode cX5_undo 4 = .ok (.ifCond .ne 10, 3) := by decide +kernel
theorem dX5_undo_7 : decode cX5_undo 7 = .ok (.aload_n 0, 1) := by decide +kernel
theorem dX5_undo_8 : decode cX5_undo 8 = .ok (.ldc 182, 2) := by decide +kernel
theorem dX5_undo_10 : decode cX5_undo 10 = .ok (.invokevirtual 59, 3) := by decide +kernel
theorem dX5_undo_13 : decode cX5_undo 13 = .ok (.ireturn, 1) := by decide +kernel
theorem dX5_undo_14 : decode cX5_undo 14 = .ok (.aload_n 0, 1) := by decide +kernel
theorem dX5_undo_15 : decode cX5_undo 15 = .ok (.getfield 10, 3) := by decide +kernel
theorem dX5_undo_18 : decode cX5_undo 18 = .ok (.aload_n 0, 1) := by decide +kernel
theorem dX5_undo_19 : decode cX5_undo 19 = .ok (.getfield 19, 3) := by decide +kernel
theorem dX5_undo_22 : decode cX5_undo 22 = .ok (.invokevirtual 201, 3) := by decide +kernel
theorem dX5_undo_25 : decode cX5_undo 25 = .ok (.aload_n 0, 1) := by decide +kernel
theorem dX5_undo_26 : decode cX5_undo 26 = .ok (.getfield 10, 3) := by decide +kernel
theorem dX5_undo_29 : decode cX5_undo 29 = .ok (.getfield 162, 3) := by decide +kernel
theorem dX5_undo_32 : decode cX5_undo 32 = .ok (.ireturn, 1) := by decide +kernel
theorem dX5_tear_0 : decode cX5_tear 0 = .ok (.aload_n 0, 1) := by decide +kernel
theorem dX5_tear_1 : decode cX5_tear 1 = .ok (.getfield 22, 3) := by decide +kernel
theorem dX5_tear_4 : decode cX5_tear 4 = .ok (.ifCond .eq 7, 3) := by decide +kernel
theorem dX5_tear_7 : decode cX5_tear 7 = .ok (.iconst 1, 1) := by decide +kernel
theorem dX5_tear_8 : decode cX5_tear 8 = .ok (.goto 4, 3) := by decide +kernel
theorem dX5_tear_11 : decode cX5_tear 11 = .ok (.iconst 0, 1) := by decide +kernel
theorem dX5_tear_12 : decode cX5_tear 12 = .ok (.istore_n 1, 1) := by decide +kernel
theorem dX5_tear_13 : decode cX5_tear 13 = .ok (.aload_n 0, 1) := by decide +kernel
theorem dX5_tear_14 : decode cX5_tear 14 = .ok (.iconst 0, 1) := by decide +kernel
theorem dX5_tear_15 : decode cX5_tear 15 = .ok (.putfield 22, 3) := by decide +kernel
theorem dX5_tear_18 : decode cX5_tear 18 = .ok (.iload_n 1, 1) := by decide +kernel
theorem dX5_tear_19 : decode cX5_tear 19 = .ok (.ireturn, 1) := by decide +kernel
theorem dX5_count_0 : decode cX5_count 0 = .ok (.iload_n 1, 1) := by decide +kernel
theorem dX5_count_1 : decode cX5_count 1 = .ok (.tableswitch 118 0 7 #[47, 55, 63, 71, 79, 94, 102, 110], 47) := by decide +kernel
theorem dX5_count_48 : decode cX5_count 48 = .ok (.aload_n 0, 1) := by decide +kernel
theorem dX5_count_49 : decode cX5_count 49 = .ok (.getfield 10, 3) := by decide +kernel
theorem dX5_count_52 : decode cX5_count 52 = .ok (.getfield 162, 3) := by decide +kernel
theorem dX5_count_55 : decode cX5_count 55 = .ok (.ireturn, 1) := by decide +kernel
theorem dX5_count_56 : decode cX5_count 56 = .ok (.aload_n 0, 1) := by decide +kernel
theorem dX5_count_57 : decode cX5_count 57 = .ok (.getfield 10, 3) := by decide +kernel
theorem dX5_count_60 : decode cX5_count 60 = .ok (.getfield 63, 3) := by decide +kernel
theorem dX5_count_63 : decode cX5_count 63 = .ok (.ireturn, 1) := by decide +kernel
theorem dX5_count_64 : decode cX5_count 64 = .ok (.aload_n 0, 1) := by decide +kernel
theorem dX5_count_65 : decode cX5_count 65 = .ok (.getfield 10, 3) := by decide +kernel
theorem dX5_count_68 : decode cX5_count 68 = .ok (.getfield 123, 3) := by decide +kernel
theorem dX5_count_71 : decode cX5_count 71 = .ok (.ireturn, 1) := by decide +kernel
theorem dX5_count_72 : decode cX5_count 72 = .ok (.aload_n 0, 1) := by decide +kernel
theorem dX5_count_73 : decode cX5_count 73 = .ok (.getfield 10, 3) := by decide +kernel
theorem dX5_count_76 : decode cX5_count 76 = .ok (.getfield 175, 3) := by decide +kernel
theorem dX5_count_79 : decode cX5_count 79 = .ok (.ireturn, 1) := by decide +kernel
theorem dX5_count_80 : decode cX5_count 80 = .ok (.aload_n 0, 1) := by decide +kernel
theorem dX5_count_81 : decode cX5_count 81 = .ok (.getfield 10, 3) := by decide +kernel
theorem dX5_count_84 : decode cX5_count 84 = .ok (.aload_n 0, 1) := by decide +kernel
theorem dX5_count_85 : decode cX5_count 85 = .ok (.getfield 10, 3) := by decide +kernel
theorem dX5_count_88 : decode cX5_count 88 = .ok (.getfield 87, 3) := by decide +kernel
theorem dX5_count_91 : decode cX5_count 91 = .ok (.invokevirtual 178, 3) := by decide +kernel
theorem dX5_count_94 : decode cX5_count 94 = .ok (.ireturn, 1) := by decide +kernel
theorem dX5_count_95 : decode cX5_count 95 = .ok (.aload_n 0, 1) := by decide +kernel
theorem dX5_count_96 : decode cX5_count 96 = .ok (.getfield 36, 3) := by decide +kernel
theorem dX5_count_99 : decode cX5_count 99 = .ok (.getfield 251, 3) := by decide +kernel
theorem dX5_count_102 : decode cX5_count 102 = .ok (.ireturn, 1) := by decide +kernel
theorem dX5_count_103 : decode cX5_count 103 = .ok (.aload_n 0, 1) := by decide +kernel
theorem dX5_count_104 : decode cX5_count 104 = .ok (.getfield 10, 3) := by decide +kernel
theorem dX5_count_107 : decode cX5_count 107 = .ok (.getfield 248, 3) := by decide +kernel
theorem dX5_count_110 : decode cX5_count 110 = .ok (.ireturn, 1) := by decide +kernel
theorem dX5_count_111 : decode cX5_count 111 = .ok (.aload_n 0, 1) := by decide +kernel
theorem dX5_count_112 : decode cX5_count 112 = .ok (.getfield 10, 3) := by decide +kernel
theorem dX5_count_115 : decode cX5_count 115 = .ok (.invokevirtual 302, 3) := by decide +kernel
theorem dX5_count_118 : decode cX5_count 118 = .ok (.ireturn, 1) := by decide +kernel
theorem dX5_count_119 : decode cX5_count 119 = .ok (.aload_n 0, 1) := by decide +kernel
theorem dX5_count_120 : decode cX5_count 120 = .ok (.ldc 58, 2) := by decide +kernel
theorem dX5_count_122 : decode cX5_count 122 = .ok (.invokevirtual 59, 3) := by decide +kernel
theorem dX5_count_125 : decode cX5_count 125 = .ok (.ireturn, 1) := by decide +kernel
theorem dX5_status_0 : decode cX5_status 0 = .ok (.iload_n 1, 1) := by decide +kernel
theorem dX5_status_1 : decode cX5_status 1 = .ok (.iconst (-1), 1) := by decide +kernel
theorem dX5_status_2 : decode cX5_status 2 = .ok (.bipush 6, 2) := by decide +kernel
theorem dX5_status_4 : decode cX5_status 4 = .ok (.invokestatic 132, 3) := by decide +kernel
theorem dX5_status_7 : decode cX5_status 7 = .ok (.ifCond .ne 10, 3) := by decide +kernel
theorem dX5_status_10 : decode cX5_status 10 = .ok (.aload_n 0, 1) := by decide +kernel
theorem dX5_status_11 : decode cX5_status 11 = .ok (.ldc 58, 2) := by decide +kernel
theorem dX5_status_13 : decode cX5_status 13 = .ok (.invokevirtual 59, 3) := by decide +kernel
theorem dX5_status_16 : decode cX5_status 16 = .ok (.ireturn, 1) := by decide +kernel
theorem dX5_status_17 : decode cX5_status 17 = .ok (.iload_n 1, 1) := by decide +kernel
theorem dX5_status_18 : decode cX5_status 18 = .ok (.ifCond .lt 10, 3) := by decide +kernel
theorem dX5_status_21 : decode cX5_status 21 = .ok (.aload_n 0, 1) := by decide +kernel
theorem dX5_status_22 : decode cX5_status 22 = .ok (.getfield 47, 3) := by decide +kernel
theorem dX5_status_25 : decode cX5_status 25 = .ok (.iload_n 1, 1) := by decide +kernel
theorem dX5_status_26 : decode cX5_status 26 = .ok (.iaload, 1) := by decide +kernel
theorem dX5_status_27 : decode cX5_status 27 = .ok (.ireturn, 1) := by decide +kernel
theorem dX5_status_28 : decode cX5_status 28 = .ok (.iconst 0, 1) := by decide +kernel
theorem dX5_status_29 : decode cX5_status 29 = .ok (.istore_n 2, 1) := by decide +kernel
theorem dX5_status_30 : decode cX5_status 30 = .ok (.iconst 0, 1) := by decide +kernel
theorem dX5_status_31 : decode cX5_status 31 = .ok (.istore_n 3, 1) := by decide +kernel
theorem dX5_status_32 : decode cX5_status 32 = .ok (.iload_n 3, 1) := by decide +kernel
theorem dX5_status_33 : decode cX5_status 33 = .ok (.bipush 7, 2) := by decide +kernel
theorem dX5_status_35 : decode cX5_status 35 = .ok (.if_icmp .ge 18, 3) := by decide +kernel
theorem dX5_status_38 : decode cX5_status 38 = .ok (.iload_n 2, 1) := by decide +kernel
theorem dX5_status_39 : decode cX5_status 39 = .ok (.aload_n 0, 1) := by decide +kernel
theorem dX5_status_40 : decode cX5_status 40 = .ok (.getfield 47, 3) := by decide +kernel
theorem dX5_status_43 : decode cX5_status 43 = .ok (.iload_n 3, 1) := by decide +kernel
theorem dX5_status_44 : decode cX5_status 44 = .ok (.iaload, 1) := by decide +kernel
theorem dX5_status_45 : decode cX5_status 45 = .ok (.iadd, 1) := by decide +kernel
theorem dX5_status_46 : decode cX5_status 46 = .ok (.istore_n 2, 1) := by decide +kernel
theorem dX5_status_47 : decode cX5_status 47 = .ok (.iinc 3 1, 3) := by decide +kernel
theorem dX5_status_50 : decode cX5_status 50 = .ok (.goto (-18), 3) := by decide +kernel
theorem dX5_status_53 : decode cX5_status 53 = .ok (.iload_n 2, 1) := by decide +kernel
theorem dX5_status_54 : decode cX5_status 54 = .ok (.ireturn, 1) := by decide +kernel
theorem dX5_found_0 : decode cX5_found 0 = .ok (.ldc 58, 2) := by decide +kernel
theorem dX5_found_2 : decode cX5_found 2 = .ok (.iload_n 1, 1) := by decide +kernel
theorem dX5_found_3 : decode cX5_found 3 = .ok (.isub, 1) := by decide +kernel
theorem dX5_found_4 : decode cX5_found 4 = .ok (.istore_n 2, 1) := by decide +kernel
theorem dX5_found_5 : decode cX5_found 5 = .ok (.iload_n 2, 1) := by decide +kernel
theorem dX5_found_6 : decode cX5_found 6 = .ok (.iconst 0, 1) := by decide +kernel
theorem dX5_found_7 : decode cX5_found 7 = .ok (.bipush 6, 2) := by decide +kernel
theorem dX5_found_9 : decode cX5_found 9 = .ok (.invokestatic 132, 3) := by decide +kernel
theorem dX5_found_12 : decode cX5_found 12 = .ok (.ifCond .eq 13, 3) := by decide +kernel
theorem dX5_found_15 : decode cX5_found 15 = .ok (.aload_n 0, 1) := by decide +kernel
theorem dX5_found_16 : decode cX5_found 16 = .ok (.getfield 47, 3) := by decide +kernel
theorem dX5_found_19 : decode cX5_found 19 = .ok (.iload_n 2, 1) := by decide +kernel
theorem dX5_found_20 : decode cX5_found 20 = .ok (.dup2, 1) := by decide +kernel
theorem dX5_found_21 : decode cX5_found 21 = .ok (.iaload, 1) := by decide +kernel
theorem dX5_found_22 : decode cX5_found 22 = .ok (.iconst 1, 1) := by decide +kernel
theorem dX5_found_23 : decode cX5_found 23 = .ok (.iadd, 1) := by decide +kernel
theorem dX5_found_24 : decode cX5_found 24 = .ok (.iastore, 1) := by decide +kernel
theorem dX5_found_25 : decode cX5_found 25 = .ok (.iload_n 1, 1) := by decide +kernel
theorem dX5_found_26 : decode cX5_found 26 = .ok (.ireturn, 1) := by decide +kernel
theorem dX5_within_0 : decode cX5_within 0 = .ok (.iload_n 0, 1) := by decide +kernel
theorem dX5_within_1 : decode cX5_within 1 = .ok (.iload_n 1, 1) := by decide +kernel
theorem dX5_within_2 : decode cX5_within 2 = .ok (.if_icmp .lt 12, 3) := by decide +kernel
theorem dX5_within_5 : decode cX5_within 5 = .ok (.iload_n 0, 1) := by decide +kernel
theorem dX5_within_6 : decode cX5_within 6 = .ok (.iload_n 2, 1) := by decide +kernel
theorem dX5_within_7 : decode cX5_within 7 = .ok (.if_icmp .gt 7, 3) := by decide +kernel
theorem dX5_within_10 : decode cX5_within 10 = .ok (.iconst 1, 1) := by decide +kernel
theorem dX5_within_11 : decode cX5_within 11 = .ok (.goto 4, 3) := by decide +kernel
theorem dX5_within_14 : decode cX5_within 14 = .ok (.iconst 0, 1) := by decide +kernel
theorem dX5_within_15 : decode cX5_within 15 = .ok (.ireturn, 1) := by decide +kernel
theorem dX5_isIn_0 : decode cX5_isIn 0 = .ok (.iload_n 0, 1) := by decide +kernel
theorem dX5_isIn_1 : decode cX5_isIn 1 = .ok (.iload_n 1, 1) := by decide +kernel
theorem dX5_isIn_2 : decode cX5_isIn 2 = .ok (.ishr, 1) := by decide +kernel
theorem dX5_isIn_3 : decode cX5_isIn 3 = .ok (.iconst 1, 1) := by decide +kernel
theorem dX5_isIn_4 : decode cX5_isIn 4 = .ok (.iand, 1) := by decide +kernel
theorem dX5_isIn_5 : decode cX5_isIn 5 = .ok (.iconst 1, 1) := by decide +kernel
theorem dX5_isIn_6 : decode cX5_isIn 6 = .ok (.if_icmp .ne 7, 3) := by decide +kernel
theorem dX5_isIn_9 : decode cX5_isIn 9 = .ok (.iconst 1, 1) := by decide +kernel
theorem dX5_isIn_10 : decode cX5_isIn 10 = .ok (.goto 4, 3) := by decide +kernel
theorem dX5_isIn_13 : decode cX5_isIn 13 = .ok (.iconst 0, 1) := by decide +kernel
theorem dX5_isIn_14 : decode cX5_isIn 14 = .ok (.ireturn, 1) := by decide +kernel
theorem dX5_isSmaller_0 : decode cX5_isSmaller 0 = .ok (.iload_n 0, 1) := by decide +kernel
theorem dX5_isSmaller_1 : decode cX5_isSmaller 1 = .ok (.invokestatic 101, 3) := by decide +kernel
theorem dX5_isSmaller_4 : decode cX5_isSmaller 4 = .ok (.iload_n 1, 1) := by decide +kernel
theorem dX5_isSmaller_5 : decode cX5_isSmaller 5 = .ok (.invokestatic 101, 3) := by decide +kernel
theorem dX5_isSmaller_8 : decode cX5_isSmaller 8 = .ok (.if_icmp .ge 7, 3) := by decide +kernel
theorem dX5_isSmaller_11 : decode cX5_isSmaller 11 = .ok (.iconst 1, 1) := by decide +kernel
theorem dX5_isSmaller_12 : decode cX5_isSmaller 12 = .ok (.goto 4, 3) := by decide +kernel
theorem dX5_isSmaller_15 : decode cX5_isSmaller 15 = .ok (.iconst 0, 1) := by decide +kernel
theorem dX5_isSmaller_16 : decode cX5_isSmaller 16 = .ok (.ireturn, 1) := by decide +kernel
theorem dX5_isKind_0 : decode cX5_isKind 0 = .ok (.iload_n 0, 1) := by decide +kernel
theorem dX5_isKind_1 : decode cX5_isKind 1 = .ok (.iconst 0, 1) := by decide +kernel
theorem dX5_isKind_2 : decode cX5_isKind 2 = .ok (.bipush 6, 2) := by decide +kernel
theorem dX5_isKind_4 : decode cX5_isKind 4 = .ok (.invokestatic 132, 3) := by decide +kernel
theorem dX5_isKind_7 : decode cX5_isKind 7 = .ok (.ireturn, 1) := by decide +kernel
theorem dX5_isSeat_0 : decode cX5_isSeat 0 = .ok (.iload_n 0, 1) := by decide +kernel
theorem dX5_isSeat_1 : decode cX5_isSeat 1 = .ok (.iconst 0, 1) := by decide +kernel
theorem dX5_isSeat_2 : decode cX5_isSeat 2 = .ok (.bipush 15, 2) := by decide +kernel
theorem dX5_isSeat_4 : decode cX5_isSeat 4 = .ok (.invokestatic 132, 3) := by decide +kernel
theorem dX5_isSeat_7 : decode cX5_isSeat 7 = .ok (.ireturn, 1) := by decide +kernel
theorem dX5_isTopics_0 : decode cX5_isTopics 0 = .ok (.iload_n 0, 1) := by decide +kernel
theorem dX5_isTopics_1 : decode cX5_isTopics 1 = .ok (.iconst 1, 1) := by decide +kernel
theorem dX5_isTopics_2 : decode cX5_isTopics 2 = .ok (.bipush 63, 2) := by decide +kernel
theorem dX5_isTopics_4 : decode cX5_isTopics 4 = .ok (.invokestatic 132, 3) := by decide +kernel
theorem dX5_isTopics_7 : decode cX5_isTopics 7 = .ok (.ireturn, 1) := by decide +kernel
theorem dX5_isFun_0 : decode cX5_isFun 0 = .ok (.iload_n 0, 1) := by decide +kernel
theorem dX5_isFun_1 : decode cX5_isFun 1 = .ok (.iconst 0, 1) := by decide +kernel
theorem dX5_isFun_2 : decode cX5_isFun 2 = .ok (.bipush 9, 2) := by decide +kernel
theorem dX5_isFun_4 : decode cX5_isFun 4 = .ok (.invokestatic 132, 3) := by decide +kernel
theorem dX5_isFun_7 : decode cX5_isFun 7 = .ok (.ireturn, 1) := by decide +kernel
theorem dX5_hasPerson_0 : decode cX5_hasPerson 0 = .ok (.iload_n 1, 1) := by decide +kernel
theorem dX5_hasPerson_1 : decode cX5_hasPerson 1 = .ok (.iconst 0, 1) := by decide +kernel
theorem dX5_hasPerson_2 : decode cX5_hasPerson 2 = .ok (.aload_n 0, 1) := by decide +kernel
theorem dX5_hasPerson_3 : decode cX5_hasPerson 3 = .ok (.getfield 10, 3) := by decide +kernel
theorem dX5_hasPerson_6 : decode cX5_hasPerson 6 = .ok (.getfield 63, 3) := by decide +kernel
theorem dX5_hasPerson_9 : decode cX5_hasPerson 9 = .ok (.iconst 1, 1) := by decide +kernel
theorem dX5_hasPerson_10 : decode cX5_hasPerson 10 = .ok (.isub, 1) := by decide +kernel
theorem dX5_hasPerson_11 : decode cX5_hasPerson 11 = .ok (.invokestatic 132, 3) := by decide +kernel
theorem dX5_hasPerson_14 : decode cX5_hasPerson 14 = .ok (.ireturn, 1) := by decide +kernel
theorem dX5_hasJoke_0 : decode cX5_hasJoke 0 = .ok (.iload_n 1, 1) := by decide +kernel
theorem dX5_hasJoke_1 : decode cX5_hasJoke 1 = .ok (.iconst 0, 1) := by decide +kernel
theorem dX5_hasJoke_2 : decode cX5_hasJoke 2 = .ok (.aload_n 0, 1) := by decide +kernel
theorem dX5_hasJoke_3 : decode cX5_hasJoke 3 = .ok (.getfield 10, 3) := by decide +kernel
theorem dX5_hasJoke_6 : decode cX5_hasJoke 6 = .ok (.getfield 123, 3) := by decide +kernel
theorem dX5_hasJoke_9 : decode cX5_hasJoke 9 = .ok (.iconst 1, 1) := by decide +kernel
theorem dX5_hasJoke_10 : decode cX5_hasJoke 10 = .ok (.isub, 1) := by decide +kernel
theorem dX5_hasJoke_11 : decode cX5_hasJoke 11 = .ok (.invokestatic 132, 3) := by decide +kernel
theorem dX5_hasJoke_14 : decode cX5_hasJoke 14 = .ok (.ireturn, 1) := by decide +kernel
theorem dX5_canBecome_0 : decode cX5_canBecome 0 = .ok (.iload_n 0, 1) := by decide +kernel
theorem dX5_canBecome_1 : decode cX5_canBecome 1 = .ok (.tableswitch 70 0 4 #[35, 40, 45, 53, 61], 35) := by decide +kernel
theorem dX5_canBecome_36 : decode cX5_canBecome 36 = .ok (.iload_n 1, 1) := by decide +kernel
theorem dX5_canBecome_37 : decode cX5_canBecome 37 = .ok (.invokestatic 51, 3) := by decide +kernel
theorem dX5_canBecome_40 : decode cX5_canBecome 40 = .ok (.ireturn, 1) := by decide +kernel
theorem dX5_canBecome_41 : decode cX5_canBecome 41 = .ok (.iload_n 1, 1) := by decide +kernel
theorem dX5_canBecome_42 : decode cX5_canBecome 42 = .ok (.invokestatic 55, 3) := by decide +kernel
theorem dX5_canBecome_45 : decode cX5_canBecome 45 = .ok (.ireturn, 1) := by decide +kernel
theorem dX5_canBecome_46 : decode cX5_canBecome 46 = .ok (.iload_n 1, 1) := by decide +kernel
theorem dX5_canBecome_47 : decode cX5_canBecome 47 = .ok (.iconst 0, 1) := by decide +kernel
theorem dX5_canBecome_48 : decode cX5_canBecome 48 = .ok (.bipush 63, 2) := by decide +kernel
theorem dX5_canBecome_50 : decode cX5_canBecome 50 = .ok (.invokestatic 132, 3) := by decide +kernel
theorem dX5_canBecome_53 : decode cX5_canBecome 53 = .ok (.ireturn, 1) := by decide +kernel
theorem dX5_canBecome_54 : decode cX5_canBecome 54 = .ok (.iload_n 1, 1) := by decide +kernel
theorem dX5_canBecome_55 : decode cX5_canBecome 55 = .ok (.iconst 0, 1) := by decide +kernel
theorem dX5_canBecome_56 : decode cX5_canBecome 56 = .ok (.bipush 9, 2) := by decide +kernel
theorem dX5_canBecome_58 : decode cX5_canBecome 58 = .ok (.invokestatic 132, 3) := by decide +kernel
theorem dX5_canBecome_61 : decode cX5_canBecome 61 = .ok (.ireturn, 1) := by decide +kernel
theorem dX5_canBecome_62 : decode cX5_canBecome 62 = .ok (.iload_n 1, 1) := by decide +kernel
theorem dX5_canBecome_63 : decode cX5_canBecome 63 = .ok (.iconst 0, 1) := by decide +kernel
theorem dX5_canBecome_64 : decode cX5_canBecome 64 = .ok (.sipush 9999, 3) := by decide +kernel
theorem dX5_canBecome_67 : decode cX5_canBecome 67 = .ok (.invokestatic 132, 3) := by decide +kernel
theorem dX5_canBecome_70 : decode cX5_canBecome 70 = .ok (.ireturn, 1) := by decide +kernel
theorem dX5_canBecome_71 : decode cX5_canBecome 71 = .ok (.iconst 0, 1) := by decide +kernel
theorem dX5_canBecome_72 : decode cX5_canBecome 72 = .ok (.ireturn, 1) := by decide +kernel
theorem dX5_replace_0 : decode cX5_replace 0 = .ok (.aload_n 0, 1) := by decide +kernel
theorem dX5_replace_1 : decode cX5_replace 1 = .ok (.iload_n 1, 1) := by decide +kernel
theorem dX5_replace_2 : decode cX5_replace 2 = .ok (.iaload, 1) := by decide +kernel
theorem dX5_replace_3 : decode cX5_replace 3 = .ok (.istore_n 3, 1) := by decide +kernel
theorem dX5_replace_4 : decode cX5_replace 4 = .ok (.aload_n 0, 1) := by decide +kernel
theorem dX5_replace_5 : decode cX5_replace 5 = .ok (.iload_n 1, 1) := by decide +kernel
theorem dX5_replace_6 : decode cX5_replace 6 = .ok (.iload_n 2, 1) := by decide +kernel
theorem dX5_replace_7 : decode cX5_replace 7 = .ok (.iastore, 1) := by decide +kernel
theorem dX5_replace_8 : decode cX5_replace 8 = .ok (.iload_n 3, 1) := by decide +kernel
theorem dX5_replace_9 : decode cX5_replace 9 = .ok (.ireturn, 1) := by decide +kernel
theorem dX5_moveTo_0 : decode cX5_moveTo 0 = .ok (.aload_n 0, 1) := by decide +kernel
theorem dX5_moveTo_1 : decode cX5_moveTo 1 = .ok (.getfield 10, 3) := by decide +kernel
theorem dX5_moveTo_4 : decode cX5_moveTo 4 = .ok (.getfield 78, 3) := by decide +kernel
theorem dX5_moveTo_7 : decode cX5_moveTo 7 = .ok (.iload_n 1, 1) := by decide +kernel
theorem dX5_moveTo_8 : decode cX5_moveTo 8 = .ok (.iaload, 1) := by decide +kernel
theorem dX5_moveTo_9 : decode cX5_moveTo 9 = .ok (.istore_n 3, 1) := by decide +kernel
theorem dX5_moveTo_10 : decode cX5_moveTo 10 = .ok (.aload_n 0, 1) := by decide +kernel
theorem dX5_moveTo_11 : decode cX5_moveTo 11 = .ok (.getfield 10, 3) := by decide +kernel
theorem dX5_moveTo_14 : decode cX5_moveTo 14 = .ok (.iload_n 1, 1) := by decide +kernel
theorem dX5_moveTo_15 : decode cX5_moveTo 15 = .ok (.iload_n 2, 1) := by decide +kernel
theorem dX5_moveTo_16 : decode cX5_moveTo 16 = .ok (.invokevirtual 217, 3) := by decide +kernel
theorem dX5_moveTo_19 : decode cX5_moveTo 19 = .ok (.iload_n 3, 1) := by decide +kernel
theorem dX5_moveTo_20 : decode cX5_moveTo 20 = .ok (.ireturn, 1) := by decide +kernel
theorem dX5_laughingAt_0 : decode cX5_laughingAt 0 = .ok (.aload_n 0, 1) := by decide +kernel
theorem dX5_laughingAt_1 : decode cX5_laughingAt 1 = .ok (.getfield 29, 3) := by decide +kernel
theorem dX5_laughingAt_4 : decode cX5_laughingAt 4 = .ok (.aload_n 0, 1) := by decide +kernel
theorem dX5_laughingAt_5 : decode cX5_laughingAt 5 = .ok (.getfield 10, 3) := by decide +kernel
theorem dX5_laughingAt_8 : decode cX5_laughingAt 8 = .ok (.iload_n 1, 1) := by decide +kernel
theorem dX5_laughingAt_9 : decode cX5_laughingAt 9 = .ok (.iload_n 2, 1) := by decide +kernel
theorem dX5_laughingAt_10 : decode cX5_laughingAt 10 = .ok (.invokevirtual 192, 3) := by decide +kernel
theorem dX5_laughingAt_13 : decode cX5_laughingAt 13 = .ok (.istore_n 3, 1) := by decide +kernel
theorem dX5_laughingAt_14 : decode cX5_laughingAt 14 = .ok (.aload_n 0, 1) := by decide +kernel
theorem dX5_laughingAt_15 : decode cX5_laughingAt 15 = .ok (.getfield 29, 3) := by decide +kernel
theorem dX5_laughingAt_18 : decode cX5_laughingAt 18 = .ok (.aload_n 0, 1) := by decide +kernel
theorem dX5_laughingAt_19 : decode cX5_laughingAt 19 = .ok (.getfield 10, 3) := by decide +kernel
theorem dX5_laughingAt_22 : decode cX5_laughingAt 22 = .ok (.iload_n 3, 1) := by decide +kernel
theorem dX5_laughingAt_23 : decode cX5_laughingAt 23 = .ok (.aload_n 0, 1) := by decide +kernel
theorem dX5_laughingAt_24 : decode cX5_laughingAt 24 = .ok (.getfield 10, 3) := by decide +kernel
theorem dX5_laughingAt_27 : decode cX5_laughingAt 27 = .ok (.invokevirtual 208, 3) := by decide +kernel
theorem dX5_laughingAt_30 : decode cX5_laughingAt 30 = .ok (.invokevirtual 211, 3) := by decide +kernel
theorem dX5_laughingAt_33 : decode cX5_laughingAt 33 = .ok (.invokestatic 101, 3) := by decide +kernel
theorem dX5_laughingAt_36 : decode cX5_laughingAt 36 = .ok (.ireturn, 1) := by decide +kernel
theorem dX5_sheetFinding_0 : decode cX5_sheetFinding 0 = .ok (.iload_n 1, 1) := by decide +kernel
theorem dX5_sheetFinding_1 : decode cX5_sheetFinding 1 = .ok (.iconst 0, 1) := by decide +kernel
theorem dX5_sheetFinding_2 : decode cX5_sheetFinding 2 = .ok (.iconst 3, 1) := by decide +kernel
theorem dX5_sheetFinding_3 : decode cX5_sheetFinding 3 = .ok (.invokestatic 132, 3) := by decide +kernel
theorem dX5_sheetFinding_6 : decode cX5_sheetFinding 6 = .ok (.ifCond .ne 6, 3) := by decide +kernel
theorem dX5_sheetFinding_9 : decode cX5_sheetFinding 9 = .ok (.ldc 58, 2) := by decide +kernel
theorem dX5_sheetFinding_11 : decode cX5_sheetFinding 11 = .ok (.ireturn, 1) := by decide +kernel
theorem dX5_sheetFinding_12 : decode cX5_sheetFinding 12 = .ok (.aload_n 0, 1) := by decide +kernel
theorem dX5_sheetFinding_13 : decode cX5_sheetFinding 13 = .ok (.getfield 42, 3) := by decide +kernel
theorem dX5_sheetFinding_16 : decode cX5_sheetFinding 16 = .ok (.iload_n 1, 1) := by decide +kernel
theorem dX5_sheetFinding_17 : decode cX5_sheetFinding 17 = .ok (.aaload, 1) := by decide +kernel
theorem dX5_sheetFinding_18 : decode cX5_sheetFinding 18 = .ok (.invokevirtual 277, 3) := by decide +kernel
theorem dX5_sheetFinding_21 : decode cX5_sheetFinding 21 = .ok (.ifCond .eq 9, 3) := by decide +kernel
theorem dX5_sheetFinding_24 : decode cX5_sheetFinding 24 = .ok (.ldc_w 265, 3) := by decide +kernel
theorem dX5_sheetFinding_27 : decode cX5_sheetFinding 27 = .ok (.goto 4, 3) := by decide +kernel
theorem dX5_sheetFinding_30 : decode cX5_sheetFinding 30 = .ok (.iconst 0, 1) := by decide +kernel
theorem dX5_sheetFinding_31 : decode cX5_sheetFinding 31 = .ok (.ireturn, 1) := by decide +kernel
theorem dX5_paymentsFinding_0 : decode cX5_paymentsFinding 0 = .ok (.aload_n 0, 1) := by decide +kernel
theorem dX5_paymentsFinding_1 : decode cX5_paymentsFinding 1 = .ok (.iload_n 1, 1) := by decide +kernel
theorem dX5_paymentsFinding_2 : decode cX5_paymentsFinding 2 = .ok (.invokevirtual 231, 3) := by decide +kernel
theorem dX5_paymentsFinding_5 : decode cX5_paymentsFinding 5 = .ok (.istore 4, 2) := by decide +kernel
theorem dX5_paymentsFinding_7 : decode cX5_paymentsFinding 7 = .ok (.iload 4, 2) := by decide +kernel
theorem dX5_paymentsFinding_9 : decode cX5_paymentsFinding 9 = .ok (.ifCond .eq 6, 3) := by decide +kernel
theorem dX5_paymentsFinding_12 : decode cX5_paymentsFinding 12 = .ok (.iload 4, 2) := by decide +kernel
theorem dX5_paymentsFinding_14 : decode cX5_paymentsFinding 14 = .ok (.ireturn, 1) := by decide +kernel
theorem dX5_paymentsFinding_15 : decode cX5_paymentsFinding 15 = .ok (.aload_n 0, 1) := by decide +kernel
theorem dX5_paymentsFinding_16 : decode cX5_paymentsFinding 16 = .ok (.iload_n 2, 1) := by decide +kernel
theorem dX5_paymentsFinding_17 : decode cX5_paymentsFinding 17 = .ok (.invokevirtual 72, 3) := by decide +kernel
theorem dX5_paymentsFinding_20 : decode cX5_paymentsFinding 20 = .ok (.ifCond .eq 15, 3) := by decide +kernel
theorem dX5_paymentsFinding_23 : decode cX5_paymentsFinding 23 = .ok (.aload_n 0, 1) := by decide +kernel
theorem dX5_paymentsFinding_24 : decode cX5_paymentsFinding 24 = .ok (.iload_n 3, 1) := by decide +kernel
theorem dX5_paymentsFinding_25 : decode cX5_paymentsFinding 25 = .ok (.invokevirtual 129, 3) := by decide +kernel
theorem dX5_paymentsFinding_28 : decode cX5_paymentsFinding 28 = .ok (.ifCond .eq 7, 3) := by decide +kernel
theorem dX5_paymentsFinding_31 : decode cX5_paymentsFinding 31 = .ok (.iconst 0, 1) := by decide +kernel
theorem dX5_paymentsFinding_32 : decode cX5_paymentsFinding 32 = .ok (.goto 5, 3) := by decide +kernel
theorem dX5_paymentsFinding_35 : decode cX5_paymentsFinding 35 = .ok (.ldc 58, 2) := by decide +kernel
theorem dX5_paymentsFinding_37 : decode cX5_paymentsFinding 37 = .ok (.ireturn, 1) := by decide +kernel
theorem dX5_fits_0 : decode cX5_fits 0 = .ok (.aload_n 0, 1) := by decide +kernel
theorem dX5_fits_1 : decode cX5_fits 1 = .ok (.getfield 16, 3) := by decide +kernel
theorem dX5_fits_4 : decode cX5_fits 4 = .ok (.aload_n 0, 1) := by decide +kernel
theorem dX5_fits_5 : decode cX5_fits 5 = .ok (.getfield 10, 3) := by decide +kernel
theorem dX5_fits_8 : decode cX5_fits 8 = .ok (.invokevirtual 201, 3) := by decide +kernel
theorem dX5_fits_11 : decode cX5_fits 11 = .ok (.aload_n 0, 1) := by decide +kernel
theorem dX5_fits_12 : decode cX5_fits 12 = .ok (.getfield 16, 3) := by decide +kernel
theorem dX5_fits_15 : decode cX5_fits 15 = .ok (.getfield 81, 3) := by decide +kernel
theorem dX5_fits_18 : decode cX5_fits 18 = .ok (.iload_n 2, 1) := by decide +kernel
theorem dX5_fits_19 : decode cX5_fits 19 = .ok (.iload 4, 2) := by decide +kernel
theorem dX5_fits_21 : decode cX5_fits 21 = .ok (.iastore, 1) := by decide +kernel
theorem dX5_fits_22 : decode cX5_fits 22 = .ok (.iconst 0, 1) := by decide +kernel
theorem dX5_fits_23 : decode cX5_fits 23 = .ok (.istore 5, 2) := by decide +kernel
theorem dX5_fits_25 : decode cX5_fits 25 = .ok (.iload 5, 2) := by decide +kernel
theorem dX5_fits_27 : decode cX5_fits 27 = .ok (.aload_n 1, 1) := by decide +kernel
theorem dX5_fits_28 : decode cX5_fits 28 = .ok (.getfield 274, 3) := by decide +kernel
theorem dX5_fits_31 : decode cX5_fits 31 = .ok (.if_icmp .ge 42, 3) := by decide +kernel
theorem dX5_fits_34 : decode cX5_fits 34 = .ok (.aload_n 0, 1) := by decide +kernel
theorem dX5_fits_35 : decode cX5_fits 35 = .ok (.getfield 29, 3) := by decide +kernel
theorem dX5_fits_38 : decode cX5_fits 38 = .ok (.aload_n 0, 1) := by decide +kernel
theorem dX5_fits_39 : decode cX5_fits 39 = .ok (.getfield 16, 3) := by decide +kernel
theorem dX5_fits_42 : decode cX5_fits 42 = .ok (.iload_n 3, 1) := by decide +kernel
theorem dX5_fits_43 : decode cX5_fits 43 = .ok (.invokevirtual 167, 3) := by decide +kernel
theorem dX5_fits_46 : decode cX5_fits 46 = .ok (.pop, 1) := by decide +kernel
theorem dX5_fits_47 : decode cX5_fits 47 = .ok (.aload_n 1, 1) := by decide +kernel
theorem dX5_fits_48 : decode cX5_fits 48 = .ok (.iload 5, 2) := by decide +kernel
theorem dX5_fits_50 : decode cX5_fits 50 = .ok (.aload_n 0, 1) := by decide +kernel
theorem dX5_fits_51 : decode cX5_fits 51 = .ok (.getfield 29, 3) := by decide +kernel
theorem dX5_fits_54 : decode cX5_fits 54 = .ok (.getfield 205, 3) := by decide +kernel
theorem dX5_fits_57 : decode cX5_fits 57 = .ok (.iload_n 2, 1) := by decide +kernel
theorem dX5_fits_58 : decode cX5_fits 58 = .ok (.iaload, 1) := by decide +kernel
theorem dX5_fits_59 : decode cX5_fits 59 = .ok (.invokevirtual 305, 3) := by decide +kernel
theorem dX5_fits_62 : decode cX5_fits 62 = .ok (.ifCond .ne 5, 3) := by decide +kernel
theorem dX5_fits_65 : decode cX5_fits 65 = .ok (.iconst 0, 1) := by decide +kernel
theorem dX5_fits_66 : decode cX5_fits 66 = .ok (.ireturn, 1) := by decide +kernel
theorem dX5_fits_67 : decode cX5_fits 67 = .ok (.iinc 5 1, 3) := by decide +kernel
theorem dX5_fits_70 : decode cX5_fits 70 = .ok (.goto (-45), 3) := by decide +kernel
theorem dX5_fits_73 : decode cX5_fits 73 = .ok (.iconst 1, 1) := by decide +kernel
theorem dX5_fits_74 : decode cX5_fits 74 = .ok (.ireturn, 1) := by decide +kernel
theorem dX5_inLowestTerms_0 : decode cX5_inLowestTerms 0 = .ok (.iload_n 0, 1) := by decide +kernel
theorem dX5_inLowestTerms_1 : decode cX5_inLowestTerms 1 = .ok (.iload_n 1, 1) := by decide +kernel
theorem dX5_inLowestTerms_2 : decode cX5_inLowestTerms 2 = .ok (.invokestatic 308, 3) := by decide +kernel
theorem dX5_inLowestTerms_5 : decode cX5_inLowestTerms 5 = .ok (.istore_n 2, 1) := by decide +kernel
theorem dX5_inLowestTerms_6 : decode cX5_inLowestTerms 6 = .ok (.iload_n 2, 1) := by decide +kernel
theorem dX5_inLowestTerms_7 : decode cX5_inLowestTerms 7 = .ok (.iconst 1, 1) := by decide +kernel
theorem dX5_inLowestTerms_8 : decode cX5_inLowestTerms 8 = .ok (.if_icmp .le 25, 3) := by decide +kernel
theorem dX5_inLowestTerms_11 : decode cX5_inLowestTerms 11 = .ok (.iload_n 0, 1) := by decide +kernel
theorem dX5_inLowestTerms_12 : decode cX5_inLowestTerms 12 = .ok (.iload_n 2, 1) := by decide +kernel
theorem dX5_inLowestTerms_13 : decode cX5_inLowestTerms 13 = .ok (.irem, 1) := by decide +kernel
theorem dX5_inLowestTerms_14 : decode cX5_inLowestTerms 14 = .ok (.ifCond .ne 13, 3) := by decide +kernel
theorem dX5_inLowestTerms_17 : decode cX5_inLowestTerms 17 = .ok (.iload_n 1, 1) := by decide +kernel
theorem dX5_inLowestTerms_18 : decode cX5_inLowestTerms 18 = .ok (.iload_n 2, 1) := by decide +kernel
theorem dX5_inLowestTerms_19 : decode cX5_inLowestTerms 19 = .ok (.irem, 1) := by decide +kernel
theorem dX5_inLowestTerms_20 : decode cX5_inLowestTerms 20 = .ok (.ifCond .ne 7, 3) := by decide +kernel
theorem dX5_inLowestTerms_23 : decode cX5_inLowestTerms 23 = .ok (.iload_n 0, 1) := by decide +kernel
theorem dX5_inLowestTerms_24 : decode cX5_inLowestTerms 24 = .ok (.iload_n 2, 1) := by decide +kernel
theorem dX5_inLowestTerms_25 : decode cX5_inLowestTerms 25 = .ok (.idiv, 1) := by decide +kernel
theorem dX5_inLowestTerms_26 : decode cX5_inLowestTerms 26 = .ok (.ireturn, 1) := by decide +kernel
theorem dX5_inLowestTerms_27 : decode cX5_inLowestTerms 27 = .ok (.iinc 2 (-1), 3) := by decide +kernel
theorem dX5_inLowestTerms_30 : decode cX5_inLowestTerms 30 = .ok (.goto (-24), 3) := by decide +kernel
theorem dX5_inLowestTerms_33 : decode cX5_inLowestTerms 33 = .ok (.iload_n 0, 1) := by decide +kernel
theorem dX5_inLowestTerms_34 : decode cX5_inLowestTerms 34 = .ok (.ireturn, 1) := by decide +kernel
theorem dX5_power_0 : decode cX5_power 0 = .ok (.lconst 1, 1) := by decide +kernel
theorem dX5_power_1 : decode cX5_power 1 = .ok (.lstore_n 2, 1) := by decide +kernel
theorem dX5_power_2 : decode cX5_power 2 = .ok (.iconst 0, 1) := by decide +kernel
theorem dX5_power_3 : decode cX5_power 3 = .ok (.istore 4, 2) := by decide +kernel
theorem dX5_power_5 : decode cX5_power 5 = .ok (.iload 4, 2) := by decide +kernel
theorem dX5_power_7 : decode cX5_power 7 = .ok (.iload_n 1, 1) := by decide +kernel
theorem dX5_power_8 : decode cX5_power 8 = .ok (.if_icmp .ge 14, 3) := by decide +kernel
theorem dX5_power_11 : decode cX5_power 11 = .ok (.lload_n 2, 1) := by decide +kernel
theorem dX5_power_12 : decode cX5_power 12 = .ok (.iload_n 0, 1) := by decide +kernel
theorem dX5_power_13 : decode cX5_power 13 = .ok (.i2l, 1) := by decide +kernel
theorem dX5_power_14 : decode cX5_power 14 = .ok (.lmul, 1) := by decide +kernel
theorem dX5_power_15 : decode cX5_power 15 = .ok (.lstore_n 2, 1) := by decide +kernel
theorem dX5_power_16 : decode cX5_power 16 = .ok (.iinc 4 1, 3) := by decide +kernel
theorem dX5_power_19 : decode cX5_power 19 = .ok (.goto (-14), 3) := by decide +kernel
theorem dX5_power_22 : decode cX5_power 22 = .ok (.lload_n 2, 1) := by decide +kernel
theorem dX5_power_23 : decode cX5_power 23 = .ok (.lreturn, 1) := by decide +kernel
