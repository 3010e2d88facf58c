theorem dX0_isA_0 : decode cX0_isA 0 = .ok (.iload_n 0, 1) := by decide +kernel
theorem dX0_isA_1 : decode cX0_isA 1 = .ok (.istore_n 2, 1) := by decide +kernel
theorem dX0_isA_2 : decode cX0_isA 2 = .ok (.iconst 0, 1) := by decide +kernel
theorem dX0_isA_3 : decode cX0_isA 3 = .ok (.istore_n 3, 1) := by decide +kernel
theorem dX0_isA_4 : decode cX0_isA 4 = .ok (.iload_n 3, 1) := by decide +kernel
theorem dX0_isA_5 : decode cX0_isA 5 = .ok (.bipush 7, 2) := by decide +kernel
theorem dX0_isA_7 : decode cX0_isA 7 = .ok (.if_icmp .ge 27, 3) := by decide +kernel
theorem dX0_isA_10 : decode cX0_isA 10 = .ok (.iload_n 2, 1) := by decide +kernel
theorem dX0_isA_11 : decode cX0_isA 11 = .ok (.iconst (-1), 1) := by decide +kernel
theorem dX0_isA_12 : decode cX0_isA 12 = .ok (.if_icmp .eq 22, 3) := by decide +kernel
theorem dX0_isA_15 : decode cX0_isA 15 = .ok (.iload_n 2, 1) := by decide +kernel
theorem dX0_isA_16 : decode cX0_isA 16 = .ok (.iload_n 1, 1) := by decide +kernel
theorem dX0_isA_17 : decode cX0_isA 17 = .ok (.if_icmp .ne 5, 3) := by decide +kernel
theorem dX0_isA_20 : decode cX0_isA 20 = .ok (.iconst 1, 1) := by decide +kernel
theorem dX0_isA_21 : decode cX0_isA 21 = .ok (.ireturn, 1) := by decide +kernel
theorem dX0_isA_22 : decode cX0_isA 22 = .ok (.getstatic 11, 3) := by decide +kernel
theorem dX0_isA_25 : decode cX0_isA 25 = .ok (.iload_n 2, 1) := by decide +kernel
theorem dX0_isA_26 : decode cX0_isA 26 = .ok (.iaload, 1) := by decide +kernel
theorem dX0_isA_27 : decode cX0_isA 27 = .ok (.istore_n 2, 1) := by decide +kernel
theorem dX0_isA_28 : decode cX0_isA 28 = .ok (.iinc 3 1, 3) := by decide +kernel
theorem dX0_isA_31 : decode cX0_isA 31 = .ok (.goto (-27), 3) := by decide +kernel
theorem dX0_isA_34 : decode cX0_isA 34 = .ok (.iconst 0, 1) := by decide +kernel
theorem dX0_isA_35 : decode cX0_isA 35 = .ok (.ireturn, 1) := by decide +kernel
theorem dX0_bound_0 : decode cX0_bound 0 = .ok (.bipush 8, 2) := by decide +kernel
theorem dX0_bound_2 : decode cX0_bound 2 = .ok (.bipush 20, 2) := by decide +kernel
theorem dX0_bound_4 : decode cX0_bound 4 = .ok (.iload_n 1, 1) := by decide +kernel
theorem dX0_bound_5 : decode cX0_bound 5 = .ok (.bipush 10, 2) := by decide +kernel
theorem dX0_bound_7 : decode cX0_bound 7 = .ok (.idiv, 1) := by decide +kernel
theorem dX0_bound_8 : decode cX0_bound 8 = .ok (.invokestatic 15, 3) := by decide +kernel
theorem dX0_bound_11 : decode cX0_bound 11 = .ok (.iadd, 1) := by decide +kernel
theorem dX0_bound_12 : decode cX0_bound 12 = .ok (.istore_n 2, 1) := by decide +kernel
theorem dX0_bound_13 : decode cX0_bound 13 = .ok (.iload_n 0, 1) := by decide +kernel
theorem dX0_bound_14 : decode cX0_bound 14 = .ok (.tableswitch 53 1 6 #[38, 44, 46, 48, 51, 40], 38) := by decide +kernel
theorem dX0_bound_52 : decode cX0_bound 52 = .ok (.iload_n 2, 1) := by decide +kernel
theorem dX0_bound_53 : decode cX0_bound 53 = .ok (.ireturn, 1) := by decide +kernel
theorem dX0_bound_54 : decode cX0_bound 54 = .ok (.iload_n 2, 1) := by decide +kernel
theorem dX0_bound_55 : decode cX0_bound 55 = .ok (.iconst 4, 1) := by decide +kernel
theorem dX0_bound_56 : decode cX0_bound 56 = .ok (.iadd, 1) := by decide +kernel
theorem dX0_bound_57 : decode cX0_bound 57 = .ok (.ireturn, 1) := by decide +kernel
theorem dX0_bound_58 : decode cX0_bound 58 = .ok (.iconst 4, 1) := by decide +kernel
theorem dX0_bound_59 : decode cX0_bound 59 = .ok (.ireturn, 1) := by decide +kernel
theorem dX0_bound_60 : decode cX0_bound 60 = .ok (.iconst 3, 1) := by decide +kernel
theorem dX0_bound_61 : decode cX0_bound 61 = .ok (.ireturn, 1) := by decide +kernel
theorem dX0_bound_62 : decode cX0_bound 62 = .ok (.bipush 93, 2) := by decide +kernel
theorem dX0_bound_64 : decode cX0_bound 64 = .ok (.ireturn, 1) := by decide +kernel
theorem dX0_bound_65 : decode cX0_bound 65 = .ok (.iconst 5, 1) := by decide +kernel
theorem dX0_bound_66 : decode cX0_bound 66 = .ok (.ireturn, 1) := by decide +kernel
theorem dX0_bound_67 : decode cX0_bound 67 = .ok (.bipush 8, 2) := by decide +kernel
theorem dX0_bound_69 : decode cX0_bound 69 = .ok (.ireturn, 1) := by decide +kernel
theorem dX0_number_0 : decode cX0_number 0 = .ok (.iload_n 0, 1) := by decide +kernel
theorem dX0_number_1 : decode cX0_number 1 = .ok (.tableswitch 62 1 6 #[39, 44, 46, 48, 51, 41], 39) := by decide +kernel
theorem dX0_number_40 : decode cX0_number 40 = .ok (.iconst 3, 1) := by decide +kernel
theorem dX0_number_41 : decode cX0_number 41 = .ok (.ireturn, 1) := by decide +kernel
theorem dX0_number_42 : decode cX0_number 42 = .ok (.bipush 6, 2) := by decide +kernel
theorem dX0_number_44 : decode cX0_number 44 = .ok (.ireturn, 1) := by decide +kernel
theorem dX0_number_45 : decode cX0_number 45 = .ok (.iconst 1, 1) := by decide +kernel
theorem dX0_number_46 : decode cX0_number 46 = .ok (.ireturn, 1) := by decide +kernel
theorem dX0_number_47 : decode cX0_number 47 = .ok (.iconst 1, 1) := by decide +kernel
theorem dX0_number_48 : decode cX0_number 48 = .ok (.ireturn, 1) := by decide +kernel
theorem dX0_number_49 : decode cX0_number 49 = .ok (.bipush 9, 2) := by decide +kernel
theorem dX0_number_51 : decode cX0_number 51 = .ok (.ireturn, 1) := by decide +kernel
theorem dX0_number_52 : decode cX0_number 52 = .ok (.iload_n 1, 1) := by decide +kernel
theorem dX0_number_53 : decode cX0_number 53 = .ok (.iconst 5, 1) := by decide +kernel
theorem dX0_number_54 : decode cX0_number 54 = .ok (.if_icmp .lt 7, 3) := by decide +kernel
theorem dX0_number_57 : decode cX0_number 57 = .ok (.iconst 1, 1) := by decide +kernel
theorem dX0_number_58 : decode cX0_number 58 = .ok (.goto 4, 3) := by decide +kernel
theorem dX0_number_61 : decode cX0_number 61 = .ok (.iconst 2, 1) := by decide +kernel
theorem dX0_number_62 : decode cX0_number 62 = .ok (.ireturn, 1) := by decide +kernel
theorem dX0_number_63 : decode cX0_number 63 = .ok (.iconst 2, 1) := by decide +kernel
theorem dX0_number_64 : decode cX0_number 64 = .ok (.ireturn, 1) := by decide +kernel
theorem dX0_seconds_0 : decode cX0_seconds 0 = .ok (.bipush 30, 2) := by decide +kernel
theorem dX0_seconds_2 : decode cX0_seconds 2 = .ok (.iconst 1, 1) := by decide +kernel
theorem dX0_seconds_3 : decode cX0_seconds 3 = .ok (.iload_n 1, 1) := by decide +kernel
theorem dX0_seconds_4 : decode cX0_seconds 4 = .ok (.invokestatic 21, 3) := by decide +kernel
theorem dX0_seconds_7 : decode cX0_seconds 7 = .ok (.invokestatic 15, 3) := by decide +kernel
theorem dX0_seconds_10 : decode cX0_seconds 10 = .ok (.istore_n 2, 1) := by decide +kernel
theorem dX0_seconds_11 : decode cX0_seconds 11 = .ok (.iload_n 0, 1) := by decide +kernel
theorem dX0_seconds_12 : decode cX0_seconds 12 = .ok (.tableswitch 60 1 6 #[40, 48, 52, 58, 60, 46], 40) := by decide +kernel
theorem dX0_seconds_52 : decode cX0_seconds 52 = .ok (.iload_n 2, 1) := by decide +kernel
theorem dX0_seconds_53 : decode cX0_seconds 53 = .ok (.iconst 2, 1) := by decide +kernel
theorem dX0_seconds_54 : decode cX0_seconds 54 = .ok (.idiv, 1) := by decide +kernel
theorem dX0_seconds_55 : decode cX0_seconds 55 = .ok (.iconst 1, 1) := by decide +kernel
theorem dX0_seconds_56 : decode cX0_seconds 56 = .ok (.iadd, 1) := by decide +kernel
theorem dX0_seconds_57 : decode cX0_seconds 57 = .ok (.ireturn, 1) := by decide +kernel
theorem dX0_seconds_58 : decode cX0_seconds 58 = .ok (.iconst 1, 1) := by decide +kernel
theorem dX0_seconds_59 : decode cX0_seconds 59 = .ok (.ireturn, 1) := by decide +kernel
theorem dX0_seconds_60 : decode cX0_seconds 60 = .ok (.iload_n 2, 1) := by decide +kernel
theorem dX0_seconds_61 : decode cX0_seconds 61 = .ok (.iconst 2, 1) := by decide +kernel
theorem dX0_seconds_62 : decode cX0_seconds 62 = .ok (.imul, 1) := by decide +kernel
theorem dX0_seconds_63 : decode cX0_seconds 63 = .ok (.ireturn, 1) := by decide +kernel
theorem dX0_seconds_64 : decode cX0_seconds 64 = .ok (.iload_n 2, 1) := by decide +kernel
theorem dX0_seconds_65 : decode cX0_seconds 65 = .ok (.iconst 2, 1) := by decide +kernel
theorem dX0_seconds_66 : decode cX0_seconds 66 = .ok (.imul, 1) := by decide +kernel
theorem dX0_seconds_67 : decode cX0_seconds 67 = .ok (.iconst 5, 1) := by decide +kernel
theorem dX0_seconds_68 : decode cX0_seconds 68 = .ok (.iadd, 1) := by decide +kernel
theorem dX0_seconds_69 : decode cX0_seconds 69 = .ok (.ireturn, 1) := by decide +kernel
theorem dX0_seconds_70 : decode cX0_seconds 70 = .ok (.iconst 0, 1) := by decide +kernel
theorem dX0_seconds_71 : decode cX0_seconds 71 = .ok (.ireturn, 1) := by decide +kernel
theorem dX0_seconds_72 : decode cX0_seconds 72 = .ok (.iload_n 2, 1) := by decide +kernel
theorem dX0_seconds_73 : decode cX0_seconds 73 = .ok (.ireturn, 1) := by decide +kernel
theorem dX1_init_0 : decode cX1_init 0 = .ok (.aload_n 0, 1) := by decide +kernel
theorem dX1_init_1 : decode cX1_init 1 = .ok (.invokespecial 3, 3) := by decide +kernel
theorem dX1_init_4 : decode cX1_init 4 = .ok (.aload_n 0, 1) := by decide +kernel
theorem dX1_init_5 : decode cX1_init 5 = .ok (.bipush 8, 2) := by decide +kernel
theorem dX1_init_7 : decode cX1_init 7 = .ok (.newarray .int, 2) := by decide +kernel
theorem dX1_init_9 : decode cX1_init 9 = .ok (.putfield 9, 3) := by decide +kernel
theorem dX1_init_12 : decode cX1_init 12 = .ok (.aload_n 0, 1) := by decide +kernel
theorem dX1_init_13 : decode cX1_init 13 = .ok (.bipush 8, 2) := by decide +kernel
theorem dX1_init_15 : decode cX1_init 15 = .ok (.newarray .int, 2) := by decide +kernel
theorem dX1_init_17 : decode cX1_init 17 = .ok (.putfield 15, 3) := by decide +kernel
theorem dX1_init_20 : decode cX1_init 20 = .ok (.aload_n 0, 1) := by decide +kernel
theorem dX1_init_21 : decode cX1_init 21 = .ok (.bipush 8, 2) := by decide +kernel
theorem dX1_init_23 : decode cX1_init 23 = .ok (.newarray .int, 2) := by decide +kernel
theorem dX1_init_25 : decode cX1_init 25 = .ok (.putfield 18, 3) := by decide +kernel
theorem dX1_init_28 : decode cX1_init 28 = .ok (.aload_n 0, 1) := by decide +kernel
theorem dX1_init_29 : decode cX1_init 29 = .ok (.bipush 8, 2) := by decide +kernel
theorem dX1_init_31 : decode cX1_init 31 = .ok (.newarray .int, 2) := by decide +kernel
theorem dX1_init_33 : decode cX1_init 33 = .ok (.putfield 21, 3) := by decide +kernel
theorem dX1_init_36 : decode cX1_init 36 = .ok (.aload_n 0, 1) := by decide +kernel
theorem dX1_init_37 : decode cX1_init 37 = .ok (.bipush 8, 2) := by decide +kernel
theorem dX1_init_39 : decode cX1_init 39 = .ok (.newarray .int, 2) := by decide +kernel
theorem dX1_init_41 : decode cX1_init 41 = .ok (.putfield 24, 3) := by decide +kernel
theorem dX1_init_44 : decode cX1_init 44 = .ok (.aload_n 0, 1) := by decide +kernel
theorem dX1_init_45 : decode cX1_init 45 = .ok (.bipush 8, 2) := by decide +kernel
theorem dX1_init_47 : decode cX1_init 47 = .ok (.newarray .int, 2) := by decide +kernel
theorem dX1_init_49 : decode cX1_init 49 = .ok (.putfield 27, 3) := by decide +kernel
theorem dX1_init_52 : decode cX1_init 52 = .ok (.aload_n 0, 1) := by decide +kernel
theorem dX1_init_53 : decode cX1_init 53 = .ok (.bipush 8, 2) := by decide +kernel
theorem dX1_init_55 : decode cX1_init 55 = .ok (.newarray .int, 2) := by decide +kernel
theorem dX1_init_57 : decode cX1_init 57 = .ok (.putfield 30, 3) := by decide +kernel
theorem dX1_init_60 : decode cX1_init 60 = .ok (.aload_n 0, 1) := by decide +kernel
theorem dX1_init_61 : decode cX1_init 61 = .ok (.bipush 8, 2) := by decide +kernel
theorem dX1_init_63 : decode cX1_init 63 = .ok (.newarray .int, 2) := by decide +kernel
theorem dX1_init_65 : decode cX1_init 65 = .ok (.putfield 33, 3) := by decide +kernel
theorem dX1_init_68 : decode cX1_init 68 = .ok (.aload_n 0, 1) := by decide +kernel
theorem dX1_init_69 : decode cX1_init 69 = .ok (.iconst 1, 1) := by decide +kernel
theorem dX1_init_70 : decode cX1_init 70 = .ok (.putfield 36, 3) := by decide +kernel
theorem dX1_init_73 : decode cX1_init 73 = .ok (.aload_n 0, 1) := by decide +kernel
theorem dX1_init_74 : decode cX1_init 74 = .ok (.iconst 2, 1) := by decide +kernel
theorem dX1_init_75 : decode cX1_init 75 = .ok (.putfield 40, 3) := by decide +kernel
theorem dX1_init_78 : decode cX1_init 78 = .ok (.aload_n 0, 1) := by decide +kernel
theorem dX1_init_79 : decode cX1_init 79 = .ok (.iconst 1, 1) := by decide +kernel
theorem dX1_init_80 : decode cX1_init 80 = .ok (.putfield 43, 3) := by decide +kernel
theorem dX1_init_83 : decode cX1_init 83 = .ok (.aload_n 0, 1) := by decide +kernel
theorem dX1_init_84 : decode cX1_init 84 = .ok (.bipush 10, 2) := by decide +kernel
theorem dX1_init_86 : decode cX1_init 86 = .ok (.newarray .int, 2) := by decide +kernel
theorem dX1_init_88 : decode cX1_init 88 = .ok (.putfield 46, 3) := by decide +kernel
theorem dX1_init_91 : decode cX1_init 91 = .ok (.iconst 0, 1) := by decide +kernel
theorem dX1_init_92 : decode cX1_init 92 = .ok (.istore_n 1, 1) := by decide +kernel
theorem dX1_init_93 : decode cX1_init 93 = .ok (.iload_n 1, 1) := by decide +kernel
theorem dX1_init_94 : decode cX1_init 94 = .ok (.bipush 10, 2) := by decide +kernel
theorem dX1_init_96 : decode cX1_init 96 = .ok (.if_icmp .ge 16, 3) := by decide +kernel
theorem dX1_init_99 : decode cX1_init 99 = .ok (.aload_n 0, 1) := by decide +kernel
theorem dX1_init_100 : decode cX1_init 100 = .ok (.getfield 46, 3) := by decide +kernel
theorem dX1_init_103 : decode cX1_init 103 = .ok (.iload_n 1, 1) := by decide +kernel
theorem dX1_init_104 : decode cX1_init 104 = .ok (.iconst (-1), 1) := by decide +kernel
theorem dX1_init_105 : decode cX1_init 105 = .ok (.iastore, 1) := by decide +kernel
theorem dX1_init_106 : decode cX1_init 106 = .ok (.iinc 1 1, 3) := by decide +kernel
theorem dX1_init_109 : decode cX1_init 109 = .ok (.goto (-16), 3) := by decide +kernel
theorem dX1_init_112 : decode cX1_init 112 = .ok (.return_, 1) := by decide +kernel
theorem dX1_takeOver_0 : decode cX1_takeOver 0 = .ok (.aload_n 0, 1) := by decide +kernel
theorem dX1_takeOver_1 : decode cX1_takeOver 1 = .ok (.aload_n 1, 1) := by decide +kernel
theorem dX1_takeOver_2 : decode cX1_takeOver 2 = .ok (.getfield 49, 3) := by decide +kernel
theorem dX1_takeOver_5 : decode cX1_takeOver 5 = .ok (.putfield 49, 3) := by decide +kernel
theorem dX1_takeOver_8 : decode cX1_takeOver 8 = .ok (.aload_n 1, 1) := by decide +kernel
theorem dX1_takeOver_9 : decode cX1_takeOver 9 = .ok (.getfield 9, 3) := by decide +kernel
theorem dX1_takeOver_12 : decode cX1_takeOver 12 = .ok (.iconst 0, 1) := by decide +kernel
theorem dX1_takeOver_13 : decode cX1_takeOver 13 = .ok (.aload_n 0, 1) := by decide +kernel
theorem dX1_takeOver_14 : decode cX1_takeOver 14 = .ok (.getfield 9, 3) := by decide +kernel
theorem dX1_takeOver_17 : decode cX1_takeOver 17 = .ok (.iconst 0, 1) := by decide +kernel
theorem dX1_takeOver_18 : decode cX1_takeOver 18 = .ok (.bipush 8, 2) := by decide +kernel
theorem dX1_takeOver_20 : decode cX1_takeOver 20 = .ok (.invokestatic 52, 3) := by decide +kernel
theorem dX1_takeOver_23 : decode cX1_takeOver 23 = .ok (.aload_n 1, 1) := by decide +kernel
theorem dX1_takeOver_24 : decode cX1_takeOver 24 = .ok (.getfield 15, 3) := by decide +kernel
theorem dX1_takeOver_27 : decode cX1_takeOver 27 = .ok (.iconst 0, 1) := by decide +kernel
theorem dX1_takeOver_28 : decode cX1_takeOver 28 = .ok (.aload_n 0, 1) := by decide +kernel
theorem dX1_takeOver_29 : decode cX1_takeOver 29 = .ok (.getfield 15, 3) := by decide +kernel
theorem dX1_takeOver_32 : decode cX1_takeOver 32 = .ok (.iconst 0, 1) := by decide +kernel
theorem dX1_takeOver_33 : decode cX1_takeOver 33 = .ok (.bipush 8, 2) := by decide +kernel
theorem dX1_takeOver_35 : decode cX1_takeOver 35 = .ok (.invokestatic 52, 3) := by decide +kernel
theorem dX1_takeOver_38 : decode cX1_takeOver 38 = .ok (.aload_n 1, 1) := by decide +kernel
theorem dX1_takeOver_39 : decode cX1_takeOver 39 = .ok (.getfield 18, 3) := by decide +kernel
theorem dX1_takeOver_42 : decode cX1_takeOver 42 = .ok (.iconst 0, 1) := by decide +kernel
theorem dX1_takeOver_43 : decode cX1_takeOver 43 = .ok (.aload_n 0, 1) := by decide +kernel
theorem dX1_takeOver_44 : decode cX1_takeOver 44 = .ok (.getfield 18, 3) := by decide +kernel
theorem dX1_takeOver_47 : decode cX1_takeOver 47 = .ok (.iconst 0, 1) := by decide +kernel
theorem dX1_takeOver_48 : decode cX1_takeOver 48 = .ok (.bipush 8, 2) := by decide +kernel
theorem dX1_takeOver_50 : decode cX1_takeOver 50 = .ok (.invokestatic 52, 3) := by decide +kernel
theorem dX1_takeOver_53 : decode cX1_takeOver 53 = .ok (.aload_n 1, 1) := by decide +kernel
theorem dX1_takeOver_54 : decode cX1_takeOver 54 = .ok (.getfield 21, 3) := by decide +kernel
theorem dX1_takeOver_57 : decode cX1_takeOver 57 = .ok (.iconst 0, 1) := by decide +kernel
theorem dX1_takeOver_58 : decode cX1_takeOver 58 = .ok (.aload_n 0, 1) := by decide +kernel
theorem dX1_takeOver_59 : decode cX1_takeOver 59 = .ok (.getfield 21, 3) := by decide +kernel
theorem dX1_takeOver_62 : decode cX1_takeOver 62 = .ok (.iconst 0, 1) := by decide +kernel
theorem dX1_takeOver_63 : decode cX1_takeOver 63 = .ok (.bipush 8, 2) := by decide +kernel
theorem dX1_takeOver_65 : decode cX1_takeOver 65 = .ok (.invokestatic 52, 3) := by decide +kernel
theorem dX1_takeOver_68 : decode cX1_takeOver 68 = .ok (.aload_n 1, 1) := by decide +kernel
theorem dX1_takeOver_69 : decode cX1_takeOver 69 = .ok (.getfield 24, 3) := by decide +kernel
theorem dX1_takeOver_72 : decode cX1_takeOver 72 = .ok (.iconst 0, 1) := by decide +kernel
theorem dX1_takeOver_73 : decode cX1_takeOver 73 = .ok (.aload_n 0, 1) := by decide +kernel
theorem dX1_takeOver_74 : decode cX1_takeOver 74 = .ok (.getfield 24, 3) := by decide +kernel
theorem dX1_takeOver_77 : decode cX1_takeOver 77 = .ok (.iconst 0, 1) := by decide +kernel
theorem dX1_takeOver_78 : decode cX1_takeOver 78 = .ok (.bipush 8, 2) := by decide +kernel
theorem dX1_takeOver_80 : decode cX1_takeOver 80 = .ok (.invokestatic 52, 3) := by decide +kernel
theorem dX1_takeOver_83 : decode cX1_takeOver 83 = .ok (.aload_n 1, 1) := by decide +kernel
theorem dX1_takeOver_84 : decode cX1_takeOver 84 = .ok (.getfield 27, 3) := by decide +kernel
theorem dX1_takeOver_87 : decode cX1_takeOver 87 = .ok (.iconst 0, 1) := by decide +kernel
theorem dX1_takeOver_88 : decode cX1_takeOver 88 = .ok (.aload_n 0, 1) := by decide +kernel
theorem dX1_takeOver_89 : decode cX1_takeOver 89 = .ok (.getfield 27, 3) := by decide +kernel
theorem dX1_takeOver_92 : decode cX1_takeOver 92 = .ok (.iconst 0, 1) := by decide +kernel
theorem dX1_takeOver_93 : decode cX1_takeOver 93 = .ok (.bipush 8, 2) := by decide +kernel
theorem dX1_takeOver_95 : decode cX1_takeOver 95 = .ok (.invokestatic 52, 3) := by decide +kernel
theorem dX1_takeOver_98 : decode cX1_takeOver 98 = .ok (.aload_n 0, 1) := by decide +kernel
theorem dX1_takeOver_99 : decode cX1_takeOver 99 = .ok (.aload_n 1, 1) := by decide +kernel
theorem dX1_takeOver_100 : decode cX1_takeOver 100 = .ok (.getfield 58, 3) := by decide +kernel
theorem dX1_takeOver_103 : decode cX1_takeOver 103 = .ok (.putfield 58, 3) := by decide +kernel
theorem dX1_takeOver_106 : decode cX1_takeOver 106 = .ok (.aload_n 1, 1) := by decide +kernel
theorem dX1_takeOver_107 : decode cX1_takeOver 107 = .ok (.getfield 30, 3) := by decide +kernel
theorem dX1_takeOver_110 : decode cX1_takeOver 110 = .ok (.iconst 0, 1) := by decide +kernel
theorem dX1_takeOver_111 : decode cX1_takeOver 111 = .ok (.aload_n 0, 1) := by decide +kernel
theorem dX1_takeOver_112 : decode cX1_takeOver 112 = .ok (.getfield 30, 3) := by decide +kernel
theorem dX1_takeOver_115 : decode cX1_takeOver 115 = .ok (.iconst 0, 1) := by decide +kernel
theorem dX1_takeOver_116 : decode cX1_takeOver 116 = .ok (.bipush 8, 2) := by decide +kernel
theorem dX1_takeOver_118 : decode cX1_takeOver 118 = .ok (.invokestatic 52, 3) := by decide +kernel
theorem dX1_takeOver_121 : decode cX1_takeOver 121 = .ok (.aload_n 1, 1) := by decide +kernel
theorem dX1_takeOver_122 : decode cX1_takeOver 122 = .ok (.getfield 33, 3) := by decide +kernel
theorem dX1_takeOver_125 : decode cX1_takeOver 125 = .ok (.iconst 0, 1) := by decide +kernel
theorem dX1_takeOver_126 : decode cX1_takeOver 126 = .ok (.aload_n 0, 1) := by decide +kernel
theorem dX1_takeOver_127 : decode cX1_takeOver 127 = .ok (.getfield 33, 3) := by decide +kernel
theorem dX1_takeOver_130 : decode cX1_takeOver 130 = .ok (.iconst 0, 1) := by decide +kernel
theorem dX1_takeOver_131 : decode cX1_takeOver 131 = .ok (.bipush 8, 2) := by decide +kernel
theorem dX1_takeOver_133 : decode cX1_takeOver 133 = .ok (.invokestatic 52, 3) := by decide +kernel
theorem dX1_takeOver_136 : decode cX1_takeOver 136 = .ok (.aload_n 0, 1) := by decide +kernel
theorem dX1_takeOver_137 : decode cX1_takeOver 137 = .ok (.aload_n 1, 1) := by decide +kernel
theorem dX1_takeOver_138 : decode cX1_takeOver 138 = .ok (.getfield 36, 3) := by decide +kernel
theorem dX1_takeOver_141 : decode cX1_takeOver 141 = .ok (.putfield 36, 3) := by decide +kernel
theorem dX1_takeOver_144 : decode cX1_takeOver 144 = .ok (.aload_n 0, 1) := by decide +kernel
theorem dX1_takeOver_145 : decode cX1_takeOver 145 = .ok (.aload_n 1, 1) := by decide +kernel
theorem dX1_takeOver_146 : decode cX1_takeOver 146 = .ok (.getfield 40, 3) := by decide +kernel
theorem dX1_takeOver_149 : decode cX1_takeOver 149 = .ok (.putfield 40, 3) := by decide +kernel
theorem dX1_takeOver_152 : decode cX1_takeOver 152 = .ok (.aload_n 0, 1) := by decide +kernel
theorem dX1_takeOver_153 : decode cX1_takeOver 153 = .ok (.aload_n 1, 1) := by decide +kernel
theorem dX1_takeOver_154 : decode cX1_takeOver 154 = .ok (.getfield 61, 3) := by decide +kernel
theorem dX1_takeOver_157 : decode cX1_takeOver 157 = .ok (.putfield 61, 3) := by decide +kernel
theorem dX1_takeOver_160 : decode cX1_takeOver 160 = .ok (.aload_n 0, 1) := by decide +kernel
theorem dX1_takeOver_161 : decode cX1_takeOver 161 = .ok (.aload_n 1, 1) := by decide +kernel
theorem dX1_takeOver_162 : decode cX1_takeOver 162 = .ok (.getfield 64, 3) := by decide +kernel
theorem dX1_takeOver_165 : decode cX1_takeOver 165 = .ok (.putfield 64, 3) := by decide +kernel
theorem dX1_takeOver_168 : decode cX1_takeOver 168 = .ok (.aload_n 0, 1) := by decide +kernel
theorem dX1_takeOver_169 : decode cX1_takeOver 169 = .ok (.aload_n 1, 1) := by decide +kernel
theorem dX1_takeOver_170 : decode cX1_takeOver 170 = .ok (.getfield 43, 3) := by decide +kernel
theorem dX1_takeOver_173 : decode cX1_takeOver 173 = .ok (.putfield 43, 3) := by decide +kernel
theorem dX1_takeOver_176 : decode cX1_takeOver 176 = .ok (.aload_n 1, 1) := by decide +kernel
theorem dX1_takeOver_177 : decode cX1_takeOver 177 = .ok (.getfield 46, 3) := by decide +kernel
theorem dX1_takeOver_180 : decode cX1_takeOver 180 = .ok (.iconst 0, 1) := by decide +kernel
theorem dX1_takeOver_181 : decode cX1_takeOver 181 = .ok (.aload_n 0, 1) := by decide +kernel
theorem dX1_takeOver_182 : decode cX1_takeOver 182 = .ok (.getfield 46, 3) := by decide +kernel
theorem dX1_takeOver_185 : decode cX1_takeOver 185 = .ok (.iconst 0, 1) := by decide +kernel
theorem dX1_takeOver_186 : decode cX1_takeOver 186 = .ok (.bipush 10, 2) := by decide +kernel
theorem dX1_takeOver_188 : decode cX1_takeOver 188 = .ok (.invokestatic 52, 3) := by decide +kernel
theorem dX1_takeOver_191 : decode cX1_takeOver 191 = .ok (.return_, 1) := by decide +kernel
theorem dX1_addPerson_0 : decode cX1_addPerson 0 = .ok (.aload_n 0, 1) := by decide +kernel
theorem dX1_addPerson_1 : decode cX1_addPerson 1 = .ok (.getfield 49, 3) := by decide +kernel
theorem dX1_addPerson_4 : decode cX1_addPerson 4 = .ok (.istore_n 3, 1) := by decide +kernel
theorem dX1_addPerson_5 : decode cX1_addPerson 5 = .ok (.aload_n 0, 1) := by decide +kernel
theorem dX1_addPerson_6 : decode cX1_addPerson 6 = .ok (.dup, 1) := by decide +kernel
theorem dX1_addPerson_7 : decode cX1_addPerson 7 = .ok (.getfield 49, 3) := by decide +kernel
theorem dX1_addPerson_10 : decode cX1_addPerson 10 = .ok (.iconst 1, 1) := by decide +kernel
theorem dX1_addPerson_11 : decode cX1_addPerson 11 = .ok (.iadd, 1) := by decide +kernel
theorem dX1_addPerson_12 : decode cX1_addPerson 12 = .ok (.putfield 49, 3) := by decide +kernel
theorem dX1_addPerson_15 : decode cX1_addPerson 15 = .ok (.aload_n 0, 1) := by decide +kernel
theorem dX1_addPerson_16 : decode cX1_addPerson 16 = .ok (.getfield 9, 3) := by decide +kernel
theorem dX1_addPerson_19 : decode cX1_addPerson 19 = .ok (.iload_n 3, 1) := by decide +kernel
theorem dX1_addPerson_20 : decode cX1_addPerson 20 = .ok (.iload_n 1, 1) := by decide +kernel
theorem dX1_addPerson_21 : decode cX1_addPerson 21 = .ok (.iastore, 1) := by decide +kernel
theorem dX1_addPerson_22 : decode cX1_addPerson 22 = .ok (.aload_n 0, 1) := by decide +kernel
theorem dX1_addPerson_23 : decode cX1_addPerson 23 = .ok (.getfield 15, 3) := by decide +kernel
theorem dX1_addPerson_26 : decode cX1_addPerson 26 = .ok (.iload_n 3, 1) := by decide +kernel
theorem dX1_addPerson_27 : decode cX1_addPerson 27 = .ok (.iload_n 2, 1) := by decide +kernel
theorem dX1_addPerson_28 : decode cX1_addPerson 28 = .ok (.iastore, 1) := by decide +kernel
theorem dX1_addPerson_29 : decode cX1_addPerson 29 = .ok (.aload_n 0, 1) := by decide +kernel
theorem dX1_addPerson_30 : decode cX1_addPerson 30 = .ok (.getfield 18, 3) := by decide +kernel
theorem dX1_addPerson_33 : decode cX1_addPerson 33 = .ok (.iload_n 3, 1) := by decide +kernel
theorem dX1_addPerson_34 : decode cX1_addPerson 34 = .ok (.iconst 1, 1) := by decide +kernel
theorem dX1_addPerson_35 : decode cX1_addPerson 35 = .ok (.iastore, 1) := by decide +kernel
theorem dX1_addPerson_36 : decode cX1_addPerson 36 = .ok (.aload_n 0, 1) := by decide +kernel
theorem dX1_addPerson_37 : decode cX1_addPerson 37 = .ok (.getfield 21, 3) := by decide +kernel
theorem dX1_addPerson_40 : decode cX1_addPerson 40 = .ok (.iload_n 3, 1) := by decide +kernel
theorem dX1_addPerson_41 : decode cX1_addPerson 41 = .ok (.iconst 3, 1) := by decide +kernel
theorem dX1_addPerson_42 : decode cX1_addPerson 42 = .ok (.iastore, 1) := by decide +kernel
theorem dX1_addPerson_43 : decode cX1_addPerson 43 = .ok (.aload_n 0, 1) := by decide +kernel
theorem dX1_addPerson_44 : decode cX1_addPerson 44 = .ok (.getfield 24, 3) := by decide +kernel
theorem dX1_addPerson_47 : decode cX1_addPerson 47 = .ok (.iload_n 3, 1) := by decide +kernel
theorem dX1_addPerson_48 : decode cX1_addPerson 48 = .ok (.bipush 100, 2) := by decide +kernel
theorem dX1_addPerson_50 : decode cX1_addPerson 50 = .ok (.iastore, 1) := by decide +kernel
theorem dX1_addPerson_51 : decode cX1_addPerson 51 = .ok (.aload_n 0, 1) := by decide +kernel
theorem dX1_addPerson_52 : decode cX1_addPerson 52 = .ok (.invokevirtual 67, 3) := by decide +kernel
theorem dX1_addPerson_55 : decode cX1_addPerson 55 = .ok (.iload_n 3, 1) := by decide +kernel
theorem dX1_addPerson_56 : decode cX1_addPerson 56 = .ok (.ireturn, 1) := by decide +kernel
theorem dX1_addJoke_0 : decode cX1_addJoke 0 = .ok (.aload_n 0, 1) := by decide +kernel
theorem dX1_addJoke_1 : decode cX1_addJoke 1 = .ok (.getfield 58, 3) := by decide +kernel
theorem dX1_addJoke_4 : decode cX1_addJoke 4 = .ok (.istore_n 3, 1) := by decide +kernel
theorem dX1_addJoke_5 : decode cX1_addJoke 5 = .ok (.aload_n 0, 1) := by decide +kernel
theorem dX1_addJoke_6 : decode cX1_addJoke 6 = .ok (.dup, 1) := by decide +kernel
theorem dX1_addJoke_7 : decode cX1_addJoke 7 = .ok (.getfield 58, 3) := by decide +kernel
theorem dX1_addJoke_10 : decode cX1_addJoke 10 = .ok (.iconst 1, 1) := by decide +kernel
theorem dX1_addJoke_11 : decode cX1_addJoke 11 = .ok (.iadd, 1) := by decide +kernel
theorem dX1_addJoke_12 : decode cX1_addJoke 12 = .ok (.putfield 58, 3) := by decide +kernel
theorem dX1_addJoke_15 : decode cX1_addJoke 15 = .ok (.aload_n 0, 1) := by decide +kernel
theorem dX1_addJoke_16 : decode cX1_addJoke 16 = .ok (.getfield 30, 3) := by decide +kernel
theorem dX1_addJoke_19 : decode cX1_addJoke 19 = .ok (.iload_n 3, 1) := by decide +kernel
theorem dX1_addJoke_20 : decode cX1_addJoke 20 = .ok (.iload_n 1, 1) := by decide +kernel
theorem dX1_addJoke_21 : decode cX1_addJoke 21 = .ok (.iastore, 1) := by decide +kernel
theorem dX1_addJoke_22 : decode cX1_addJoke 22 = .ok (.aload_n 0, 1) := by decide +kernel
theorem dX1_addJoke_23 : decode cX1_addJoke 23 = .ok (.getfield 33, 3) := by decide +kernel
theorem dX1_addJoke_26 : decode cX1_addJoke 26 = .ok (.iload_n 3, 1) := by decide +kernel
theorem dX1_addJoke_27 : decode cX1_addJoke 27 = .ok (.iload_n 2, 1) := by decide +kernel
theorem dX1_addJoke_28 : decode cX1_addJoke 28 = .ok (.iastore, 1) := by decide +kernel
theorem dX1_addJoke_29 : decode cX1_addJoke 29 = .ok (.iload_n 3, 1) := by decide +kernel
theorem dX1_addJoke_30 : decode cX1_addJoke 30 = .ok (.ireturn, 1) := by decide +kernel
theorem dX1_setSeat_0 : decode cX1_setSeat 0 = .ok (.aload_n 0, 1) := by decide +kernel
theorem dX1_setSeat_1 : decode cX1_setSeat 1 = .ok (.getfield 15, 3) := by decide +kernel
theorem dX1_setSeat_4 : decode cX1_setSeat 4 = .ok (.iload_n 1, 1) := by decide +kernel
theorem dX1_setSeat_5 : decode cX1_setSeat 5 = .ok (.iload_n 2, 1) := by decide +kernel
theorem dX1_setSeat_6 : decode cX1_setSeat 6 = .ok (.iastore, 1) := by decide +kernel
theorem dX1_setSeat_7 : decode cX1_setSeat 7 = .ok (.aload_n 0, 1) := by decide +kernel
theorem dX1_setSeat_8 : decode cX1_setSeat 8 = .ok (.invokevirtual 67, 3) := by decide +kernel
theorem dX1_setSeat_11 : decode cX1_setSeat 11 = .ok (.return_, 1) := by decide +kernel
theorem dX1_setReach_0 : decode cX1_setReach 0 = .ok (.aload_n 0, 1) := by decide +kernel
theorem dX1_setReach_1 : decode cX1_setReach 1 = .ok (.iload_n 1, 1) := by decide +kernel
theorem dX1_setReach_2 : decode cX1_setReach 2 = .ok (.putfield 40, 3) := by decide +kernel
theorem dX1_setReach_5 : decode cX1_setReach 5 = .ok (.aload_n 0, 1) := by decide +kernel
theorem dX1_setReach_6 : decode cX1_setReach 6 = .ok (.invokevirtual 67, 3) := by decide +kernel
theorem dX1_setReach_9 : decode cX1_setReach 9 = .ok (.return_, 1) := by decide +kernel
theorem dX1_renewNear_0 : decode cX1_renewNear 0 = .ok (.iconst 0, 1) := by decide +kernel
theorem dX1_renewNear_1 : decode cX1_renewNear 1 = .ok (.istore_n 1, 1) := by decide +kernel
theorem dX1_renewNear_2 : decode cX1_renewNear 2 = .ok (.iload_n 1, 1) := by decide +kernel
theorem dX1_renewNear_3 : decode cX1_renewNear 3 = .ok (.aload_n 0, 1) := by decide +kernel
theorem dX1_renewNear_4 : decode cX1_renewNear 4 = .ok (.getfield 49, 3) := by decide +kernel
theorem dX1_renewNear_7 : decode cX1_renewNear 7 = .ok (.if_icmp .ge 68, 3) := by decide +kernel
theorem dX1_renewNear_10 : decode cX1_renewNear 10 = .ok (.iconst 0, 1) := by decide +kernel
theorem dX1_renewNear_11 : decode cX1_renewNear 11 = .ok (.istore_n 2, 1) := by decide +kernel
theorem dX1_renewNear_12 : decode cX1_renewNear 12 = .ok (.iconst 0, 1) := by decide +kernel
theorem dX1_renewNear_13 : decode cX1_renewNear 13 = .ok (.istore_n 3, 1) := by decide +kernel
theorem dX1_renewNear_14 : decode cX1_renewNear 14 = .ok (.iload_n 3, 1) := by decide +kernel
theorem dX1_renewNear_15 : decode cX1_renewNear 15 = .ok (.aload_n 0, 1) := by decide +kernel
theorem dX1_renewNear_16 : decode cX1_renewNear 16 = .ok (.getfield 49, 3) := by decide +kernel
theorem dX1_renewNear_19 : decode cX1_renewNear 19 = .ok (.if_icmp .ge 43, 3) := by decide +kernel
theorem dX1_renewNear_22 : decode cX1_renewNear 22 = .ok (.iload_n 3, 1) := by decide +kernel
theorem dX1_renewNear_23 : decode cX1_renewNear 23 = .ok (.iload_n 1, 1) := by decide +kernel
theorem dX1_renewNear_24 : decode cX1_renewNear 24 = .ok (.if_icmp .eq 32, 3) := by decide +kernel
theorem dX1_renewNear_27 : decode cX1_renewNear 27 = .ok (.aload_n 0, 1) := by decide +kernel
theorem dX1_renewNear_28 : decode cX1_renewNear 28 = .ok (.getfield 15, 3) := by decide +kernel
theorem dX1_renewNear_31 : decode cX1_renewNear 31 = .ok (.iload_n 1, 1) := by decide +kernel
theorem dX1_renewNear_32 : decode cX1_renewNear 32 = .ok (.iaload, 1) := by decide +kernel
theorem dX1_renewNear_33 : decode cX1_renewNear 33 = .ok (.aload_n 0, 1) := by decide +kernel
theorem dX1_renewNear_34 : decode cX1_renewNear 34 = .ok (.getfield 15, 3) := by decide +kernel
theorem dX1_renewNear_37 : decode cX1_renewNear 37 = .ok (.iload_n 3, 1) := by decide +kernel
theorem dX1_renewNear_38 : decode cX1_renewNear 38 = .ok (.iaload, 1) := by decide +kernel
theorem dX1_renewNear_39 : decode cX1_renewNear 39 = .ok (.isub, 1) := by decide +kernel
theorem dX1_renewNear_40 : decode cX1_renewNear 40 = .ok (.invokestatic 70, 3) := by decide +kernel
theorem dX1_renewNear_43 : decode cX1_renewNear 43 = .ok (.aload_n 0, 1) := by decide +kernel
theorem dX1_renewNear_44 : decode cX1_renewNear 44 = .ok (.getfield 40, 3) := by decide +kernel
theorem dX1_renewNear_47 : decode cX1_renewNear 47 = .ok (.if_icmp .gt 9, 3) := by decide +kernel
theorem dX1_renewNear_50 : decode cX1_renewNear 50 = .ok (.iload_n 2, 1) := by decide +kernel
theorem dX1_renewNear_51 : decode cX1_renewNear 51 = .ok (.iconst 1, 1) := by decide +kernel
theorem dX1_renewNear_52 : decode cX1_renewNear 52 = .ok (.iload_n 3, 1) := by decide +kernel
theorem dX1_renewNear_53 : decode cX1_renewNear 53 = .ok (.ishl, 1) := by decide +kernel
theorem dX1_renewNear_54 : decode cX1_renewNear 54 = .ok (.ior, 1) := by decide +kernel
theorem dX1_renewNear_55 : decode cX1_renewNear 55 = .ok (.istore_n 2, 1) := by decide +kernel
theorem dX1_renewNear_56 : decode cX1_renewNear 56 = .ok (.iinc 3 1, 3) := by decide +kernel
theorem dX1_renewNear_59 : decode cX1_renewNear 59 = .ok (.goto (-45), 3) := by decide +kernel
theorem dX1_renewNear_62 : decode cX1_renewNear 62 = .ok (.aload_n 0, 1) := by decide +kernel
theorem dX1_renewNear_63 : decode cX1_renewNear 63 = .ok (.getfield 27, 3) := by decide +kernel
theorem dX1_renewNear_66 : decode cX1_renewNear 66 = .ok (.iload_n 1, 1) := by decide +kernel
theorem dX1_renewNear_67 : decode cX1_renewNear 67 = .ok (.iload_n 2, 1) := by decide +kernel
theorem dX1_renewNear_68 : decode cX1_renewNear 68 = .ok (.iastore, 1) := by decide +kernel
theorem dX1_renewNear_69 : decode cX1_renewNear 69 = .ok (.iinc 1 1, 3) := by decide +kernel
theorem dX1_renewNear_72 : decode cX1_renewNear 72 = .ok (.goto (-70), 3) := by decide +kernel
theorem dX1_renewNear_75 : decode cX1_renewNear 75 = .ok (.return_, 1) := by decide +kernel
theorem dX1_everybody_0 : decode cX1_everybody 0 = .ok (.iconst 1, 1) := by decide +kernel
theorem dX1_everybody_1 : decode cX1_everybody 1 = .ok (.aload_n 0, 1) := by decide +kernel
theorem dX1_everybody_2 : decode cX1_everybody 2 = .ok (.getfield 49, 3) := by decide +kernel
theorem dX1_everybody_5 : decode cX1_everybody 5 = .ok (.ishl, 1) := by decide +kernel
theorem dX1_everybody_6 : decode cX1_everybody 6 = .ok (.iconst 1, 1) := by decide +kernel
theorem dX1_everybody_7 : decode cX1_everybody 7 = .ok (.isub, 1) := by decide +kernel
theorem dX1_everybody_8 : decode cX1_everybody 8 = .ok (.ireturn, 1) := by decide +kernel
theorem dX1_strengthFor_0 : decode cX1_strengthFor 0 = .ok (.iload_n 3, 1) := by decide +kernel
theorem dX1_strengthFor_1 : decode cX1_strengthFor 1 = .ok (.iload_n 2, 1) := by decide +kernel
theorem dX1_strengthFor_2 : decode cX1_strengthFor 2 = .ok (.aload_n 0, 1) := by decide +kernel
theorem dX1_strengthFor_3 : decode cX1_strengthFor 3 = .ok (.getfield 18, 3) := by decide +kernel
theorem dX1_strengthFor_6 : decode cX1_strengthFor 6 = .ok (.iload_n 1, 1) := by decide +kernel
theorem dX1_strengthFor_7 : decode cX1_strengthFor 7 = .ok (.iaload, 1) := by decide +kernel
theorem dX1_strengthFor_8 : decode cX1_strengthFor 8 = .ok (.iand, 1) := by decide +kernel
theorem dX1_strengthFor_9 : decode cX1_strengthFor 9 = .ok (.invokestatic 76, 3) := by decide +kernel
theorem dX1_strengthFor_12 : decode cX1_strengthFor 12 = .ok (.imul, 1) := by decide +kernel
theorem dX1_strengthFor_13 : decode cX1_strengthFor 13 = .ok (.aload_n 0, 1) := by decide +kernel
theorem dX1_strengthFor_14 : decode cX1_strengthFor 14 = .ok (.getfield 21, 3) := by decide +kernel
theorem dX1_strengthFor_17 : decode cX1_strengthFor 17 = .ok (.iload_n 1, 1) := by decide +kernel
theorem dX1_strengthFor_18 : decode cX1_strengthFor 18 = .ok (.iaload, 1) := by decide +kernel
theorem dX1_strengthFor_19 : decode cX1_strengthFor 19 = .ok (.iadd, 1) := by decide +kernel
theorem dX1_strengthFor_20 : decode cX1_strengthFor 20 = .ok (.ireturn, 1) := by decide +kernel
theorem dX1_dueFrom_0 : decode cX1_dueFrom 0 = .ok (.aload_n 0, 1) := by decide +kernel
theorem dX1_dueFrom_1 : decode cX1_dueFrom 1 = .ok (.getfield 9, 3) := by decide +kernel
theorem dX1_dueFrom_4 : decode cX1_dueFrom 4 = .ok (.iload_n 1, 1) := by decide +kernel
theorem dX1_dueFrom_5 : decode cX1_dueFrom 5 = .ok (.iaload, 1) := by decide +kernel
theorem dX1_dueFrom_6 : decode cX1_dueFrom 6 = .ok (.iload_n 2, 1) := by decide +kernel
theorem dX1_dueFrom_7 : decode cX1_dueFrom 7 = .ok (.invokestatic 81, 3) := by decide +kernel
theorem dX1_dueFrom_10 : decode cX1_dueFrom 10 = .ok (.aload_n 0, 1) := by decide +kernel
theorem dX1_dueFrom_11 : decode cX1_dueFrom 11 = .ok (.getfield 36, 3) := by decide +kernel
theorem dX1_dueFrom_14 : decode cX1_dueFrom 14 = .ok (.imul, 1) := by decide +kernel
theorem dX1_dueFrom_15 : decode cX1_dueFrom 15 = .ok (.aload_n 0, 1) := by decide +kernel
theorem dX1_dueFrom_16 : decode cX1_dueFrom 16 = .ok (.getfield 27, 3) := by decide +kernel
theorem dX1_dueFrom_19 : decode cX1_dueFrom 19 = .ok (.iload_n 1, 1) := by decide +kernel
theorem dX1_dueFrom_20 : decode cX1_dueFrom 20 = .ok (.iaload, 1) := by decide +kernel
theorem dX1_dueFrom_21 : decode cX1_dueFrom 21 = .ok (.invokestatic 76, 3) := by decide +kernel
theorem dX1_dueFrom_24 : decode cX1_dueFrom 24 = .ok (.imul, 1) := by decide +kernel
theorem dX1_dueFrom_25 : decode cX1_dueFrom 25 = .ok (.bipush 10, 2) := by decide +kernel
theorem dX1_dueFrom_27 : decode cX1_dueFrom 27 = .ok (.idiv, 1) := by decide +kernel
theorem dX1_dueFrom_28 : decode cX1_dueFrom 28 = .ok (.ireturn, 1) := by decide +kernel
theorem dX1_together_0 : decode cX1_together 0 = .ok (.iconst 0, 1) := by decide +kernel
theorem dX1_together_1 : decode cX1_together 1 = .ok (.istore_n 2, 1) := by decide +kernel
theorem dX1_together_2 : decode cX1_together 2 = .ok (.iconst 0, 1) := by decide +kernel
theorem dX1_together_3 : decode cX1_together 3 = .ok (.istore_n 3, 1) := by decide +kernel
theorem dX1_together_4 : decode cX1_together 4 = .ok (.iload_n 3, 1) := by decide +kernel
theorem dX1_together_5 : decode cX1_together 5 = .ok (.aload_n 0, 1) := by decide +kernel
theorem dX1_together_6 : decode cX1_together 6 = .ok (.getfield 49, 3) := by decide +kernel
theorem dX1_together_9 : decode cX1_together 9 = .ok (.if_icmp .ge 15, 3) := by decide +kernel
theorem dX1_together_12 : decode cX1_together 12 = .ok (.iload_n 2, 1) := by decide +kernel
theorem dX1_together_13 : decode cX1_together 13 = .ok (.aload_n 1, 1) := by decide +kernel
theorem dX1_together_14 : decode cX1_together 14 = .ok (.iload_n 3, 1) := by decide +kernel
theorem dX1_together_15 : decode cX1_together 15 = .ok (.iaload, 1) := by decide +kernel
theorem dX1_together_16 : decode cX1_together 16 = .ok (.iadd, 1) := by decide +kernel
theorem dX1_together_17 : decode cX1_together 17 = .ok (.istore_n 2, 1) := by decide +kernel
theorem dX1_together_18 : decode cX1_together 18 = .ok (.iinc 3 1, 3) := by decide +kernel
theorem dX1_together_21 : decode cX1_together 21 = .ok (.goto (-17), 3) := by decide +kernel
theorem dX1_together_24 : decode cX1_together 24 = .ok (.iload_n 2, 1) := by decide +kernel
theorem dX1_together_25 : decode cX1_together 25 = .ok (.ireturn, 1) := by decide +kernel
theorem dX1_poorest_0 : decode cX1_poorest 0 = .ok (.iconst 0, 1) := by decide +kernel
theorem dX1_poorest_1 : decode cX1_poorest 1 = .ok (.istore_n 1, 1) := by decide +kernel
theorem dX1_poorest_2 : decode cX1_poorest 2 = .ok (.iconst 1, 1) := by decide +kernel
theorem dX1_poorest_3 : decode cX1_poorest 3 = .ok (.istore_n 2, 1) := by decide +kernel
theorem dX1_poorest_4 : decode cX1_poorest 4 = .ok (.iload_n 2, 1) := by decide +kernel
theorem dX1_poorest_5 : decode cX1_poorest 5 = .ok (.aload_n 0, 1) := by decide +kernel
theorem dX1_poorest_6 : decode cX1_poorest 6 = .ok (.getfield 49, 3) := by decide +kernel
theorem dX1_poorest_9 : decode cX1_poorest 9 = .ok (.if_icmp .ge 26, 3) := by decide +kernel
theorem dX1_poorest_12 : decode cX1_poorest 12 = .ok (.aload_n 0, 1) := by decide +kernel
theorem dX1_poorest_13 : decode cX1_poorest 13 = .ok (.getfield 24, 3) := by decide +kernel
theorem dX1_poorest_16 : decode cX1_poorest 16 = .ok (.iload_n 2, 1) := by decide +kernel
theorem dX1_poorest_17 : decode cX1_poorest 17 = .ok (.iaload, 1) := by decide +kernel
theorem dX1_poorest_18 : decode cX1_poorest 18 = .ok (.aload_n 0, 1) := by decide +kernel
theorem dX1_poorest_19 : decode cX1_poorest 19 = .ok (.getfield 24, 3) := by decide +kernel
theorem dX1_poorest_22 : decode cX1_poorest 22 = .ok (.iload_n 1, 1) := by decide +kernel
theorem dX1_poorest_23 : decode cX1_poorest 23 = .ok (.iaload, 1) := by decide +kernel
theorem dX1_poorest_24 : decode cX1_poorest 24 = .ok (.if_icmp .ge 5, 3) := by decide +kernel
theorem dX1_poorest_27 : decode cX1_poorest 27 = .ok (.iload_n 2, 1) := by decide +kernel
theorem dX1_poorest_28 : decode cX1_poorest 28 = .ok (.istore_n 1, 1) := by decide +kernel
theorem dX1_poorest_29 : decode cX1_poorest 29 = .ok (.iinc 2 1, 3) := by decide +kernel
theorem dX1_poorest_32 : decode cX1_poorest 32 = .ok (.goto (-28), 3) := by decide +kernel
theorem dX1_poorest_35 : decode cX1_poorest 35 = .ok (.iload_n 1, 1) := by decide +kernel
theorem dX1_poorest_36 : decode cX1_poorest 36 = .ok (.ireturn, 1) := by decide +kernel
theorem dX1_drawBelow_0 : decode cX1_drawBelow 0 = .ok (.aload_n 0, 1) := by decide +kernel
theorem dX1_drawBelow_1 : decode cX1_drawBelow 1 = .ok (.aload_n 0, 1) := by decide +kernel
theorem dX1_drawBelow_2 : decode cX1_drawBelow 2 = .ok (.getfield 43, 3) := by decide +kernel
theorem dX1_drawBelow_5 : decode cX1_drawBelow 5 = .ok (.ldc 87, 2) := by decide +kernel
theorem dX1_drawBelow_7 : decode cX1_drawBelow 7 = .ok (.imul, 1) := by decide +kernel
theorem dX1_drawBelow_8 : decode cX1_drawBelow 8 = .ok (.sipush 12345, 3) := by decide +kernel
theorem dX1_drawBelow_11 : decode cX1_drawBelow 11 = .ok (.iadd, 1) := by decide +kernel
theorem dX1_drawBelow_12 : decode cX1_drawBelow 12 = .ok (.putfield 43, 3) := by decide +kernel
theorem dX1_drawBelow_15 : decode cX1_drawBelow 15 = .ok (.iload_n 1, 1) := by decide +kernel
theorem dX1_drawBelow_16 : decode cX1_drawBelow 16 = .ok (.ifCond .le 15, 3) := by decide +kernel
theorem dX1_drawBelow_19 : decode cX1_drawBelow 19 = .ok (.aload_n 0, 1) := by decide +kernel
theorem dX1_drawBelow_20 : decode cX1_drawBelow 20 = .ok (.getfield 43, 3) := by decide +kernel
theorem dX1_drawBelow_23 : decode cX1_drawBelow 23 = .ok (.bipush 8, 2) := by decide +kernel
theorem dX1_drawBelow_25 : decode cX1_drawBelow 25 = .ok (.iushr, 1) := by decide +kernel
theorem dX1_drawBelow_26 : decode cX1_drawBelow 26 = .ok (.iload_n 1, 1) := by decide +kernel
theorem dX1_drawBelow_27 : decode cX1_drawBelow 27 = .ok (.irem, 1) := by decide +kernel
theorem dX1_drawBelow_28 : decode cX1_drawBelow 28 = .ok (.goto 4, 3) := by decide +kernel
theorem dX1_drawBelow_31 : decode cX1_drawBelow 31 = .ok (.iconst 0, 1) := by decide +kernel
theorem dX1_drawBelow_32 : decode cX1_drawBelow 32 = .ok (.ireturn, 1) := by decide +kernel
theorem dX1_spotsHolding_0 : decode cX1_spotsHolding 0 = .ok (.iconst 0, 1) := by decide +kernel
theorem dX1_spotsHolding_1 : decode cX1_spotsHolding 1 = .ok (.istore_n 1, 1) := by decide +kernel
theorem dX1_spotsHolding_2 : decode cX1_spotsHolding 2 = .ok (.iconst 0, 1) := by decide +kernel
theorem dX1_spotsHolding_3 : decode cX1_spotsHolding 3 = .ok (.istore_n 2, 1) := by decide +kernel
theorem dX1_spotsHolding_4 : decode cX1_spotsHolding 4 = .ok (.iload_n 2, 1) := by decide +kernel
theorem dX1_spotsHolding_5 : decode cX1_spotsHolding 5 = .ok (.bipush 10, 2) := by decide +kernel
theorem dX1_spotsHolding_7 : decode cX1_spotsHolding 7 = .ok (.if_icmp .ge 22, 3) := by decide +kernel
theorem dX1_spotsHolding_10 : decode cX1_spotsHolding 10 = .ok (.aload_n 0, 1) := by decide +kernel
theorem dX1_spotsHolding_11 : decode cX1_spotsHolding 11 = .ok (.getfield 46, 3) := by decide +kernel
theorem dX1_spotsHolding_14 : decode cX1_spotsHolding 14 = .ok (.iload_n 2, 1) := by decide +kernel
theorem dX1_spotsHolding_15 : decode cX1_spotsHolding 15 = .ok (.iaload, 1) := by decide +kernel
theorem dX1_spotsHolding_16 : decode cX1_spotsHolding 16 = .ok (.iconst (-1), 1) := by decide +kernel
theorem dX1_spotsHolding_17 : decode cX1_spotsHolding 17 = .ok (.if_icmp .eq 6, 3) := by decide +kernel
theorem dX1_spotsHolding_20 : decode cX1_spotsHolding 20 = .ok (.iinc 1 1, 3) := by decide +kernel
theorem dX1_spotsHolding_23 : decode cX1_spotsHolding 23 = .ok (.iinc 2 1, 3) := by decide +kernel
theorem dX1_spotsHolding_26 : decode cX1_spotsHolding 26 = .ok (.goto (-22), 3) := by decide +kernel
theorem dX1_spotsHolding_29 : decode cX1_spotsHolding 29 = .ok (.iload_n 1, 1) := by decide +kernel
theorem dX1_spotsHolding_30 : decode cX1_spotsHolding 30 = .ok (.ireturn, 1) := by decide +kernel
theorem dX2_init_0 : decode cX2_init 0 = .ok (.aload_n 0, 1) := by decide +kernel
theorem dX2_init_1 : decode cX2_init 1 = .ok (.invokespecial 3, 3) := by decide +kernel
theorem dX2_init_4 : decode cX2_init 4 = .ok (.aload_n 0, 1) := by decide +kernel
theorem dX2_init_5 : decode cX2_init 5 = .ok (.bipush 40, 2) := by decide +kernel
theorem dX2_init_7 : decode cX2_init 7 = .ok (.newarray .int, 2) := by decide +kernel
theorem dX2_init_9 : decode cX2_init 9 = .ok (.putfield 9, 3) := by decide +kernel
theorem dX2_init_12 : decode cX2_init 12 = .ok (.return_, 1) := by decide +kernel
theorem dX2_begin_0 : decode cX2_begin 0 = .ok (.aload_n 0, 1) := by decide +kernel
theorem dX2_begin_1 : decode cX2_begin 1 = .ok (.iload_n 1, 1) := by decide +kernel
theorem dX2_begin_2 : decode cX2_begin 2 = .ok (.putfield 15, 3) := by decide +kernel
theorem dX2_begin_5 : decode cX2_begin 5 = .ok (.aload_n 0, 1) := by decide +kernel
theorem dX2_begin_6 : decode cX2_begin 6 = .ok (.iload_n 2, 1) := by decide +kernel
theorem dX2_begin_7 : decode cX2_begin 7 = .ok (.putfield 19, 3) := by decide +kernel
theorem dX2_begin_10 : decode cX2_begin 10 = .ok (.iconst 0, 1) := by decide +kernel
theorem dX2_begin_11 : decode cX2_begin 11 = .ok (.istore_n 3, 1) := by decide +kernel
theorem dX2_begin_12 : decode cX2_begin 12 = .ok (.iload_n 3, 1) := by decide +kernel
theorem dX2_begin_13 : decode cX2_begin 13 = .ok (.bipush 40, 2) := by decide +kernel
theorem dX2_begin_15 : decode cX2_begin 15 = .ok (.if_icmp .ge 16, 3) := by decide +kernel
theorem dX2_begin_18 : decode cX2_begin 18 = .ok (.aload_n 0, 1) := by decide +kernel
theorem dX2_begin_19 : decode cX2_begin 19 = .ok (.getfield 9, 3) := by decide +kernel
theorem dX2_begin_22 : decode cX2_begin 22 = .ok (.iload_n 3, 1) := by decide +kernel
theorem dX2_begin_23 : decode cX2_begin 23 = .ok (.iconst 0, 1) := by decide +kernel
theorem dX2_begin_24 : decode cX2_begin 24 = .ok (.iastore, 1) := by decide +kernel
theorem dX2_begin_25 : decode cX2_begin 25 = .ok (.iinc 3 1, 3) := by decide +kernel
theorem dX2_begin_28 : decode cX2_begin 28 = .ok (.goto (-16), 3) := by decide +kernel
theorem dX2_begin_31 : decode cX2_begin 31 = .ok (.return_, 1) := by decide +kernel
theorem dX2_isMissing_0 : decode cX2_isMissing 0 = .ok (.aload_n 0, 1) := by decide +kernel
theorem dX2_isMissing_1 : decode cX2_isMissing 1 = .ok (.getfield 15, 3) := by decide +kernel
theorem dX2_isMissing_4 : decode cX2_isMissing 4 = .ok (.ifCond .ne 7, 3) := by decide +kernel
theorem dX2_isMissing_7 : decode cX2_isMissing 7 = .ok (.iconst 1, 1) := by decide +kernel
theorem dX2_isMissing_8 : decode cX2_isMissing 8 = .ok (.goto 4, 3) := by decide +kernel
theorem dX2_isMissing_11 : decode cX2_isMissing 11 = .ok (.iconst 0, 1) := by decide +kernel
theorem dX2_isMissing_12 : decode cX2_isMissing 12 = .ok (.ireturn, 1) := by decide +kernel
theorem dX2_put_0 : decode cX2_put 0 = .ok (.aload_n 0, 1) := by decide +kernel
theorem dX2_put_1 : decode cX2_put 1 = .ok (.getfield 15, 3) := by decide +kernel
theorem dX2_put_4 : decode cX2_put 4 = .ok (.bipush 8, 2) := by decide +kernel
theorem dX2_put_6 : decode cX2_put 6 = .ok (.if_icmp .ne 14, 3) := by decide +kernel
theorem dX2_put_9 : decode cX2_put 9 = .ok (.aload_n 0, 1) := by decide +kernel
theorem dX2_put_10 : decode cX2_put 10 = .ok (.getfield 9, 3) := by decide +kernel
theorem dX2_put_13 : decode cX2_put 13 = .ok (.iload_n 1, 1) := by decide +kernel
theorem dX2_put_14 : decode cX2_put 14 = .ok (.iload_n 2, 1) := by decide +kernel
theorem dX2_put_15 : decode cX2_put 15 = .ok (.i2b, 1) := by decide +kernel
theorem dX2_put_16 : decode cX2_put 16 = .ok (.iastore, 1) := by decide +kernel
theorem dX2_put_17 : decode cX2_put 17 = .ok (.goto 30, 3) := by decide +kernel
theorem dX2_put_20 : decode cX2_put 20 = .ok (.aload_n 0, 1) := by decide +kernel
theorem dX2_put_21 : decode cX2_put 21 = .ok (.getfield 15, 3) := by decide +kernel
theorem dX2_put_24 : decode cX2_put 24 = .ok (.bipush 16, 2) := by decide +kernel
theorem dX2_put_26 : decode cX2_put 26 = .ok (.if_icmp .ne 14, 3) := by decide +kernel
theorem dX2_put_29 : decode cX2_put 29 = .ok (.aload_n 0, 1) := by decide +kernel
theorem dX2_put_30 : decode cX2_put 30 = .ok (.getfield 9, 3) := by decide +kernel
theorem dX2_put_33 : decode cX2_put 33 = .ok (.iload_n 1, 1) := by decide +kernel
theorem dX2_put_34 : decode cX2_put 34 = .ok (.iload_n 2, 1) := by decide +kernel
theorem dX2_put_35 : decode cX2_put 35 = .ok (.i2s, 1) := by decide +kernel
theorem dX2_put_36 : decode cX2_put 36 = .ok (.iastore, 1) := by decide +kernel
theorem dX2_put_37 : decode cX2_put 37 = .ok (.goto 10, 3) := by decide +kernel
theorem dX2_put_40 : decode cX2_put 40 = .ok (.aload_n 0, 1) := by decide +kernel
theorem dX2_put_41 : decode cX2_put 41 = .ok (.getfield 9, 3) := by decide +kernel
theorem dX2_put_44 : decode cX2_put 44 = .ok (.iload_n 1, 1) := by decide +kernel
theorem dX2_put_45 : decode cX2_put 45 = .ok (.iload_n 2, 1) := by decide +kernel
theorem dX2_put_46 : decode cX2_put 46 = .ok (.iastore, 1) := by decide +kernel
theorem dX2_put_47 : decode cX2_put 47 = .ok (.return_, 1) := by decide +kernel
theorem dX2_has_0 : decode cX2_has 0 = .ok (.iload_n 1, 1) := by decide +kernel
theorem dX2_has_1 : decode cX2_has 1 = .ok (.ifCond .lt 29, 3) := by decide +kernel
theorem dX2_has_4 : decode cX2_has 4 = .ok (.iload_n 2, 1) := by decide +kernel
theorem dX2_has_5 : decode cX2_has 5 = .ok (.ifCond .lt 25, 3) := by decide +kernel
theorem dX2_has_8 : decode cX2_has 8 = .ok (.iload_n 2, 1) := by decide +kernel
theorem dX2_has_9 : decode cX2_has 9 = .ok (.aload_n 0, 1) := by decide +kernel
theorem dX2_has_10 : decode cX2_has 10 = .ok (.getfield 19, 3) := by decide +kernel
theorem dX2_has_13 : decode cX2_has 13 = .ok (.if_icmp .gt 17, 3) := by decide +kernel
theorem dX2_has_16 : decode cX2_has 16 = .ok (.iload_n 1, 1) := by decide +kernel
theorem dX2_has_17 : decode cX2_has 17 = .ok (.aload_n 0, 1) := by decide +kernel
theorem dX2_has_18 : decode cX2_has 18 = .ok (.getfield 19, 3) := by decide +kernel
theorem dX2_has_21 : decode cX2_has 21 = .ok (.iload_n 2, 1) := by decide +kernel
theorem dX2_has_22 : decode cX2_has 22 = .ok (.isub, 1) := by decide +kernel
theorem dX2_has_23 : decode cX2_has 23 = .ok (.if_icmp .gt 7, 3) := by decide +kernel
theorem dX2_has_26 : decode cX2_has 26 = .ok (.iconst 1, 1) := by decide +kernel
theorem dX2_has_27 : decode cX2_has 27 = .ok (.goto 4, 3) := by decide +kernel
theorem dX2_has_30 : decode cX2_has 30 = .ok (.iconst 0, 1) := by decide +kernel
theorem dX2_has_31 : decode cX2_has 31 = .ok (.ireturn, 1) := by decide +kernel
theorem dX2_tells_0 : decode cX2_tells 0 = .ok (.aload_n 0, 1) := by decide +kernel
theorem dX2_tells_1 : decode cX2_tells 1 = .ok (.getfield 9, 3) := by decide +kernel
theorem dX2_tells_4 : decode cX2_tells 4 = .ok (.iload_n 1, 1) := by decide +kernel
theorem dX2_tells_5 : decode cX2_tells 5 = .ok (.iaload, 1) := by decide +kernel
theorem dX2_tells_6 : decode cX2_tells 6 = .ok (.iconst (-1), 1) := by decide +kernel
theorem dX2_tells_7 : decode cX2_tells 7 = .ok (.if_icmp .eq 13, 3) := by decide +kernel
theorem dX2_tells_10 : decode cX2_tells 10 = .ok (.aload_n 0, 1) := by decide +kernel
theorem dX2_tells_11 : decode cX2_tells 11 = .ok (.getfield 9, 3) := by decide +kernel
theorem dX2_tells_14 : decode cX2_tells 14 = .ok (.iload_n 1, 1) := by decide +kernel
theorem dX2_tells_15 : decode cX2_tells 15 = .ok (.iaload, 1) := by decide +kernel
theorem dX2_tells_16 : decode cX2_tells 16 = .ok (.iload_n 2, 1) := by decide +kernel
theorem dX2_tells_17 : decode cX2_tells 17 = .ok (.if_icmp .ne 7, 3) := by decide +kernel
theorem dX2_tells_20 : decode cX2_tells 20 = .ok (.iconst 1, 1) := by decide +kernel
theorem dX2_tells_21 : decode cX2_tells 21 = .ok (.goto 4, 3) := by decide +kernel
theorem dX2_tells_24 : decode cX2_tells 24 = .ok (.iconst 0, 1) := by decide +kernel
theorem dX2_tells_25 : decode cX2_tells 25 = .ok (.ireturn, 1) := by decide +kernel
theorem dX2_tellsFirst_0 : decode cX2_tellsFirst 0 = .ok (.iload_n 2, 1) := by decide +kernel
theorem dX2_tellsFirst_1 : decode cX2_tellsFirst 1 = .ok (.aload_n 0, 1) := by decide +kernel
theorem dX2_tellsFirst_2 : decode cX2_tellsFirst 2 = .ok (.getfield 19, 3) := by decide +kernel
theorem dX2_tellsFirst_5 : decode cX2_tellsFirst 5 = .ok (.invokestatic 22, 3) := by decide +kernel
theorem dX2_tellsFirst_8 : decode cX2_tellsFirst 8 = .ok (.istore_n 3, 1) := by decide +kernel
theorem dX2_tellsFirst_9 : decode cX2_tellsFirst 9 = .ok (.iconst 0, 1) := by decide +kernel
theorem dX2_tellsFirst_10 : decode cX2_tellsFirst 10 = .ok (.istore 4, 2) := by decide +kernel
theorem dX2_tellsFirst_12 : decode cX2_tellsFirst 12 = .ok (.iload 4, 2) := by decide +kernel
theorem dX2_tellsFirst_14 : decode cX2_tellsFirst 14 = .ok (.iload_n 3, 1) := by decide +kernel
theorem dX2_tellsFirst_15 : decode cX2_tellsFirst 15 = .ok (.if_icmp .ge 24, 3) := by decide +kernel
theorem dX2_tellsFirst_18 : decode cX2_tellsFirst 18 = .ok (.aload_n 0, 1) := by decide +kernel
theorem dX2_tellsFirst_19 : decode cX2_tellsFirst 19 = .ok (.iload 4, 2) := by decide +kernel
theorem dX2_tellsFirst_21 : decode cX2_tellsFirst 21 = .ok (.aload_n 1, 1) := by decide +kernel
theorem dX2_tellsFirst_22 : decode cX2_tellsFirst 22 = .ok (.iload 4, 2) := by decide +kernel
theorem dX2_tellsFirst_24 : decode cX2_tellsFirst 24 = .ok (.iaload, 1) := by decide +kernel
theorem dX2_tellsFirst_25 : decode cX2_tellsFirst 25 = .ok (.invokevirtual 28, 3) := by decide +kernel
theorem dX2_tellsFirst_28 : decode cX2_tellsFirst 28 = .ok (.ifCond .ne 5, 3) := by decide +kernel
theorem dX2_tellsFirst_31 : decode cX2_tellsFirst 31 = .ok (.iconst 0, 1) := by decide +kernel
theorem dX2_tellsFirst_32 : decode cX2_tellsFirst 32 = .ok (.ireturn, 1) := by decide +kernel
theorem dX2_tellsFirst_33 : decode cX2_tellsFirst 33 = .ok (.iinc 4 1, 3) := by decide +kernel
theorem dX2_tellsFirst_36 : decode cX2_tellsFirst 36 = .ok (.goto (-24), 3) := by decide +kernel
theorem dX2_tellsFirst_39 : decode cX2_tellsFirst 39 = .ok (.iconst 1, 1) := by decide +kernel
theorem dX2_tellsFirst_40 : decode cX2_tellsFirst 40 = .ok (.ireturn, 1) := by decide +kernel
theorem dX3_init_0 : decode cX3_init 0 = .ok (.aload_n 0, 1) := by decide +kernel
theorem dX3_init_1 : decode cX3_init 1 = .ok (.invokespecial 3, 3) := by decide +kernel
theorem dX3_init_4 : decode cX3_init 4 = .ok (.aload_n 0, 1) := by decide +kernel
theorem dX3_init_5 : decode cX3_init 5 = .ok (.bipush 120, 2) := by decide +kernel
theorem dX3_init_7 : decode cX3_init 7 = .ok (.newarray .byte, 2) := by decide +kernel
theorem dX3_init_9 : decode cX3_init 9 = .ok (.putfield 9, 3) := by decide +kernel
theorem dX3_init_12 : decode cX3_init 12 = .ok (.return_, 1) := by decide +kernel
theorem dX3_put_0 : decode cX3_put 0 = .ok (.aload_n 0, 1) := by decide +kernel
theorem dX3_put_1 : decode cX3_put 1 = .ok (.getfield 9, 3) := by decide +kernel
theorem dX3_put_4 : decode cX3_put 4 = .ok (.aload_n 0, 1) := by decide +kernel
theorem dX3_put_5 : decode cX3_put 5 = .ok (.getfield 15, 3) := by decide +kernel
theorem dX3_put_8 : decode cX3_put 8 = .ok (.iload_n 1, 1) := by decide +kernel
theorem dX3_put_9 : decode cX3_put 9 = .ok (.bastore, 1) := by decide +kernel
theorem dX3_put_10 : decode cX3_put 10 = .ok (.aload_n 0, 1) := by decide +kernel
theorem dX3_put_11 : decode cX3_put 11 = .ok (.dup, 1) := by decide +kernel
theorem dX3_put_12 : decode cX3_put 12 = .ok (.getfield 15, 3) := by decide +kernel
theorem dX3_put_15 : decode cX3_put 15 = .ok (.iconst 1, 1) := by decide +kernel
theorem dX3_put_16 : decode cX3_put 16 = .ok (.iadd, 1) := by decide +kernel
theorem dX3_put_17 : decode cX3_put 17 = .ok (.putfield 15, 3) := by decide +kernel
theorem dX3_put_20 : decode cX3_put 20 = .ok (.return_, 1) := by decide +kernel
theorem dX3_readInto_0 : decode cX3_readInto 0 = .ok (.aload_n 0, 1) := by decide +kernel
theorem dX3_readInto_1 : decode cX3_readInto 1 = .ok (.iconst 0, 1) := by decide +kernel
theorem dX3_readInto_2 : decode cX3_readInto 2 = .ok (.putfield 19, 3) := by decide +kernel
theorem dX3_readInto_5 : decode cX3_readInto 5 = .ok (.aload_n 0, 1) := by decide +kernel
theorem dX3_readInto_6 : decode cX3_readInto 6 = .ok (.invokevirtual 22, 3) := by decide +kernel
theorem dX3_readInto_9 : decode cX3_readInto 9 = .ok (.iconst 1, 1) := by decide +kernel
theorem dX3_readInto_10 : decode cX3_readInto 10 = .ok (.istore_n 2, 1) := by decide +kernel
theorem dX3_readInto_11 : decode cX3_readInto 11 = .ok (.iload_n 2, 1) := by decide +kernel
theorem dX3_readInto_12 : decode cX3_readInto 12 = .ok (.bipush 120, 2) := by decide +kernel
theorem dX3_readInto_14 : decode cX3_readInto 14 = .ok (.if_icmp .gt 44, 3) := by decide +kernel
theorem dX3_readInto_17 : decode cX3_readInto 17 = .ok (.aload_n 0, 1) := by decide +kernel
theorem dX3_readInto_18 : decode cX3_readInto 18 = .ok (.aload_n 1, 1) := by decide +kernel
theorem dX3_readInto_19 : decode cX3_readInto 19 = .ok (.invokevirtual 25, 3) := by decide +kernel
theorem dX3_readInto_22 : decode cX3_readInto 22 = .ok (.ifCond .ne 6, 3) := by decide +kernel
theorem dX3_readInto_25 : decode cX3_readInto 25 = .ok (.goto 33, 3) := by decide +kernel
theorem dX3_readInto_28 : decode cX3_readInto 28 = .ok (.aload_n 0, 1) := by decide +kernel
theorem dX3_readInto_29 : decode cX3_readInto 29 = .ok (.getfield 29, 3) := by decide +kernel
theorem dX3_readInto_32 : decode cX3_readInto 32 = .ok (.ifCond .ne 5, 3) := by decide +kernel
theorem dX3_readInto_35 : decode cX3_readInto 35 = .ok (.iload_n 2, 1) := by decide +kernel
theorem dX3_readInto_36 : decode cX3_readInto 36 = .ok (.ireturn, 1) := by decide +kernel
theorem dX3_readInto_37 : decode cX3_readInto 37 = .ok (.aload_n 0, 1) := by decide +kernel
theorem dX3_readInto_38 : decode cX3_readInto 38 = .ok (.getfield 29, 3) := by decide +kernel
theorem dX3_readInto_41 : decode cX3_readInto 41 = .ok (.iconst 3, 1) := by decide +kernel
theorem dX3_readInto_42 : decode cX3_readInto 42 = .ok (.if_icmp .eq 6, 3) := by decide +kernel
theorem dX3_readInto_45 : decode cX3_readInto 45 = .ok (.goto 13, 3) := by decide +kernel
theorem dX3_readInto_48 : decode cX3_readInto 48 = .ok (.aload_n 0, 1) := by decide +kernel
theorem dX3_readInto_49 : decode cX3_readInto 49 = .ok (.invokevirtual 22, 3) := by decide +kernel
theorem dX3_readInto_52 : decode cX3_readInto 52 = .ok (.iinc 2 1, 3) := by decide +kernel
theorem dX3_readInto_55 : decode cX3_readInto 55 = .ok (.goto (-44), 3) := by decide +kernel
theorem dX3_readInto_58 : decode cX3_readInto 58 = .ok (.iconst (-1), 1) := by decide +kernel
theorem dX3_readInto_59 : decode cX3_readInto 59 = .ok (.aload_n 0, 1) := by decide +kernel
theorem dX3_readInto_60 : decode cX3_readInto 60 = .ok (.getfield 32, 3) := by decide +kernel
theorem dX3_readInto_63 : decode cX3_readInto 63 = .ok (.isub, 1) := by decide +kernel
theorem dX3_readInto_64 : decode cX3_readInto 64 = .ok (.ireturn, 1) := by decide +kernel
theorem dX3_readItem_0 : decode cX3_readItem 0 = .ok (.iconst 0, 1) := by decide +kernel
theorem dX3_readItem_1 : decode cX3_readItem 1 = .ok (.istore_n 2, 1) := by decide +kernel
theorem dX3_readItem_2 : decode cX3_readItem 2 = .ok (.iload_n 2, 1) := by decide +kernel
theorem dX3_readItem_3 : decode cX3_readItem 3 = .ok (.bipush 7, 2) := by decide +kernel
theorem dX3_readItem_5 : decode cX3_readItem 5 = .ok (.if_icmp .ge 27, 3) := by decide +kernel
theorem dX3_readItem_8 : decode cX3_readItem 8 = .ok (.aload_n 0, 1) := by decide +kernel
theorem dX3_readItem_9 : decode cX3_readItem 9 = .ok (.iload_n 2, 1) := by decide +kernel
theorem dX3_readItem_10 : decode cX3_readItem 10 = .ok (.invokestatic 35, 3) := by decide +kernel
theorem dX3_readItem_13 : decode cX3_readItem 13 = .ok (.invokevirtual 39, 3) := by decide +kernel
theorem dX3_readItem_16 : decode cX3_readItem 16 = .ok (.ifCond .eq 10, 3) := by decide +kernel
theorem dX3_readItem_19 : decode cX3_readItem 19 = .ok (.aload_n 0, 1) := by decide +kernel
theorem dX3_readItem_20 : decode cX3_readItem 20 = .ok (.aload_n 1, 1) := by decide +kernel
theorem dX3_readItem_21 : decode cX3_readItem 21 = .ok (.iload_n 2, 1) := by decide +kernel
theorem dX3_readItem_22 : decode cX3_readItem 22 = .ok (.invokevirtual 43, 3) := by decide +kernel
theorem dX3_readItem_25 : decode cX3_readItem 25 = .ok (.ireturn, 1) := by decide +kernel
theorem dX3_readItem_26 : decode cX3_readItem 26 = .ok (.iinc 2 1, 3) := by decide +kernel
theorem dX3_readItem_29 : decode cX3_readItem 29 = .ok (.goto (-27), 3) := by decide +kernel
theorem dX3_readItem_32 : decode cX3_readItem 32 = .ok (.aload_n 0, 1) := by decide +kernel
theorem dX3_readItem_33 : decode cX3_readItem 33 = .ok (.ldc 47, 2) := by decide +kernel
theorem dX3_readItem_35 : decode cX3_readItem 35 = .ok (.invokevirtual 39, 3) := by decide +kernel
theorem dX3_readItem_38 : decode cX3_readItem 38 = .ok (.ifCond .eq 9, 3) := by decide +kernel
theorem dX3_readItem_41 : decode cX3_readItem 41 = .ok (.aload_n 0, 1) := by decide +kernel
theorem dX3_readItem_42 : decode cX3_readItem 42 = .ok (.aload_n 1, 1) := by decide +kernel
theorem dX3_readItem_43 : decode cX3_readItem 43 = .ok (.invokevirtual 49, 3) := by decide +kernel
theorem dX3_readItem_46 : decode cX3_readItem 46 = .ok (.ireturn, 1) := by decide +kernel
theorem dX3_readItem_47 : decode cX3_readItem 47 = .ok (.aload_n 0, 1) := by decide +kernel
theorem dX3_readItem_48 : decode cX3_readItem 48 = .ok (.ldc 52, 2) := by decide +kernel
theorem dX3_readItem_50 : decode cX3_readItem 50 = .ok (.invokevirtual 39, 3) := by decide +kernel
theorem dX3_readItem_53 : decode cX3_readItem 53 = .ok (.ifCond .eq 9, 3) := by decide +kernel
theorem dX3_readItem_56 : decode cX3_readItem 56 = .ok (.aload_n 0, 1) := by decide +kernel
theorem dX3_readItem_57 : decode cX3_readItem 57 = .ok (.aload_n 1, 1) := by decide +kernel
theorem dX3_readItem_58 : decode cX3_readItem 58 = .ok (.invokevirtual 54, 3) := by decide +kernel
theorem dX3_readItem_61 : decode cX3_readItem 61 = .ok (.ireturn, 1) := by decide +kernel
theorem dX3_readItem_62 : decode cX3_readItem 62 = .ok (.aload_n 0, 1) := by decide +kernel
theorem dX3_readItem_63 : decode cX3_readItem 63 = .ok (.ldc 57, 2) := by decide +kernel
theorem dX3_readItem_65 : decode cX3_readItem 65 = .ok (.invokevirtual 39, 3) := by decide +kernel
theorem dX3_readItem_68 : decode cX3_readItem 68 = .ok (.ifCond .eq 15, 3) := by decide +kernel
theorem dX3_readItem_71 : decode cX3_readItem 71 = .ok (.aload_n 0, 1) := by decide +kernel
theorem dX3_readItem_72 : decode cX3_readItem 72 = .ok (.aload_n 1, 1) := by decide +kernel
theorem dX3_readItem_73 : decode cX3_readItem 73 = .ok (.invokevirtual 59, 3) := by decide +kernel
theorem dX3_readItem_76 : decode cX3_readItem 76 = .ok (.ifCond .eq 7, 3) := by decide +kernel
theorem dX3_readItem_79 : decode cX3_readItem 79 = .ok (.iconst 1, 1) := by decide +kernel
theorem dX3_readItem_80 : decode cX3_readItem 80 = .ok (.goto 4, 3) := by decide +kernel
theorem dX3_readItem_83 : decode cX3_readItem 83 = .ok (.iconst 0, 1) := by decide +kernel
theorem dX3_readItem_84 : decode cX3_readItem 84 = .ok (.ireturn, 1) := by decide +kernel
theorem dX3_readPerson_0 : decode cX3_readPerson 0 = .ok (.aload_n 1, 1) := by decide +kernel
theorem dX3_readPerson_1 : decode cX3_readPerson 1 = .ok (.getfield 62, 3) := by decide +kernel
theorem dX3_readPerson_4 : decode cX3_readPerson 4 = .ok (.bipush 8, 2) := by decide +kernel
theorem dX3_readPerson_6 : decode cX3_readPerson 6 = .ok (.if_icmp .lt 5, 3) := by decide +kernel
theorem dX3_readPerson_9 : decode cX3_readPerson 9 = .ok (.iconst 0, 1) := by decide +kernel
theorem dX3_readPerson_10 : decode cX3_readPerson 10 = .ok (.ireturn, 1) := by decide +kernel
theorem dX3_readPerson_11 : decode cX3_readPerson 11 = .ok (.aload_n 0, 1) := by decide +kernel
theorem dX3_readPerson_12 : decode cX3_readPerson 12 = .ok (.invokevirtual 22, 3) := by decide +kernel
theorem dX3_readPerson_15 : decode cX3_readPerson 15 = .ok (.aload_n 1, 1) := by decide +kernel
theorem dX3_readPerson_16 : decode cX3_readPerson 16 = .ok (.iload_n 2, 1) := by decide +kernel
theorem dX3_readPerson_17 : decode cX3_readPerson 17 = .ok (.iconst 0, 1) := by decide +kernel
theorem dX3_readPerson_18 : decode cX3_readPerson 18 = .ok (.invokevirtual 67, 3) := by decide +kernel
theorem dX3_readPerson_21 : decode cX3_readPerson 21 = .ok (.istore_n 3, 1) := by decide +kernel
theorem dX3_readPerson_22 : decode cX3_readPerson 22 = .ok (.aload_n 0, 1) := by decide +kernel
theorem dX3_readPerson_23 : decode cX3_readPerson 23 = .ok (.ldc 71, 2) := by decide +kernel
theorem dX3_readPerson_25 : decode cX3_readPerson 25 = .ok (.bipush 15, 2) := by decide +kernel
theorem dX3_readPerson_27 : decode cX3_readPerson 27 = .ok (.aload_n 1, 1) := by decide +kernel
theorem dX3_readPerson_28 : decode cX3_readPerson 28 = .ok (.getfield 73, 3) := by decide +kernel
theorem dX3_readPerson_31 : decode cX3_readPerson 31 = .ok (.iload_n 3, 1) := by decide +kernel
theorem dX3_readPerson_32 : decode cX3_readPerson 32 = .ok (.iaload, 1) := by decide +kernel
theorem dX3_readPerson_33 : decode cX3_readPerson 33 = .ok (.invokevirtual 77, 3) := by decide +kernel
theorem dX3_readPerson_36 : decode cX3_readPerson 36 = .ok (.ifCond .ne 5, 3) := by decide +kernel
theorem dX3_readPerson_39 : decode cX3_readPerson 39 = .ok (.iconst 0, 1) := by decide +kernel
theorem dX3_readPerson_40 : decode cX3_readPerson 40 = .ok (.ireturn, 1) := by decide +kernel
theorem dX3_readPerson_41 : decode cX3_readPerson 41 = .ok (.aload_n 1, 1) := by decide +kernel
theorem dX3_readPerson_42 : decode cX3_readPerson 42 = .ok (.iload_n 3, 1) := by decide +kernel
theorem dX3_readPerson_43 : decode cX3_readPerson 43 = .ok (.aload_n 0, 1) := by decide +kernel
theorem dX3_readPerson_44 : decode cX3_readPerson 44 = .ok (.getfield 81, 3) := by decide +kernel
theorem dX3_readPerson_47 : decode cX3_readPerson 47 = .ok (.invokevirtual 84, 3) := by decide +kernel
theorem dX3_readPerson_50 : decode cX3_readPerson 50 = .ok (.aload_n 0, 1) := by decide +kernel
theorem dX3_readPerson_51 : decode cX3_readPerson 51 = .ok (.ldc 88, 2) := by decide +kernel
theorem dX3_readPerson_53 : decode cX3_readPerson 53 = .ok (.bipush 63, 2) := by decide +kernel
theorem dX3_readPerson_55 : decode cX3_readPerson 55 = .ok (.aload_n 1, 1) := by decide +kernel
theorem dX3_readPerson_56 : decode cX3_readPerson 56 = .ok (.getfield 90, 3) := by decide +kernel
theorem dX3_readPerson_59 : decode cX3_readPerson 59 = .ok (.iload_n 3, 1) := by decide +kernel
theorem dX3_readPerson_60 : decode cX3_readPerson 60 = .ok (.iaload, 1) := by decide +kernel
theorem dX3_readPerson_61 : decode cX3_readPerson 61 = .ok (.invokevirtual 77, 3) := by decide +kernel
theorem dX3_readPerson_64 : decode cX3_readPerson 64 = .ok (.ifCond .ne 5, 3) := by decide +kernel
theorem dX3_readPerson_67 : decode cX3_readPerson 67 = .ok (.iconst 0, 1) := by decide +kernel
theorem dX3_readPerson_68 : decode cX3_readPerson 68 = .ok (.ireturn, 1) := by decide +kernel
theorem dX3_readPerson_69 : decode cX3_readPerson 69 = .ok (.aload_n 1, 1) := by decide +kernel
theorem dX3_readPerson_70 : decode cX3_readPerson 70 = .ok (.getfield 90, 3) := by decide +kernel
theorem dX3_readPerson_73 : decode cX3_readPerson 73 = .ok (.iload_n 3, 1) := by decide +kernel
theorem dX3_readPerson_74 : decode cX3_readPerson 74 = .ok (.aload_n 0, 1) := by decide +kernel
theorem dX3_readPerson_75 : decode cX3_readPerson 75 = .ok (.getfield 81, 3) := by decide +kernel
theorem dX3_readPerson_78 : decode cX3_readPerson 78 = .ok (.iastore, 1) := by decide +kernel
theorem dX3_readPerson_79 : decode cX3_readPerson 79 = .ok (.aload_n 0, 1) := by decide +kernel
theorem dX3_readPerson_80 : decode cX3_readPerson 80 = .ok (.ldc 92, 2) := by decide +kernel
theorem dX3_readPerson_82 : decode cX3_readPerson 82 = .ok (.bipush 9, 2) := by decide +kernel
theorem dX3_readPerson_84 : decode cX3_readPerson 84 = .ok (.aload_n 1, 1) := by decide +kernel
theorem dX3_readPerson_85 : decode cX3_readPerson 85 = .ok (.getfield 94, 3) := by decide +kernel
theorem dX3_readPerson_88 : decode cX3_readPerson 88 = .ok (.iload_n 3, 1) := by decide +kernel
theorem dX3_readPerson_89 : decode cX3_readPerson 89 = .ok (.iaload, 1) := by decide +kernel
theorem dX3_readPerson_90 : decode cX3_readPerson 90 = .ok (.invokevirtual 77, 3) := by decide +kernel
theorem dX3_readPerson_93 : decode cX3_readPerson 93 = .ok (.ifCond .ne 5, 3) := by decide +kernel
theorem dX3_readPerson_96 : decode cX3_readPerson 96 = .ok (.iconst 0, 1) := by decide +kernel
theorem dX3_readPerson_97 : decode cX3_readPerson 97 = .ok (.ireturn, 1) := by decide +kernel
theorem dX3_readPerson_98 : decode cX3_readPerson 98 = .ok (.aload_n 1, 1) := by decide +kernel
theorem dX3_readPerson_99 : decode cX3_readPerson 99 = .ok (.getfield 94, 3) := by decide +kernel
theorem dX3_readPerson_102 : decode cX3_readPerson 102 = .ok (.iload_n 3, 1) := by decide +kernel
theorem dX3_readPerson_103 : decode cX3_readPerson 103 = .ok (.aload_n 0, 1) := by decide +kernel
theorem dX3_readPerson_104 : decode cX3_readPerson 104 = .ok (.getfield 81, 3) := by decide +kernel
theorem dX3_readPerson_107 : decode cX3_readPerson 107 = .ok (.iastore, 1) := by decide +kernel
theorem dX3_readPerson_108 : decode cX3_readPerson 108 = .ok (.aload_n 0, 1) := by decide +kernel
theorem dX3_readPerson_109 : decode cX3_readPerson 109 = .ok (.ldc 96, 2) := by decide +kernel
theorem dX3_readPerson_111 : decode cX3_readPerson 111 = .ok (.sipush 9999, 3) := by decide +kernel
theorem dX3_readPerson_114 : decode cX3_readPerson 114 = .ok (.aload_n 1, 1) := by decide +kernel
theorem dX3_readPerson_115 : decode cX3_readPerson 115 = .ok (.getfield 98, 3) := by decide +kernel
theorem dX3_readPerson_118 : decode cX3_readPerson 118 = .ok (.iload_n 3, 1) := by decide +kernel
theorem dX3_readPerson_119 : decode cX3_readPerson 119 = .ok (.iaload, 1) := by decide +kernel
theorem dX3_readPerson_120 : decode cX3_readPerson 120 = .ok (.invokevirtual 77, 3) := by decide +kernel
theorem dX3_readPerson_123 : decode cX3_readPerson 123 = .ok (.ifCond .ne 5, 3) := by decide +kernel
theorem dX3_readPerson_126 : decode cX3_readPerson 126 = .ok (.iconst 0, 1) := by decide +kernel
theorem dX3_readPerson_127 : decode cX3_readPerson 127 = .ok (.ireturn, 1) := by decide +kernel
theorem dX3_readPerson_128 : decode cX3_readPerson 128 = .ok (.aload_n 1, 1) := by decide +kernel
theorem dX3_readPerson_129 : decode cX3_readPerson 129 = .ok (.getfield 98, 3) := by decide +kernel
theorem dX3_readPerson_132 : decode cX3_readPerson 132 = .ok (.iload_n 3, 1) := by decide +kernel
theorem dX3_readPerson_133 : decode cX3_readPerson 133 = .ok (.aload_n 0, 1) := by decide +kernel
theorem dX3_readPerson_134 : decode cX3_readPerson 134 = .ok (.getfield 81, 3) := by decide +kernel
theorem dX3_readPerson_137 : decode cX3_readPerson 137 = .ok (.iastore, 1) := by decide +kernel
theorem dX3_readPerson_138 : decode cX3_readPerson 138 = .ok (.iconst 1, 1) := by decide +kernel
theorem dX3_readPerson_139 : decode cX3_readPerson 139 = .ok (.ireturn, 1) := by decide +kernel
theorem dX3_readJoke_0 : decode cX3_readJoke 0 = .ok (.aload_n 1, 1) := by decide +kernel
theorem dX3_readJoke_1 : decode cX3_readJoke 1 = .ok (.getfield 100, 3) := by decide +kernel
theorem dX3_readJoke_4 : decode cX3_readJoke 4 = .ok (.bipush 8, 2) := by decide +kernel
theorem dX3_readJoke_6 : decode cX3_readJoke 6 = .ok (.if_icmp .lt 5, 3) := by decide +kernel
theorem dX3_readJoke_9 : decode cX3_readJoke 9 = .ok (.iconst 0, 1) := by decide +kernel
theorem dX3_readJoke_10 : decode cX3_readJoke 10 = .ok (.ireturn, 1) := by decide +kernel
theorem dX3_readJoke_11 : decode cX3_readJoke 11 = .ok (.aload_n 0, 1) := by decide +kernel
theorem dX3_readJoke_12 : decode cX3_readJoke 12 = .ok (.invokevirtual 22, 3) := by decide +kernel
theorem dX3_readJoke_15 : decode cX3_readJoke 15 = .ok (.aload_n 0, 1) := by decide +kernel
theorem dX3_readJoke_16 : decode cX3_readJoke 16 = .ok (.iconst 1, 1) := by decide +kernel
theorem dX3_readJoke_17 : decode cX3_readJoke 17 = .ok (.bipush 63, 2) := by decide +kernel
theorem dX3_readJoke_19 : decode cX3_readJoke 19 = .ok (.invokevirtual 103, 3) := by decide +kernel
theorem dX3_readJoke_22 : decode cX3_readJoke 22 = .ok (.ifCond .ne 5, 3) := by decide +kernel
theorem dX3_readJoke_25 : decode cX3_readJoke 25 = .ok (.iconst 0, 1) := by decide +kernel
theorem dX3_readJoke_26 : decode cX3_readJoke 26 = .ok (.ireturn, 1) := by decide +kernel
theorem dX3_readJoke_27 : decode cX3_readJoke 27 = .ok (.aload_n 0, 1) := by decide +kernel
theorem dX3_readJoke_28 : decode cX3_readJoke 28 = .ok (.getfield 81, 3) := by decide +kernel
theorem dX3_readJoke_31 : decode cX3_readJoke 31 = .ok (.istore_n 2, 1) := by decide +kernel
theorem dX3_readJoke_32 : decode cX3_readJoke 32 = .ok (.aload_n 0, 1) := by decide +kernel
theorem dX3_readJoke_33 : decode cX3_readJoke 33 = .ok (.iconst 0, 1) := by decide +kernel
theorem dX3_readJoke_34 : decode cX3_readJoke 34 = .ok (.bipush 9, 2) := by decide +kernel
theorem dX3_readJoke_36 : decode cX3_readJoke 36 = .ok (.invokevirtual 103, 3) := by decide +kernel
theorem dX3_readJoke_39 : decode cX3_readJoke 39 = .ok (.ifCond .ne 5, 3) := by decide +kernel
theorem dX3_readJoke_42 : decode cX3_readJoke 42 = .ok (.iconst 0, 1) := by decide +kernel
theorem dX3_readJoke_43 : decode cX3_readJoke 43 = .ok (.ireturn, 1) := by decide +kernel
theorem dX3_readJoke_44 : decode cX3_readJoke 44 = .ok (.aload_n 1, 1) := by decide +kernel
theorem dX3_readJoke_45 : decode cX3_readJoke 45 = .ok (.iload_n 2, 1) := by decide +kernel
theorem dX3_readJoke_46 : decode cX3_readJoke 46 = .ok (.aload_n 0, 1) := by decide +kernel
theorem dX3_readJoke_47 : decode cX3_readJoke 47 = .ok (.getfield 81, 3) := by decide +kernel
theorem dX3_readJoke_50 : decode cX3_readJoke 50 = .ok (.invokevirtual 107, 3) := by decide +kernel
theorem dX3_readJoke_53 : decode cX3_readJoke 53 = .ok (.pop, 1) := by decide +kernel
theorem dX3_readJoke_54 : decode cX3_readJoke 54 = .ok (.iconst 1, 1) := by decide +kernel
theorem dX3_readJoke_55 : decode cX3_readJoke 55 = .ok (.ireturn, 1) := by decide +kernel
theorem dX3_readRate_0 : decode cX3_readRate 0 = .ok (.aload_n 0, 1) := by decide +kernel
theorem dX3_readRate_1 : decode cX3_readRate 1 = .ok (.invokevirtual 22, 3) := by decide +kernel
theorem dX3_readRate_4 : decode cX3_readRate 4 = .ok (.aload_n 0, 1) := by decide +kernel
theorem dX3_readRate_5 : decode cX3_readRate 5 = .ok (.iconst 0, 1) := by decide +kernel
theorem dX3_readRate_6 : decode cX3_readRate 6 = .ok (.bipush 20, 2) := by decide +kernel
theorem dX3_readRate_8 : decode cX3_readRate 8 = .ok (.invokevirtual 103, 3) := by decide +kernel
theorem dX3_readRate_11 : decode cX3_readRate 11 = .ok (.ifCond .ne 5, 3) := by decide +kernel
theorem dX3_readRate_14 : decode cX3_readRate 14 = .ok (.iconst 0, 1) := by decide +kernel
theorem dX3_readRate_15 : decode cX3_readRate 15 = .ok (.ireturn, 1) := by decide +kernel
theorem dX3_readRate_16 : decode cX3_readRate 16 = .ok (.aload_n 1, 1) := by decide +kernel
theorem dX3_readRate_17 : decode cX3_readRate 17 = .ok (.aload_n 0, 1) := by decide +kernel
theorem dX3_readRate_18 : decode cX3_readRate 18 = .ok (.getfield 81, 3) := by decide +kernel
theorem dX3_readRate_21 : decode cX3_readRate 21 = .ok (.putfield 110, 3) := by decide +kernel
theorem dX3_readRate_24 : decode cX3_readRate 24 = .ok (.iconst 1, 1) := by decide +kernel
theorem dX3_readRate_25 : decode cX3_readRate 25 = .ok (.ireturn, 1) := by decide +kernel
theorem dX3_readReach_0 : decode cX3_readReach 0 = .ok (.aload_n 0, 1) := by decide +kernel
theorem dX3_readReach_1 : decode cX3_readReach 1 = .ok (.invokevirtual 22, 3) := by decide +kernel
theorem dX3_readReach_4 : decode cX3_readReach 4 = .ok (.aload_n 0, 1) := by decide +kernel
theorem dX3_readReach_5 : decode cX3_readReach 5 = .ok (.iconst 0, 1) := by decide +kernel
theorem dX3_readReach_6 : decode cX3_readReach 6 = .ok (.bipush 15, 2) := by decide +kernel
theorem dX3_readReach_8 : decode cX3_readReach 8 = .ok (.invokevirtual 103, 3) := by decide +kernel
theorem dX3_readReach_11 : decode cX3_readReach 11 = .ok (.ifCond .ne 5, 3) := by decide +kernel
theorem dX3_readReach_14 : decode cX3_readReach 14 = .ok (.iconst 0, 1) := by decide +kernel
theorem dX3_readReach_15 : decode cX3_readReach 15 = .ok (.ireturn, 1) := by decide +kernel
theorem dX3_readReach_16 : decode cX3_readReach 16 = .ok (.aload_n 1, 1) := by decide +kernel
theorem dX3_readReach_17 : decode cX3_readReach 17 = .ok (.aload_n 0, 1) := by decide +kernel
theorem dX3_readReach_18 : decode cX3_readReach 18 = .ok (.getfield 81, 3) := by decide +kernel
theorem dX3_readReach_21 : decode cX3_readReach 21 = .ok (.invokevirtual 112, 3) := by decide +kernel
theorem dX3_readReach_24 : decode cX3_readReach 24 = .ok (.iconst 1, 1) := by decide +kernel
theorem dX3_readReach_25 : decode cX3_readReach 25 = .ok (.ireturn, 1) := by decide +kernel
theorem dX3_readPart_0 : decode cX3_readPart 0 = .ok (.aload_n 0, 1) := by decide +kernel
theorem dX3_readPart_1 : decode cX3_readPart 1 = .ok (.aload_n 1, 1) := by decide +kernel
theorem dX3_readPart_2 : decode cX3_readPart 2 = .ok (.invokevirtual 39, 3) := by decide +kernel
theorem dX3_readPart_5 : decode cX3_readPart 5 = .ok (.ifCond .ne 10, 3) := by decide +kernel
theorem dX3_readPart_8 : decode cX3_readPart 8 = .ok (.aload_n 0, 1) := by decide +kernel
theorem dX3_readPart_9 : decode cX3_readPart 9 = .ok (.iload_n 3, 1) := by decide +kernel
theorem dX3_readPart_10 : decode cX3_readPart 10 = .ok (.putfield 81, 3) := by decide +kernel
theorem dX3_readPart_13 : decode cX3_readPart 13 = .ok (.iconst 1, 1) := by decide +kernel
theorem dX3_readPart_14 : decode cX3_readPart 14 = .ok (.ireturn, 1) := by decide +kernel
theorem dX3_readPart_15 : decode cX3_readPart 15 = .ok (.aload_n 0, 1) := by decide +kernel
theorem dX3_readPart_16 : decode cX3_readPart 16 = .ok (.invokevirtual 22, 3) := by decide +kernel
theorem dX3_readPart_19 : decode cX3_readPart 19 = .ok (.aload_n 0, 1) := by decide +kernel
theorem dX3_readPart_20 : decode cX3_readPart 20 = .ok (.iconst 0, 1) := by decide +kernel
theorem dX3_readPart_21 : decode cX3_readPart 21 = .ok (.iload_n 2, 1) := by decide +kernel
theorem dX3_readPart_22 : decode cX3_readPart 22 = .ok (.invokevirtual 103, 3) := by decide +kernel
theorem dX3_readPart_25 : decode cX3_readPart 25 = .ok (.ireturn, 1) := by decide +kernel
theorem dX3_readNumber_0 : decode cX3_readNumber 0 = .ok (.aload_n 0, 1) := by decide +kernel
theorem dX3_readNumber_1 : decode cX3_readNumber 1 = .ok (.getfield 29, 3) := by decide +kernel
theorem dX3_readNumber_4 : decode cX3_readNumber 4 = .ok (.iconst 2, 1) := by decide +kernel
theorem dX3_readNumber_5 : decode cX3_readNumber 5 = .ok (.if_icmp .ne 15, 3) := by decide +kernel
theorem dX3_readNumber_8 : decode cX3_readNumber 8 = .ok (.aload_n 0, 1) := by decide +kernel
theorem dX3_readNumber_9 : decode cX3_readNumber 9 = .ok (.getfield 116, 3) := by decide +kernel
theorem dX3_readNumber_12 : decode cX3_readNumber 12 = .ok (.iload_n 1, 1) := by decide +kernel
theorem dX3_readNumber_13 : decode cX3_readNumber 13 = .ok (.iload_n 2, 1) := by decide +kernel
theorem dX3_readNumber_14 : decode cX3_readNumber 14 = .ok (.invokestatic 119, 3) := by decide +kernel
theorem dX3_readNumber_17 : decode cX3_readNumber 17 = .ok (.ifCond .ne 5, 3) := by decide +kernel
theorem dX3_readNumber_20 : decode cX3_readNumber 20 = .ok (.iconst 0, 1) := by decide +kernel
theorem dX3_readNumber_21 : decode cX3_readNumber 21 = .ok (.ireturn, 1) := by decide +kernel
theorem dX3_readNumber_22 : decode cX3_readNumber 22 = .ok (.aload_n 0, 1) := by decide +kernel
theorem dX3_readNumber_23 : decode cX3_readNumber 23 = .ok (.aload_n 0, 1) := by decide +kernel
theorem dX3_readNumber_24 : decode cX3_readNumber 24 = .ok (.getfield 116, 3) := by decide +kernel
theorem dX3_readNumber_27 : decode cX3_readNumber 27 = .ok (.putfield 81, 3) := by decide +kernel
theorem dX3_readNumber_30 : decode cX3_readNumber 30 = .ok (.aload_n 0, 1) := by decide +kernel
theorem dX3_readNumber_31 : decode cX3_readNumber 31 = .ok (.invokevirtual 22, 3) := by decide +kernel
theorem dX3_readNumber_34 : decode cX3_readNumber 34 = .ok (.iconst 1, 1) := by decide +kernel
theorem dX3_readNumber_35 : decode cX3_readNumber 35 = .ok (.ireturn, 1) := by decide +kernel
theorem dX3_isWord_0 : decode cX3_isWord 0 = .ok (.aload_n 0, 1) := by decide +kernel
theorem dX3_isWord_1 : decode cX3_isWord 1 = .ok (.getfield 29, 3) := by decide +kernel
theorem dX3_isWord_4 : decode cX3_isWord 4 = .ok (.iconst 1, 1) := by decide +kernel
theorem dX3_isWord_5 : decode cX3_isWord 5 = .ok (.if_icmp .ne 19, 3) := by decide +kernel
theorem dX3_isWord_8 : decode cX3_isWord 8 = .ok (.aload_n 0, 1) := by decide +kernel
theorem dX3_isWord_9 : decode cX3_isWord 9 = .ok (.getfield 19, 3) := by decide +kernel
theorem dX3_isWord_12 : decode cX3_isWord 12 = .ok (.aload_n 0, 1) := by decide +kernel
theorem dX3_isWord_13 : decode cX3_isWord 13 = .ok (.getfield 32, 3) := by decide +kernel
theorem dX3_isWord_16 : decode cX3_isWord 16 = .ok (.isub, 1) := by decide +kernel
theorem dX3_isWord_17 : decode cX3_isWord 17 = .ok (.aload_n 1, 1) := by decide +kernel
theorem dX3_isWord_18 : decode cX3_isWord 18 = .ok (.invokevirtual 123, 3) := by decide +kernel
theorem dX3_isWord_21 : decode cX3_isWord 21 = .ok (.if_icmp .eq 5, 3) := by decide +kernel
theorem dX3_isWord_24 : decode cX3_isWord 24 = .ok (.iconst 0, 1) := by decide +kernel
theorem dX3_isWord_25 : decode cX3_isWord 25 = .ok (.ireturn, 1) := by decide +kernel
theorem dX3_isWord_26 : decode cX3_isWord 26 = .ok (.iconst 0, 1) := by decide +kernel
theorem dX3_isWord_27 : decode cX3_isWord 27 = .ok (.istore_n 2, 1) := by decide +kernel
theorem dX3_isWord_28 : decode cX3_isWord 28 = .ok (.iload_n 2, 1) := by decide +kernel
theorem dX3_isWord_29 : decode cX3_isWord 29 = .ok (.aload_n 1, 1) := by decide +kernel
theorem dX3_isWord_30 : decode cX3_isWord 30 = .ok (.invokevirtual 123, 3) := by decide +kernel
theorem dX3_isWord_33 : decode cX3_isWord 33 = .ok (.if_icmp .ge 30, 3) := by decide +kernel
theorem dX3_isWord_36 : decode cX3_isWord 36 = .ok (.aload_n 0, 1) := by decide +kernel
theorem dX3_isWord_37 : decode cX3_isWord 37 = .ok (.getfield 9, 3) := by decide +kernel
theorem dX3_isWord_40 : decode cX3_isWord 40 = .ok (.aload_n 0, 1) := by decide +kernel
theorem dX3_isWord_41 : decode cX3_isWord 41 = .ok (.getfield 32, 3) := by decide +kernel
theorem dX3_isWord_44 : decode cX3_isWord 44 = .ok (.iload_n 2, 1) := by decide +kernel
theorem dX3_isWord_45 : decode cX3_isWord 45 = .ok (.iadd, 1) := by decide +kernel
theorem dX3_isWord_46 : decode cX3_isWord 46 = .ok (.baload, 1) := by decide +kernel
theorem dX3_isWord_47 : decode cX3_isWord 47 = .ok (.aload_n 1, 1) := by decide +kernel
theorem dX3_isWord_48 : decode cX3_isWord 48 = .ok (.iload_n 2, 1) := by decide +kernel
theorem dX3_isWord_49 : decode cX3_isWord 49 = .ok (.invokevirtual 128, 3) := by decide +kernel
theorem dX3_isWord_52 : decode cX3_isWord 52 = .ok (.if_icmp .eq 5, 3) := by decide +kernel
theorem dX3_isWord_55 : decode cX3_isWord 55 = .ok (.iconst 0, 1) := by decide +kernel
theorem dX3_isWord_56 : decode cX3_isWord 56 = .ok (.ireturn, 1) := by decide +kernel
theorem dX3_isWord_57 : decode cX3_isWord 57 = .ok (.iinc 2 1, 3) := by decide +kernel
theorem dX3_isWord_60 : decode cX3_isWord 60 = .ok (.goto (-32), 3) := by decide +kernel
theorem dX3_isWord_63 : decode cX3_isWord 63 = .ok (.iconst 1, 1) := by decide +kernel
theorem dX3_isWord_64 : decode cX3_isWord 64 = .ok (.ireturn, 1) := by decide +kernel
theorem dX3_wordOf_0 : decode cX3_wordOf 0 = .ok (.iload_n 0, 1) := by decide +kernel
theorem dX3_wordOf_1 : decode cX3_wordOf 1 = .ok (.tableswitch 57 0 5 #[39, 42, 45, 48, 51, 54], 39) := by decide +kernel
theorem dX3_wordOf_40 : decode cX3_wordOf 40 = .ok (.ldc 132, 2) := by decide +kernel
theorem dX3_wordOf_42 : decode cX3_wordOf 42 = .ok (.areturn, 1) := by decide +kernel
theorem dX3_wordOf_43 : decode cX3_wordOf 43 = .ok (.ldc 134, 2) := by decide +kernel
theorem dX3_wordOf_45 : decode cX3_wordOf 45 = .ok (.areturn, 1) := by decide +kernel
theorem dX3_wordOf_46 : decode cX3_wordOf 46 = .ok (.ldc 136, 2) := by decide +kernel
theorem dX3_wordOf_48 : decode cX3_wordOf 48 = .ok (.areturn, 1) := by decide +kernel
theorem dX3_wordOf_49 : decode cX3_wordOf 49 = .ok (.ldc 138, 2) := by decide +kernel
theorem dX3_wordOf_51 : decode cX3_wordOf 51 = .ok (.areturn, 1) := by decide +kernel
theorem dX3_wordOf_52 : decode cX3_wordOf 52 = .ok (.ldc 140, 2) := by decide +kernel
theorem dX3_wordOf_54 : decode cX3_wordOf 54 = .ok (.areturn, 1) := by decide +kernel
theorem dX3_wordOf_55 : decode cX3_wordOf 55 = .ok (.ldc 142, 2) := by decide +kernel
theorem dX3_wordOf_57 : decode cX3_wordOf 57 = .ok (.areturn, 1) := by decide +kernel
theorem dX3_wordOf_58 : decode cX3_wordOf 58 = .ok (.ldc 144, 2) := by decide +kernel
theorem dX3_wordOf_60 : decode cX3_wordOf 60 = .ok (.areturn, 1) := by decide +kernel
theorem dX3_step_0 : decode cX3_step 0 = .ok (.aload_n 0, 1) := by decide +kernel
theorem dX3_step_1 : decode cX3_step 1 = .ok (.aload_n 0, 1) := by decide +kernel
theorem dX3_step_2 : decode cX3_step 2 = .ok (.getfield 19, 3) := by decide +kernel
theorem dX3_step_5 : decode cX3_step 5 = .ok (.putfield 32, 3) := by decide +kernel
theorem dX3_step_8 : decode cX3_step 8 = .ok (.aload_n 0, 1) := by decide +kernel
theorem dX3_step_9 : decode cX3_step 9 = .ok (.getfield 32, 3) := by decide +kernel
theorem dX3_step_12 : decode cX3_step 12 = .ok (.aload_n 0, 1) := by decide +kernel
theorem dX3_step_13 : decode cX3_step 13 = .ok (.getfield 15, 3) := by decide +kernel
theorem dX3_step_16 : decode cX3_step 16 = .ok (.if_icmp .ge 30, 3) := by decide +kernel
theorem dX3_step_19 : decode cX3_step 19 = .ok (.aload_n 0, 1) := by decide +kernel
theorem dX3_step_20 : decode cX3_step 20 = .ok (.getfield 9, 3) := by decide +kernel
theorem dX3_step_23 : decode cX3_step 23 = .ok (.aload_n 0, 1) := by decide +kernel
theorem dX3_step_24 : decode cX3_step 24 = .ok (.getfield 32, 3) := by decide +kernel
theorem dX3_step_27 : decode cX3_step 27 = .ok (.baload, 1) := by decide +kernel
theorem dX3_step_28 : decode cX3_step 28 = .ok (.bipush 32, 2) := by decide +kernel
theorem dX3_step_30 : decode cX3_step 30 = .ok (.if_icmp .ne 16, 3) := by decide +kernel
theorem dX3_step_33 : decode cX3_step 33 = .ok (.aload_n 0, 1) := by decide +kernel
theorem dX3_step_34 : decode cX3_step 34 = .ok (.dup, 1) := by decide +kernel
theorem dX3_step_35 : decode cX3_step 35 = .ok (.getfield 32, 3) := by decide +kernel
theorem dX3_step_38 : decode cX3_step 38 = .ok (.iconst 1, 1) := by decide +kernel
theorem dX3_step_39 : decode cX3_step 39 = .ok (.iadd, 1) := by decide +kernel
theorem dX3_step_40 : decode cX3_step 40 = .ok (.putfield 32, 3) := by decide +kernel
theorem dX3_step_43 : decode cX3_step 43 = .ok (.goto (-35), 3) := by decide +kernel
theorem dX3_step_46 : decode cX3_step 46 = .ok (.aload_n 0, 1) := by decide +kernel
theorem dX3_step_47 : decode cX3_step 47 = .ok (.aload_n 0, 1) := by decide +kernel
theorem dX3_step_48 : decode cX3_step 48 = .ok (.getfield 32, 3) := by decide +kernel
theorem dX3_step_51 : decode cX3_step 51 = .ok (.aload_n 0, 1) := by decide +kernel
theorem dX3_step_52 : decode cX3_step 52 = .ok (.getfield 15, 3) := by decide +kernel
theorem dX3_step_55 : decode cX3_step 55 = .ok (.if_icmp .ge 18, 3) := by decide +kernel
theorem dX3_step_58 : decode cX3_step 58 = .ok (.aload_n 0, 1) := by decide +kernel
theorem dX3_step_59 : decode cX3_step 59 = .ok (.getfield 9, 3) := by decide +kernel
theorem dX3_step_62 : decode cX3_step 62 = .ok (.aload_n 0, 1) := by decide +kernel
theorem dX3_step_63 : decode cX3_step 63 = .ok (.getfield 32, 3) := by decide +kernel
theorem dX3_step_66 : decode cX3_step 66 = .ok (.baload, 1) := by decide +kernel
theorem dX3_step_67 : decode cX3_step 67 = .ok (.invokestatic 146, 3) := by decide +kernel
theorem dX3_step_70 : decode cX3_step 70 = .ok (.goto 4, 3) := by decide +kernel
theorem dX3_step_73 : decode cX3_step 73 = .ok (.iconst 0, 1) := by decide +kernel
theorem dX3_step_74 : decode cX3_step 74 = .ok (.putfield 29, 3) := by decide +kernel
theorem dX3_step_77 : decode cX3_step 77 = .ok (.aload_n 0, 1) := by decide +kernel
theorem dX3_step_78 : decode cX3_step 78 = .ok (.aload_n 0, 1) := by decide +kernel
theorem dX3_step_79 : decode cX3_step 79 = .ok (.getfield 32, 3) := by decide +kernel
theorem dX3_step_82 : decode cX3_step 82 = .ok (.putfield 19, 3) := by decide +kernel
theorem dX3_step_85 : decode cX3_step 85 = .ok (.aload_n 0, 1) := by decide +kernel
theorem dX3_step_86 : decode cX3_step 86 = .ok (.iconst 0, 1) := by decide +kernel
theorem dX3_step_87 : decode cX3_step 87 = .ok (.putfield 116, 3) := by decide +kernel
theorem dX3_step_90 : decode cX3_step 90 = .ok (.aload_n 0, 1) := by decide +kernel
theorem dX3_step_91 : decode cX3_step 91 = .ok (.getfield 29, 3) := by decide +kernel
theorem dX3_step_94 : decode cX3_step 94 = .ok (.iconst 1, 1) := by decide +kernel
theorem dX3_step_95 : decode cX3_step 95 = .ok (.if_icmp .eq 11, 3) := by decide +kernel
theorem dX3_step_98 : decode cX3_step 98 = .ok (.aload_n 0, 1) := by decide +kernel
theorem dX3_step_99 : decode cX3_step 99 = .ok (.getfield 29, 3) := by decide +kernel
theorem dX3_step_102 : decode cX3_step 102 = .ok (.iconst 2, 1) := by decide +kernel
theorem dX3_step_103 : decode cX3_step 103 = .ok (.if_icmp .ne 10, 3) := by decide +kernel
theorem dX3_step_106 : decode cX3_step 106 = .ok (.aload_n 0, 1) := by decide +kernel
theorem dX3_step_107 : decode cX3_step 107 = .ok (.getfield 15, 3) := by decide +kernel
theorem dX3_step_110 : decode cX3_step 110 = .ok (.goto 16, 3) := by decide +kernel
theorem dX3_step_113 : decode cX3_step 113 = .ok (.aload_n 0, 1) := by decide +kernel
theorem dX3_step_114 : decode cX3_step 114 = .ok (.getfield 15, 3) := by decide +kernel
theorem dX3_step_117 : decode cX3_step 117 = .ok (.aload_n 0, 1) := by decide +kernel
theorem dX3_step_118 : decode cX3_step 118 = .ok (.getfield 32, 3) := by decide +kernel
theorem dX3_step_121 : decode cX3_step 121 = .ok (.iconst 1, 1) := by decide +kernel
theorem dX3_step_122 : decode cX3_step 122 = .ok (.iadd, 1) := by decide +kernel
theorem dX3_step_123 : decode cX3_step 123 = .ok (.invokestatic 150, 3) := by decide +kernel
theorem dX3_step_126 : decode cX3_step 126 = .ok (.istore_n 1, 1) := by decide +kernel
theorem dX3_step_127 : decode cX3_step 127 = .ok (.aload_n 0, 1) := by decide +kernel
theorem dX3_step_128 : decode cX3_step 128 = .ok (.getfield 19, 3) := by decide +kernel
theorem dX3_step_131 : decode cX3_step 131 = .ok (.iload_n 1, 1) := by decide +kernel
theorem dX3_step_132 : decode cX3_step 132 = .ok (.if_icmp .ge 73, 3) := by decide +kernel
theorem dX3_step_135 : decode cX3_step 135 = .ok (.aload_n 0, 1) := by decide +kernel
theorem dX3_step_136 : decode cX3_step 136 = .ok (.getfield 9, 3) := by decide +kernel
theorem dX3_step_139 : decode cX3_step 139 = .ok (.aload_n 0, 1) := by decide +kernel
theorem dX3_step_140 : decode cX3_step 140 = .ok (.getfield 19, 3) := by decide +kernel
theorem dX3_step_143 : decode cX3_step 143 = .ok (.baload, 1) := by decide +kernel
theorem dX3_step_144 : decode cX3_step 144 = .ok (.invokestatic 146, 3) := by decide +kernel
theorem dX3_step_147 : decode cX3_step 147 = .ok (.aload_n 0, 1) := by decide +kernel
theorem dX3_step_148 : decode cX3_step 148 = .ok (.getfield 29, 3) := by decide +kernel
theorem dX3_step_151 : decode cX3_step 151 = .ok (.if_icmp .ne 54, 3) := by decide +kernel
theorem dX3_step_154 : decode cX3_step 154 = .ok (.aload_n 0, 1) := by decide +kernel
theorem dX3_step_155 : decode cX3_step 155 = .ok (.getfield 29, 3) := by decide +kernel
theorem dX3_step_158 : decode cX3_step 158 = .ok (.iconst 2, 1) := by decide +kernel
theorem dX3_step_159 : decode cX3_step 159 = .ok (.if_icmp .ne 33, 3) := by decide +kernel
theorem dX3_step_162 : decode cX3_step 162 = .ok (.aload_n 0, 1) := by decide +kernel
theorem dX3_step_163 : decode cX3_step 163 = .ok (.sipush 10000, 3) := by decide +kernel
theorem dX3_step_166 : decode cX3_step 166 = .ok (.aload_n 0, 1) := by decide +kernel
theorem dX3_step_167 : decode cX3_step 167 = .ok (.getfield 116, 3) := by decide +kernel
theorem dX3_step_170 : decode cX3_step 170 = .ok (.bipush 10, 2) := by decide +kernel
theorem dX3_step_172 : decode cX3_step 172 = .ok (.imul, 1) := by decide +kernel
theorem dX3_step_173 : decode cX3_step 173 = .ok (.aload_n 0, 1) := by decide +kernel
theorem dX3_step_174 : decode cX3_step 174 = .ok (.getfield 9, 3) := by decide +kernel
theorem dX3_step_177 : decode cX3_step 177 = .ok (.aload_n 0, 1) := by decide +kernel
theorem dX3_step_178 : decode cX3_step 178 = .ok (.getfield 19, 3) := by decide +kernel
theorem dX3_step_181 : decode cX3_step 181 = .ok (.baload, 1) := by decide +kernel
theorem dX3_step_182 : decode cX3_step 182 = .ok (.bipush 48, 2) := by decide +kernel
theorem dX3_step_184 : decode cX3_step 184 = .ok (.isub, 1) := by decide +kernel
theorem dX3_step_185 : decode cX3_step 185 = .ok (.iadd, 1) := by decide +kernel
theorem dX3_step_186 : decode cX3_step 186 = .ok (.invokestatic 150, 3) := by decide +kernel
theorem dX3_step_189 : decode cX3_step 189 = .ok (.putfield 116, 3) := by decide +kernel
theorem dX3_step_192 : decode cX3_step 192 = .ok (.aload_n 0, 1) := by decide +kernel
theorem dX3_step_193 : decode cX3_step 193 = .ok (.dup, 1) := by decide +kernel
theorem dX3_step_194 : decode cX3_step 194 = .ok (.getfield 19, 3) := by decide +kernel
theorem dX3_step_197 : decode cX3_step 197 = .ok (.iconst 1, 1) := by decide +kernel
theorem dX3_step_198 : decode cX3_step 198 = .ok (.iadd, 1) := by decide +kernel
theorem dX3_step_199 : decode cX3_step 199 = .ok (.putfield 19, 3) := by decide +kernel
theorem dX3_step_202 : decode cX3_step 202 = .ok (.goto (-75), 3) := by decide +kernel
theorem dX3_step_205 : decode cX3_step 205 = .ok (.return_, 1) := by decide +kernel
theorem dX3_tokenOf_0 : decode cX3_tokenOf 0 = .ok (.iload_n 0, 1) := by decide +kernel
theorem dX3_tokenOf_1 : decode cX3_tokenOf 1 = .ok (.bipush 97, 2) := by decide +kernel
theorem dX3_tokenOf_3 : decode cX3_tokenOf 3 = .ok (.if_icmp .lt 11, 3) := by decide +kernel
theorem dX3_tokenOf_6 : decode cX3_tokenOf 6 = .ok (.iload_n 0, 1) := by decide +kernel
theorem dX3_tokenOf_7 : decode cX3_tokenOf 7 = .ok (.bipush 122, 2) := by decide +kernel
theorem dX3_tokenOf_9 : decode cX3_tokenOf 9 = .ok (.if_icmp .gt 5, 3) := by decide +kernel
theorem dX3_tokenOf_12 : decode cX3_tokenOf 12 = .ok (.iconst 1, 1) := by decide +kernel
theorem dX3_tokenOf_13 : decode cX3_tokenOf 13 = .ok (.ireturn, 1) := by decide +kernel
theorem dX3_tokenOf_14 : decode cX3_tokenOf 14 = .ok (.iload_n 0, 1) := by decide +kernel
theorem dX3_tokenOf_15 : decode cX3_tokenOf 15 = .ok (.bipush 48, 2) := by decide +kernel
theorem dX3_tokenOf_17 : decode cX3_tokenOf 17 = .ok (.if_icmp .lt 11, 3) := by decide +kernel
theorem dX3_tokenOf_20 : decode cX3_tokenOf 20 = .ok (.iload_n 0, 1) := by decide +kernel
theorem dX3_tokenOf_21 : decode cX3_tokenOf 21 = .ok (.bipush 57, 2) := by decide +kernel
theorem dX3_tokenOf_23 : decode cX3_tokenOf 23 = .ok (.if_icmp .gt 5, 3) := by decide +kernel
theorem dX3_tokenOf_26 : decode cX3_tokenOf 26 = .ok (.iconst 2, 1) := by decide +kernel
theorem dX3_tokenOf_27 : decode cX3_tokenOf 27 = .ok (.ireturn, 1) := by decide +kernel
theorem dX3_tokenOf_28 : decode cX3_tokenOf 28 = .ok (.iload_n 0, 1) := by decide +kernel
theorem dX3_tokenOf_29 : decode cX3_tokenOf 29 = .ok (.bipush 59, 2) := by decide +kernel
theorem dX3_tokenOf_31 : decode cX3_tokenOf 31 = .ok (.if_icmp .ne 7, 3) := by decide +kernel
theorem dX3_tokenOf_34 : decode cX3_tokenOf 34 = .ok (.iconst 3, 1) := by decide +kernel
theorem dX3_tokenOf_35 : decode cX3_tokenOf 35 = .ok (.goto 4, 3) := by decide +kernel
theorem dX3_tokenOf_38 : decode cX3_tokenOf 38 = .ok (.iconst 4, 1) := by decide +kernel
theorem dX3_tokenOf_39 : decode cX3_tokenOf 39 = .ok (.ireturn, 1) := by decide +kernel
theorem dX4_init_0 : decode cX4_init 0 = .ok (.aload_n 0, 1) := by decide +kernel
theorem dX4_init_1 : decode cX4_init 1 = .ok (.invokespecial 3, 3) := by decide +kernel
theorem dX4_init_4 : decode cX4_init 4 = .ok (.aload_n 0, 1) := by decide +kernel
theorem dX4_init_5 : decode cX4_init 5 = .ok (.bipush 8, 2) := by decide +kernel
theorem dX4_init_7 : decode cX4_init 7 = .ok (.newarray .int, 2) := by decide +kernel
theorem dX4_init_9 : decode cX4_init 9 = .ok (.putfield 9, 3) := by decide +kernel
theorem dX4_init_12 : decode cX4_init 12 = .ok (.aload_n 0, 1) := by decide +kernel
theorem dX4_init_13 : decode cX4_init 13 = .ok (.bipush 8, 2) := by decide +kernel
theorem dX4_init_15 : decode cX4_init 15 = .ok (.newarray .int, 2) := by decide +kernel
theorem dX4_init_17 : decode cX4_init 17 = .ok (.putfield 15, 3) := by decide +kernel
theorem dX4_init_20 : decode cX4_init 20 = .ok (.return_, 1) := by decide +kernel
theorem dX4_startersOf_0 : decode cX4_startersOf 0 = .ok (.iconst 0, 1) := by decide +kernel
theorem dX4_startersOf_1 : decode cX4_startersOf 1 = .ok (.istore 4, 2) := by decide +kernel
theorem dX4_startersOf_3 : decode cX4_startersOf 3 = .ok (.iconst 0, 1) := by decide +kernel
theorem dX4_startersOf_4 : decode cX4_startersOf 4 = .ok (.istore 5, 2) := by decide +kernel
theorem dX4_startersOf_6 : decode cX4_startersOf 6 = .ok (.iload 5, 2) := by decide +kernel
theorem dX4_startersOf_8 : decode cX4_startersOf 8 = .ok (.aload_n 1, 1) := by decide +kernel
theorem dX4_startersOf_9 : decode cX4_startersOf 9 = .ok (.getfield 18, 3) := by decide +kernel
theorem dX4_startersOf_12 : decode cX4_startersOf 12 = .ok (.if_icmp .ge 46, 3) := by decide +kernel
theorem dX4_startersOf_15 : decode cX4_startersOf 15 = .ok (.aload_n 1, 1) := by decide +kernel
theorem dX4_startersOf_16 : decode cX4_startersOf 16 = .ok (.iload 5, 2) := by decide +kernel
theorem dX4_startersOf_18 : decode cX4_startersOf 18 = .ok (.iload_n 2, 1) := by decide +kernel
theorem dX4_startersOf_19 : decode cX4_startersOf 19 = .ok (.iload_n 3, 1) := by decide +kernel
theorem dX4_startersOf_20 : decode cX4_startersOf 20 = .ok (.invokevirtual 24, 3) := by decide +kernel
theorem dX4_startersOf_23 : decode cX4_startersOf 23 = .ok (.aload_n 1, 1) := by decide +kernel
theorem dX4_startersOf_24 : decode cX4_startersOf 24 = .ok (.getfield 28, 3) := by decide +kernel
theorem dX4_startersOf_27 : decode cX4_startersOf 27 = .ok (.iload 5, 2) := by decide +kernel
theorem dX4_startersOf_29 : decode cX4_startersOf 29 = .ok (.iaload, 1) := by decide +kernel
theorem dX4_startersOf_30 : decode cX4_startersOf 30 = .ok (.aload_n 1, 1) := by decide +kernel
theorem dX4_startersOf_31 : decode cX4_startersOf 31 = .ok (.getfield 31, 3) := by decide +kernel
theorem dX4_startersOf_34 : decode cX4_startersOf 34 = .ok (.iload 5, 2) := by decide +kernel
theorem dX4_startersOf_36 : decode cX4_startersOf 36 = .ok (.iaload, 1) := by decide +kernel
theorem dX4_startersOf_37 : decode cX4_startersOf 37 = .ok (.invokestatic 34, 3) := by decide +kernel
theorem dX4_startersOf_40 : decode cX4_startersOf 40 = .ok (.if_icmp .lt 12, 3) := by decide +kernel
theorem dX4_startersOf_43 : decode cX4_startersOf 43 = .ok (.iload 4, 2) := by decide +kernel
theorem dX4_startersOf_45 : decode cX4_startersOf 45 = .ok (.iconst 1, 1) := by decide +kernel
theorem dX4_startersOf_46 : decode cX4_startersOf 46 = .ok (.iload 5, 2) := by decide +kernel
theorem dX4_startersOf_48 : decode cX4_startersOf 48 = .ok (.ishl, 1) := by decide +kernel
theorem dX4_startersOf_49 : decode cX4_startersOf 49 = .ok (.ior, 1) := by decide +kernel
theorem dX4_startersOf_50 : decode cX4_startersOf 50 = .ok (.istore 4, 2) := by decide +kernel
theorem dX4_startersOf_52 : decode cX4_startersOf 52 = .ok (.iinc 5 1, 3) := by decide +kernel
theorem dX4_startersOf_55 : decode cX4_startersOf 55 = .ok (.goto (-49), 3) := by decide +kernel
theorem dX4_startersOf_58 : decode cX4_startersOf 58 = .ok (.iload 4, 2) := by decide +kernel
theorem dX4_startersOf_60 : decode cX4_startersOf 60 = .ok (.ireturn, 1) := by decide +kernel
theorem dX4_laughersOf_0 : decode cX4_laughersOf 0 = .ok (.aload_n 0, 1) := by decide +kernel
theorem dX4_laughersOf_1 : decode cX4_laughersOf 1 = .ok (.aload_n 1, 1) := by decide +kernel
theorem dX4_laughersOf_2 : decode cX4_laughersOf 2 = .ok (.aload_n 1, 1) := by decide +kernel
theorem dX4_laughersOf_3 : decode cX4_laughersOf 3 = .ok (.getfield 40, 3) := by decide +kernel
theorem dX4_laughersOf_6 : decode cX4_laughersOf 6 = .ok (.iload_n 2, 1) := by decide +kernel
theorem dX4_laughersOf_7 : decode cX4_laughersOf 7 = .ok (.iaload, 1) := by decide +kernel
theorem dX4_laughersOf_8 : decode cX4_laughersOf 8 = .ok (.aload_n 1, 1) := by decide +kernel
theorem dX4_laughersOf_9 : decode cX4_laughersOf 9 = .ok (.getfield 43, 3) := by decide +kernel
theorem dX4_laughersOf_12 : decode cX4_laughersOf 12 = .ok (.iload_n 2, 1) := by decide +kernel
theorem dX4_laughersOf_13 : decode cX4_laughersOf 13 = .ok (.iaload, 1) := by decide +kernel
theorem dX4_laughersOf_14 : decode cX4_laughersOf 14 = .ok (.invokevirtual 46, 3) := by decide +kernel
theorem dX4_laughersOf_17 : decode cX4_laughersOf 17 = .ok (.istore_n 3, 1) := by decide +kernel
theorem dX4_laughersOf_18 : decode cX4_laughersOf 18 = .ok (.aload_n 0, 1) := by decide +kernel
theorem dX4_laughersOf_19 : decode cX4_laughersOf 19 = .ok (.aload_n 1, 1) := by decide +kernel
theorem dX4_laughersOf_20 : decode cX4_laughersOf 20 = .ok (.iload_n 3, 1) := by decide +kernel
theorem dX4_laughersOf_21 : decode cX4_laughersOf 21 = .ok (.aload_n 1, 1) := by decide +kernel
theorem dX4_laughersOf_22 : decode cX4_laughersOf 22 = .ok (.invokevirtual 50, 3) := by decide +kernel
theorem dX4_laughersOf_25 : decode cX4_laughersOf 25 = .ok (.invokevirtual 54, 3) := by decide +kernel
theorem dX4_laughersOf_28 : decode cX4_laughersOf 28 = .ok (.ireturn, 1) := by decide +kernel
theorem dX4_spread_0 : decode cX4_spread 0 = .ok (.iload_n 2, 1) := by decide +kernel
theorem dX4_spread_1 : decode cX4_spread 1 = .ok (.istore 4, 2) := by decide +kernel
theorem dX4_spread_3 : decode cX4_spread 3 = .ok (.aload_n 0, 1) := by decide +kernel
theorem dX4_spread_4 : decode cX4_spread 4 = .ok (.iconst 0, 1) := by decide +kernel
theorem dX4_spread_5 : decode cX4_spread 5 = .ok (.putfield 57, 3) := by decide +kernel
theorem dX4_spread_8 : decode cX4_spread 8 = .ok (.aload_n 0, 1) := by decide +kernel
theorem dX4_spread_9 : decode cX4_spread 9 = .ok (.iload_n 2, 1) := by decide +kernel
theorem dX4_spread_10 : decode cX4_spread 10 = .ok (.iconst 0, 1) := by decide +kernel
theorem dX4_spread_11 : decode cX4_spread 11 = .ok (.invokevirtual 60, 3) := by decide +kernel
theorem dX4_spread_14 : decode cX4_spread 14 = .ok (.iconst 1, 1) := by decide +kernel
theorem dX4_spread_15 : decode cX4_spread 15 = .ok (.istore 5, 2) := by decide +kernel
theorem dX4_spread_17 : decode cX4_spread 17 = .ok (.iload 5, 2) := by decide +kernel
theorem dX4_spread_19 : decode cX4_spread 19 = .ok (.bipush 8, 2) := by decide +kernel
theorem dX4_spread_21 : decode cX4_spread 21 = .ok (.if_icmp .gt 53, 3) := by decide +kernel
theorem dX4_spread_24 : decode cX4_spread 24 = .ok (.aload_n 0, 1) := by decide +kernel
theorem dX4_spread_25 : decode cX4_spread 25 = .ok (.aload_n 1, 1) := by decide +kernel
theorem dX4_spread_26 : decode cX4_spread 26 = .ok (.iload 4, 2) := by decide +kernel
theorem dX4_spread_28 : decode cX4_spread 28 = .ok (.iload_n 3, 1) := by decide +kernel
theorem dX4_spread_29 : decode cX4_spread 29 = .ok (.iload 4, 2) := by decide +kernel
theorem dX4_spread_31 : decode cX4_spread 31 = .ok (.iconst (-1), 1) := by decide +kernel
theorem dX4_spread_32 : decode cX4_spread 32 = .ok (.ixor, 1) := by decide +kernel
theorem dX4_spread_33 : decode cX4_spread 33 = .ok (.iand, 1) := by decide +kernel
theorem dX4_spread_34 : decode cX4_spread 34 = .ok (.invokevirtual 64, 3) := by decide +kernel
theorem dX4_spread_37 : decode cX4_spread 37 = .ok (.istore 6, 2) := by decide +kernel
theorem dX4_spread_39 : decode cX4_spread 39 = .ok (.iload 6, 2) := by decide +kernel
theorem dX4_spread_41 : decode cX4_spread 41 = .ok (.ifCond .ne 6, 3) := by decide +kernel
theorem dX4_spread_44 : decode cX4_spread 44 = .ok (.goto 30, 3) := by decide +kernel
theorem dX4_spread_47 : decode cX4_spread 47 = .ok (.aload_n 0, 1) := by decide +kernel
theorem dX4_spread_48 : decode cX4_spread 48 = .ok (.iload 5, 2) := by decide +kernel
theorem dX4_spread_50 : decode cX4_spread 50 = .ok (.putfield 57, 3) := by decide +kernel
theorem dX4_spread_53 : decode cX4_spread 53 = .ok (.aload_n 0, 1) := by decide +kernel
theorem dX4_spread_54 : decode cX4_spread 54 = .ok (.iload 6, 2) := by decide +kernel
theorem dX4_spread_56 : decode cX4_spread 56 = .ok (.iload 5, 2) := by decide +kernel
theorem dX4_spread_58 : decode cX4_spread 58 = .ok (.invokevirtual 60, 3) := by decide +kernel
theorem dX4_spread_61 : decode cX4_spread 61 = .ok (.iload 4, 2) := by decide +kernel
theorem dX4_spread_63 : decode cX4_spread 63 = .ok (.iload 6, 2) := by decide +kernel
theorem dX4_spread_65 : decode cX4_spread 65 = .ok (.ior, 1) := by decide +kernel
theorem dX4_spread_66 : decode cX4_spread 66 = .ok (.istore 4, 2) := by decide +kernel
theorem dX4_spread_68 : decode cX4_spread 68 = .ok (.iinc 5 1, 3) := by decide +kernel
theorem dX4_spread_71 : decode cX4_spread 71 = .ok (.goto (-54), 3) := by decide +kernel
theorem dX4_spread_74 : decode cX4_spread 74 = .ok (.iload 4, 2) := by decide +kernel
theorem dX4_spread_76 : decode cX4_spread 76 = .ok (.ireturn, 1) := by decide +kernel
theorem dX4_catchersFrom_0 : decode cX4_catchersFrom 0 = .ok (.iconst 0, 1) := by decide +kernel
theorem dX4_catchersFrom_1 : decode cX4_catchersFrom 1 = .ok (.istore 4, 2) := by decide +kernel
theorem dX4_catchersFrom_3 : decode cX4_catchersFrom 3 = .ok (.iconst 0, 1) := by decide +kernel
theorem dX4_catchersFrom_4 : decode cX4_catchersFrom 4 = .ok (.istore 5, 2) := by decide +kernel
theorem dX4_catchersFrom_6 : decode cX4_catchersFrom 6 = .ok (.iload 5, 2) := by decide +kernel
theorem dX4_catchersFrom_8 : decode cX4_catchersFrom 8 = .ok (.aload_n 1, 1) := by decide +kernel
theorem dX4_catchersFrom_9 : decode cX4_catchersFrom 9 = .ok (.getfield 18, 3) := by decide +kernel
theorem dX4_catchersFrom_12 : decode cX4_catchersFrom 12 = .ok (.if_icmp .ge 63, 3) := by decide +kernel
theorem dX4_catchersFrom_15 : decode cX4_catchersFrom 15 = .ok (.aload_n 1, 1) := by decide +kernel
theorem dX4_catchersFrom_16 : decode cX4_catchersFrom 16 = .ok (.getfield 67, 3) := by decide +kernel
theorem dX4_catchersFrom_19 : decode cX4_catchersFrom 19 = .ok (.iload 5, 2) := by decide +kernel
theorem dX4_catchersFrom_21 : decode cX4_catchersFrom 21 = .ok (.iaload, 1) := by decide +kernel
theorem dX4_catchersFrom_22 : decode cX4_catchersFrom 22 = .ok (.iload_n 2, 1) := by decide +kernel
theorem dX4_catchersFrom_23 : decode cX4_catchersFrom 23 = .ok (.iand, 1) := by decide +kernel
theorem dX4_catchersFrom_24 : decode cX4_catchersFrom 24 = .ok (.invokestatic 70, 3) := by decide +kernel
theorem dX4_catchersFrom_27 : decode cX4_catchersFrom 27 = .ok (.istore 6, 2) := by decide +kernel
theorem dX4_catchersFrom_29 : decode cX4_catchersFrom 29 = .ok (.iload_n 3, 1) := by decide +kernel
theorem dX4_catchersFrom_30 : decode cX4_catchersFrom 30 = .ok (.iload 5, 2) := by decide +kernel
theorem dX4_catchersFrom_32 : decode cX4_catchersFrom 32 = .ok (.invokestatic 76, 3) := by decide +kernel
theorem dX4_catchersFrom_35 : decode cX4_catchersFrom 35 = .ok (.ifCond .eq 34, 3) := by decide +kernel
theorem dX4_catchersFrom_38 : decode cX4_catchersFrom 38 = .ok (.iload 6, 2) := by decide +kernel
theorem dX4_catchersFrom_40 : decode cX4_catchersFrom 40 = .ok (.aload_n 1, 1) := by decide +kernel
theorem dX4_catchersFrom_41 : decode cX4_catchersFrom 41 = .ok (.getfield 28, 3) := by decide +kernel
theorem dX4_catchersFrom_44 : decode cX4_catchersFrom 44 = .ok (.iload 5, 2) := by decide +kernel
theorem dX4_catchersFrom_46 : decode cX4_catchersFrom 46 = .ok (.iaload, 1) := by decide +kernel
theorem dX4_catchersFrom_47 : decode cX4_catchersFrom 47 = .ok (.aload_n 1, 1) := by decide +kernel
theorem dX4_catchersFrom_48 : decode cX4_catchersFrom 48 = .ok (.getfield 80, 3) := by decide +kernel
theorem dX4_catchersFrom_51 : decode cX4_catchersFrom 51 = .ok (.iload 5, 2) := by decide +kernel
theorem dX4_catchersFrom_53 : decode cX4_catchersFrom 53 = .ok (.iaload, 1) := by decide +kernel
theorem dX4_catchersFrom_54 : decode cX4_catchersFrom 54 = .ok (.invokestatic 83, 3) := by decide +kernel
theorem dX4_catchersFrom_57 : decode cX4_catchersFrom 57 = .ok (.if_icmp .lt 12, 3) := by decide +kernel
theorem dX4_catchersFrom_60 : decode cX4_catchersFrom 60 = .ok (.iload 4, 2) := by decide +kernel
theorem dX4_catchersFrom_62 : decode cX4_catchersFrom 62 = .ok (.iconst 1, 1) := by decide +kernel
theorem dX4_catchersFrom_63 : decode cX4_catchersFrom 63 = .ok (.iload 5, 2) := by decide +kernel
theorem dX4_catchersFrom_65 : decode cX4_catchersFrom 65 = .ok (.ishl, 1) := by decide +kernel
theorem dX4_catchersFrom_66 : decode cX4_catchersFrom 66 = .ok (.ior, 1) := by decide +kernel
theorem dX4_catchersFrom_67 : decode cX4_catchersFrom 67 = .ok (.istore 4, 2) := by decide +kernel
theorem dX4_catchersFrom_69 : decode cX4_catchersFrom 69 = .ok (.iinc 5 1, 3) := by decide +kernel
theorem dX4_catchersFrom_72 : decode cX4_catchersFrom 72 = .ok (.goto (-66), 3) := by decide +kernel
theorem dX4_catchersFrom_75 : decode cX4_catchersFrom 75 = .ok (.iload 4, 2) := by decide +kernel
theorem dX4_catchersFrom_77 : decode cX4_catchersFrom 77 = .ok (.ireturn, 1) := by decide +kernel
theorem dX4_noteRound_0 : decode cX4_noteRound 0 = .ok (.iconst 0, 1) := by decide +kernel
theorem dX4_noteRound_1 : decode cX4_noteRound 1 = .ok (.istore_n 3, 1) := by decide +kernel
theorem dX4_noteRound_2 : decode cX4_noteRound 2 = .ok (.iload_n 3, 1) := by decide +kernel
theorem dX4_noteRound_3 : decode cX4_noteRound 3 = .ok (.bipush 8, 2) := by decide +kernel
theorem dX4_noteRound_5 : decode cX4_noteRound 5 = .ok (.if_icmp .ge 24, 3) := by decide +kernel
theorem dX4_noteRound_8 : decode cX4_noteRound 8 = .ok (.iload_n 1, 1) := by decide +kernel
theorem dX4_noteRound_9 : decode cX4_noteRound 9 = .ok (.iload_n 3, 1) := by decide +kernel
theorem dX4_noteRound_10 : decode cX4_noteRound 10 = .ok (.invokestatic 76, 3) := by decide +kernel
theorem dX4_noteRound_13 : decode cX4_noteRound 13 = .ok (.ifCond .eq 10, 3) := by decide +kernel
theorem dX4_noteRound_16 : decode cX4_noteRound 16 = .ok (.aload_n 0, 1) := by decide +kernel
theorem dX4_noteRound_17 : decode cX4_noteRound 17 = .ok (.getfield 9, 3) := by decide +kernel
theorem dX4_noteRound_20 : decode cX4_noteRound 20 = .ok (.iload_n 3, 1) := by decide +kernel
theorem dX4_noteRound_21 : decode cX4_noteRound 21 = .ok (.iload_n 2, 1) := by decide +kernel
theorem dX4_noteRound_22 : decode cX4_noteRound 22 = .ok (.iastore, 1) := by decide +kernel
theorem dX4_noteRound_23 : decode cX4_noteRound 23 = .ok (.iinc 3 1, 3) := by decide +kernel
theorem dX4_noteRound_26 : decode cX4_noteRound 26 = .ok (.goto (-24), 3) := by decide +kernel
theorem dX4_noteRound_29 : decode cX4_noteRound 29 = .ok (.return_, 1) := by decide +kernel
theorem dX4_perform_0 : decode cX4_perform 0 = .ok (.aload_n 0, 1) := by decide +kernel
theorem dX4_perform_1 : decode cX4_perform 1 = .ok (.aload_n 1, 1) := by decide +kernel
theorem dX4_perform_2 : decode cX4_perform 2 = .ok (.iload_n 2, 1) := by decide +kernel
theorem dX4_perform_3 : decode cX4_perform 3 = .ok (.invokevirtual 86, 3) := by decide +kernel
theorem dX4_perform_6 : decode cX4_perform 6 = .ok (.istore_n 3, 1) := by decide +kernel
theorem dX4_perform_7 : decode cX4_perform 7 = .ok (.iconst 0, 1) := by decide +kernel
theorem dX4_perform_8 : decode cX4_perform 8 = .ok (.istore 4, 2) := by decide +kernel
theorem dX4_perform_10 : decode cX4_perform 10 = .ok (.iload 4, 2) := by decide +kernel
theorem dX4_perform_12 : decode cX4_perform 12 = .ok (.aload_n 1, 1) := by decide +kernel
theorem dX4_perform_13 : decode cX4_perform 13 = .ok (.getfield 18, 3) := by decide +kernel
theorem dX4_perform_16 : decode cX4_perform 16 = .ok (.if_icmp .ge 64, 3) := by decide +kernel
theorem dX4_perform_19 : decode cX4_perform 19 = .ok (.aload_n 1, 1) := by decide +kernel
theorem dX4_perform_20 : decode cX4_perform 20 = .ok (.iload 4, 2) := by decide +kernel
theorem dX4_perform_22 : decode cX4_perform 22 = .ok (.aload_n 1, 1) := by decide +kernel
theorem dX4_perform_23 : decode cX4_perform 23 = .ok (.getfield 40, 3) := by decide +kernel
theorem dX4_perform_26 : decode cX4_perform 26 = .ok (.iload_n 2, 1) := by decide +kernel
theorem dX4_perform_27 : decode cX4_perform 27 = .ok (.iaload, 1) := by decide +kernel
theorem dX4_perform_28 : decode cX4_perform 28 = .ok (.aload_n 1, 1) := by decide +kernel
theorem dX4_perform_29 : decode cX4_perform 29 = .ok (.getfield 43, 3) := by decide +kernel
theorem dX4_perform_32 : decode cX4_perform 32 = .ok (.iload_n 2, 1) := by decide +kernel
theorem dX4_perform_33 : decode cX4_perform 33 = .ok (.iaload, 1) := by decide +kernel
theorem dX4_perform_34 : decode cX4_perform 34 = .ok (.invokevirtual 24, 3) := by decide +kernel
theorem dX4_perform_37 : decode cX4_perform 37 = .ok (.istore 5, 2) := by decide +kernel
theorem dX4_perform_39 : decode cX4_perform 39 = .ok (.aload_n 0, 1) := by decide +kernel
theorem dX4_perform_40 : decode cX4_perform 40 = .ok (.getfield 15, 3) := by decide +kernel
theorem dX4_perform_43 : decode cX4_perform 43 = .ok (.iload 4, 2) := by decide +kernel
theorem dX4_perform_45 : decode cX4_perform 45 = .ok (.iload_n 3, 1) := by decide +kernel
theorem dX4_perform_46 : decode cX4_perform 46 = .ok (.iload 4, 2) := by decide +kernel
theorem dX4_perform_48 : decode cX4_perform 48 = .ok (.invokestatic 76, 3) := by decide +kernel
theorem dX4_perform_51 : decode cX4_perform 51 = .ok (.ifCond .eq 21, 3) := by decide +kernel
theorem dX4_perform_54 : decode cX4_perform 54 = .ok (.aload_n 0, 1) := by decide +kernel
theorem dX4_perform_55 : decode cX4_perform 55 = .ok (.aload_n 1, 1) := by decide +kernel
theorem dX4_perform_56 : decode cX4_perform 56 = .ok (.iload 4, 2) := by decide +kernel
theorem dX4_perform_58 : decode cX4_perform 58 = .ok (.aload_n 1, 1) := by decide +kernel
theorem dX4_perform_59 : decode cX4_perform 59 = .ok (.iload 4, 2) := by decide +kernel
theorem dX4_perform_61 : decode cX4_perform 61 = .ok (.iload 5, 2) := by decide +kernel
theorem dX4_perform_63 : decode cX4_perform 63 = .ok (.invokevirtual 90, 3) := by decide +kernel
theorem dX4_perform_66 : decode cX4_perform 66 = .ok (.invokevirtual 93, 3) := by decide +kernel
theorem dX4_perform_69 : decode cX4_perform 69 = .ok (.goto 4, 3) := by decide +kernel
theorem dX4_perform_72 : decode cX4_perform 72 = .ok (.iconst 0, 1) := by decide +kernel
theorem dX4_perform_73 : decode cX4_perform 73 = .ok (.iastore, 1) := by decide +kernel
theorem dX4_perform_74 : decode cX4_perform 74 = .ok (.iinc 4 1, 3) := by decide +kernel
theorem dX4_perform_77 : decode cX4_perform 77 = .ok (.goto (-67), 3) := by decide +kernel
theorem dX4_perform_80 : decode cX4_perform 80 = .ok (.iconst 0, 1) := by decide +kernel
theorem dX4_perform_81 : decode cX4_perform 81 = .ok (.istore 4, 2) := by decide +kernel
theorem dX4_perform_83 : decode cX4_perform 83 = .ok (.iload 4, 2) := by decide +kernel
theorem dX4_perform_85 : decode cX4_perform 85 = .ok (.aload_n 1, 1) := by decide +kernel
theorem dX4_perform_86 : decode cX4_perform 86 = .ok (.getfield 18, 3) := by decide +kernel
theorem dX4_perform_89 : decode cX4_perform 89 = .ok (.if_icmp .ge 51, 3) := by decide +kernel
theorem dX4_perform_92 : decode cX4_perform 92 = .ok (.iload_n 3, 1) := by decide +kernel
theorem dX4_perform_93 : decode cX4_perform 93 = .ok (.iload 4, 2) := by decide +kernel
theorem dX4_perform_95 : decode cX4_perform 95 = .ok (.invokestatic 76, 3) := by decide +kernel
theorem dX4_perform_98 : decode cX4_perform 98 = .ok (.ifCond .eq 7, 3) := by decide +kernel
theorem dX4_perform_101 : decode cX4_perform 101 = .ok (.iconst 1, 1) := by decide +kernel
theorem dX4_perform_102 : decode cX4_perform 102 = .ok (.goto 4, 3) := by decide +kernel
theorem dX4_perform_105 : decode cX4_perform 105 = .ok (.iconst (-1), 1) := by decide +kernel
theorem dX4_perform_106 : decode cX4_perform 106 = .ok (.istore 5, 2) := by decide +kernel
theorem dX4_perform_108 : decode cX4_perform 108 = .ok (.aload_n 1, 1) := by decide +kernel
theorem dX4_perform_109 : decode cX4_perform 109 = .ok (.getfield 80, 3) := by decide +kernel
theorem dX4_perform_112 : decode cX4_perform 112 = .ok (.iload 4, 2) := by decide +kernel
theorem dX4_perform_114 : decode cX4_perform 114 = .ok (.iconst 0, 1) := by decide +kernel
theorem dX4_perform_115 : decode cX4_perform 115 = .ok (.bipush 9, 2) := by decide +kernel
theorem dX4_perform_117 : decode cX4_perform 117 = .ok (.aload_n 1, 1) := by decide +kernel
theorem dX4_perform_118 : decode cX4_perform 118 = .ok (.getfield 80, 3) := by decide +kernel
theorem dX4_perform_121 : decode cX4_perform 121 = .ok (.iload 4, 2) := by decide +kernel
theorem dX4_perform_123 : decode cX4_perform 123 = .ok (.iaload, 1) := by decide +kernel
theorem dX4_perform_124 : decode cX4_perform 124 = .ok (.iload 5, 2) := by decide +kernel
theorem dX4_perform_126 : decode cX4_perform 126 = .ok (.iadd, 1) := by decide +kernel
theorem dX4_perform_127 : decode cX4_perform 127 = .ok (.invokestatic 96, 3) := by decide +kernel
theorem dX4_perform_130 : decode cX4_perform 130 = .ok (.invokestatic 101, 3) := by decide +kernel
theorem dX4_perform_133 : decode cX4_perform 133 = .ok (.iastore, 1) := by decide +kernel
theorem dX4_perform_134 : decode cX4_perform 134 = .ok (.iinc 4 1, 3) := by decide +kernel
theorem dX4_perform_137 : decode cX4_perform 137 = .ok (.goto (-54), 3) := by decide +kernel
theorem dX4_perform_140 : decode cX4_perform 140 = .ok (.aload_n 1, 1) := by decide +kernel
theorem dX4_perform_141 : decode cX4_perform 141 = .ok (.ldc 104, 2) := by decide +kernel
theorem dX4_perform_143 : decode cX4_perform 143 = .ok (.aload_n 1, 1) := by decide +kernel
theorem dX4_perform_144 : decode cX4_perform 144 = .ok (.getfield 105, 3) := by decide +kernel
theorem dX4_perform_147 : decode cX4_perform 147 = .ok (.iconst 1, 1) := by decide +kernel
theorem dX4_perform_148 : decode cX4_perform 148 = .ok (.iadd, 1) := by decide +kernel
theorem dX4_perform_149 : decode cX4_perform 149 = .ok (.invokestatic 96, 3) := by decide +kernel
theorem dX4_perform_152 : decode cX4_perform 152 = .ok (.putfield 105, 3) := by decide +kernel
theorem dX4_perform_155 : decode cX4_perform 155 = .ok (.iload_n 3, 1) := by decide +kernel
theorem dX4_perform_156 : decode cX4_perform 156 = .ok (.ireturn, 1) := by decide +kernel
theorem dX4_collect_0 : decode cX4_collect 0 = .ok (.iload_n 3, 1) := by decide +kernel
theorem dX4_collect_1 : decode cX4_collect 1 = .ok (.aload_n 1, 1) := by decide +kernel
theorem dX4_collect_2 : decode cX4_collect 2 = .ok (.getfield 31, 3) := by decide +kernel
theorem dX4_collect_5 : decode cX4_collect 5 = .ok (.iload_n 2, 1) := by decide +kernel
theorem dX4_collect_6 : decode cX4_collect 6 = .ok (.iaload, 1) := by decide +kernel
theorem dX4_collect_7 : decode cX4_collect 7 = .ok (.ldc 108, 2) := by decide +kernel
theorem dX4_collect_9 : decode cX4_collect 9 = .ok (.aload_n 1, 1) := by decide +kernel
theorem dX4_collect_10 : decode cX4_collect 10 = .ok (.getfield 109, 3) := by decide +kernel
theorem dX4_collect_13 : decode cX4_collect 13 = .ok (.isub, 1) := by decide +kernel
theorem dX4_collect_14 : decode cX4_collect 14 = .ok (.invokestatic 96, 3) := by decide +kernel
theorem dX4_collect_17 : decode cX4_collect 17 = .ok (.invokestatic 96, 3) := by decide +kernel
theorem dX4_collect_20 : decode cX4_collect 20 = .ok (.istore 4, 2) := by decide +kernel
theorem dX4_collect_22 : decode cX4_collect 22 = .ok (.aload_n 1, 1) := by decide +kernel
theorem dX4_collect_23 : decode cX4_collect 23 = .ok (.getfield 31, 3) := by decide +kernel
theorem dX4_collect_26 : decode cX4_collect 26 = .ok (.iload_n 2, 1) := by decide +kernel
theorem dX4_collect_27 : decode cX4_collect 27 = .ok (.dup2, 1) := by decide +kernel
theorem dX4_collect_28 : decode cX4_collect 28 = .ok (.iaload, 1) := by decide +kernel
theorem dX4_collect_29 : decode cX4_collect 29 = .ok (.iload 4, 2) := by decide +kernel
theorem dX4_collect_31 : decode cX4_collect 31 = .ok (.isub, 1) := by decide +kernel
theorem dX4_collect_32 : decode cX4_collect 32 = .ok (.iastore, 1) := by decide +kernel
theorem dX4_collect_33 : decode cX4_collect 33 = .ok (.aload_n 1, 1) := by decide +kernel
theorem dX4_collect_34 : decode cX4_collect 34 = .ok (.dup, 1) := by decide +kernel
theorem dX4_collect_35 : decode cX4_collect 35 = .ok (.getfield 109, 3) := by decide +kernel
theorem dX4_collect_38 : decode cX4_collect 38 = .ok (.iload 4, 2) := by decide +kernel
theorem dX4_collect_40 : decode cX4_collect 40 = .ok (.iadd, 1) := by decide +kernel
theorem dX4_collect_41 : decode cX4_collect 41 = .ok (.putfield 109, 3) := by decide +kernel
theorem dX4_collect_44 : decode cX4_collect 44 = .ok (.iload 4, 2) := by decide +kernel
theorem dX4_collect_46 : decode cX4_collect 46 = .ok (.ireturn, 1) := by decide +kernel
theorem dX4_performOften_0 : decode cX4_performOften 0 = .ok (.iconst 0, 1) := by decide +kernel
theorem dX4_performOften_1 : decode cX4_performOften 1 = .ok (.istore 4, 2) := by decide +kernel
theorem dX4_performOften_3 : decode cX4_performOften 3 = .ok (.iload 4, 2) := by decide +kernel
theorem dX4_performOften_5 : decode cX4_performOften 5 = .ok (.iload_n 3, 1) := by decide +kernel
theorem dX4_performOften_6 : decode cX4_performOften 6 = .ok (.if_icmp .ge 16, 3) := by decide +kernel
theorem dX4_performOften_9 : decode cX4_performOften 9 = .ok (.aload_n 0, 1) := by decide +kernel
theorem dX4_performOften_10 : decode cX4_performOften 10 = .ok (.aload_n 1, 1) := by decide +kernel
theorem dX4_performOften_11 : decode cX4_performOften 11 = .ok (.iload_n 2, 1) := by decide +kernel
theorem dX4_performOften_12 : decode cX4_performOften 12 = .ok (.invokevirtual 112, 3) := by decide +kernel
theorem dX4_performOften_15 : decode cX4_performOften 15 = .ok (.pop, 1) := by decide +kernel
theorem dX4_performOften_16 : decode cX4_performOften 16 = .ok (.iinc 4 1, 3) := by decide +kernel
theorem dX4_performOften_19 : decode cX4_performOften 19 = .ok (.goto (-16), 3) := by decide +kernel
theorem dX4_performOften_22 : decode cX4_performOften 22 = .ok (.aload_n 1, 1) := by decide +kernel
theorem dX4_performOften_23 : decode cX4_performOften 23 = .ok (.getfield 109, 3) := by decide +kernel
theorem dX4_performOften_26 : decode cX4_performOften 26 = .ok (.ireturn, 1) := by decide +kernel
theorem dJ6_bitCount_0f7a4_0 : decode cJ6_bitCount_0f7a4 0 = .ok (.iload_n 0, 1) := by decide +kernel
theorem dJ6_bitCount_0f7a4_1 : decode cJ6_bitCount_0f7a4 1 = .ok (.iload_n 0, 1) := by decide +kernel
theorem dJ6_bitCount_0f7a4_2 : decode cJ6_bitCount_0f7a4 2 = .ok (.iconst 1, 1) := by decide +kernel
theorem dJ6_bitCount_0f7a4_3 : decode cJ6_bitCount_0f7a4 3 = .ok (.iushr, 1) := by decide +kernel
theorem dJ6_bitCount_0f7a4_4 : decode cJ6_bitCount_0f7a4 4 = .ok (.ldc_w 265, 3) := by decide +kernel
theorem dJ6_bitCount_0f7a4_7 : decode cJ6_bitCount_0f7a4 7 = .ok (.iand, 1) := by decide +kernel
theorem dJ6_bitCount_0f7a4_8 : decode cJ6_bitCount_0f7a4 8 = .ok (.isub, 1) := by decide +kernel
theorem dJ6_bitCount_0f7a4_9 : decode cJ6_bitCount_0f7a4 9 = .ok (.istore_n 0, 1) := by decide +kernel
theorem dJ6_bitCount_0f7a4_10 : decode cJ6_bitCount_0f7a4 10 = .ok (.iload_n 0, 1) := by decide +kernel
theorem dJ6_bitCount_0f7a4_11 : decode cJ6_bitCount_0f7a4 11 = .ok (.ldc_w 266, 3) := by decide +kernel
theorem dJ6_bitCount_0f7a4_14 : decode cJ6_bitCount_0f7a4 14 = .ok (.iand, 1) := by decide +kernel
theorem dJ6_bitCount_0f7a4_15 : decode cJ6_bitCount_0f7a4 15 = .ok (.iload_n 0, 1) := by decide +kernel
theorem dJ6_bitCount_0f7a4_16 : decode cJ6_bitCount_0f7a4 16 = .ok (.iconst 2, 1) := by decide +kernel
theorem dJ6_bitCount_0f7a4_17 : decode cJ6_bitCount_0f7a4 17 = .ok (.iushr, 1) := by decide +kernel
theorem dJ6_bitCount_0f7a4_18 : decode cJ6_bitCount_0f7a4 18 = .ok (.ldc_w 266, 3) := by decide +kernel
theorem dJ6_bitCount_0f7a4_21 : decode cJ6_bitCount_0f7a4 21 = .ok (.iand, 1) := by decide +kernel
theorem dJ6_bitCount_0f7a4_22 : decode cJ6_bitCount_0f7a4 22 = .ok (.iadd, 1) := by decide +kernel
theorem dJ6_bitCount_0f7a4_23 : decode cJ6_bitCount_0f7a4 23 = .ok (.istore_n 0, 1) := by decide +kernel
theorem dJ6_bitCount_0f7a4_24 : decode cJ6_bitCount_0f7a4 24 = .ok (.iload_n 0, 1) := by decide +kernel
theorem dJ6_bitCount_0f7a4_25 : decode cJ6_bitCount_0f7a4 25 = .ok (.iload_n 0, 1) := by decide +kernel
theorem dJ6_bitCount_0f7a4_26 : decode cJ6_bitCount_0f7a4 26 = .ok (.iconst 4, 1) := by decide +kernel
theorem dJ6_bitCount_0f7a4_27 : decode cJ6_bitCount_0f7a4 27 = .ok (.iushr, 1) := by decide +kernel
theorem dJ6_bitCount_0f7a4_28 : decode cJ6_bitCount_0f7a4 28 = .ok (.iadd, 1) := by decide +kernel
theorem dJ6_bitCount_0f7a4_29 : decode cJ6_bitCount_0f7a4 29 = .ok (.ldc_w 267, 3) := by decide +kernel
theorem dJ6_bitCount_0f7a4_32 : decode cJ6_bitCount_0f7a4 32 = .ok (.iand, 1) := by decide +kernel
theorem dJ6_bitCount_0f7a4_33 : decode cJ6_bitCount_0f7a4 33 = .ok (.istore_n 0, 1) := by decide +kernel
theorem dJ6_bitCount_0f7a4_34 : decode cJ6_bitCount_0f7a4 34 = .ok (.iload_n 0, 1) := by decide +kernel
theorem dJ6_bitCount_0f7a4_35 : decode cJ6_bitCount_0f7a4 35 = .ok (.iload_n 0, 1) := by decide +kernel
theorem dJ6_bitCount_0f7a4_36 : decode cJ6_bitCount_0f7a4 36 = .ok (.bipush 8, 2) := by decide +kernel
theorem dJ6_bitCount_0f7a4_38 : decode cJ6_bitCount_0f7a4 38 = .ok (.iushr, 1) := by decide +kernel
theorem dJ6_bitCount_0f7a4_39 : decode cJ6_bitCount_0f7a4 39 = .ok (.iadd, 1) := by decide +kernel
theorem dJ6_bitCount_0f7a4_40 : decode cJ6_bitCount_0f7a4 40 = .ok (.istore_n 0, 1) := by decide +kernel
theorem dJ6_bitCount_0f7a4_41 : decode cJ6_bitCount_0f7a4 41 = .ok (.iload_n 0, 1) := by decide +kernel
theorem dJ6_bitCount_0f7a4_42 : decode cJ6_bitCount_0f7a4 42 = .ok (.iload_n 0, 1) := by decide +kernel
theorem dJ6_bitCount_0f7a4_43 : decode cJ6_bitCount_0f7a4 43 = .ok (.bipush 16, 2) := by decide +kernel
theorem dJ6_bitCount_0f7a4_45 : decode cJ6_bitCount_0f7a4 45 = .ok (.iushr, 1) := by decide +kernel
theorem dJ6_bitCount_0f7a4_46 : decode cJ6_bitCount_0f7a4 46 = .ok (.iadd, 1) := by decide +kernel
theorem dJ6_bitCount_0f7a4_47 : decode cJ6_bitCount_0f7a4 47 = .ok (.istore_n 0, 1) := by decide +kernel
theorem dJ6_bitCount_0f7a4_48 : decode cJ6_bitCount_0f7a4 48 = .ok (.iload_n 0, 1) := by decide +kernel
theorem dJ6_bitCount_0f7a4_49 : decode cJ6_bitCount_0f7a4 49 = .ok (.bipush 63, 2) := by decide +kernel
theorem dJ6_bitCount_0f7a4_51 : decode cJ6_bitCount_0f7a4 51 = .ok (.iand, 1) := by decide +kernel
theorem dJ6_bitCount_0f7a4_52 : decode cJ6_bitCount_0f7a4 52 = .ok (.ireturn, 1) := by decide +kernel
theorem dJ9_abs_0f7a4_0 : decode cJ9_abs_0f7a4 0 = .ok (.iload_n 0, 1) := by decide +kernel
theorem dJ9_abs_0f7a4_1 : decode cJ9_abs_0f7a4 1 = .ok (.ifCond .ge 8, 3) := by decide +kernel
theorem dJ9_abs_0f7a4_4 : decode cJ9_abs_0f7a4 4 = .ok (.iload_n 0, 1) := by decide +kernel
theorem dJ9_abs_0f7a4_5 : decode cJ9_abs_0f7a4 5 = .ok (.ineg, 1) := by decide +kernel
theorem dJ9_abs_0f7a4_6 : decode cJ9_abs_0f7a4 6 = .ok (.goto 4, 3) := by decide +kernel
theorem dJ9_abs_0f7a4_9 : decode cJ9_abs_0f7a4 9 = .ok (.iload_n 0, 1) := by decide +kernel
theorem dJ9_abs_0f7a4_10 : decode cJ9_abs_0f7a4 10 = .ok (.ireturn, 1) := by decide +kernel
theorem dJ9_max_7cf53_0 : decode cJ9_max_7cf53 0 = .ok (.iload_n 0, 1) := by decide +kernel
theorem dJ9_max_7cf53_1 : decode cJ9_max_7cf53 1 = .ok (.iload_n 1, 1) := by decide +kernel
theorem dJ9_max_7cf53_2 : decode cJ9_max_7cf53 2 = .ok (.if_icmp .lt 7, 3) := by decide +kernel
theorem dJ9_max_7cf53_5 : decode cJ9_max_7cf53 5 = .ok (.iload_n 0, 1) := by decide +kernel
theorem dJ9_max_7cf53_6 : decode cJ9_max_7cf53 6 = .ok (.goto 4, 3) := by decide +kernel
theorem dJ9_max_7cf53_9 : decode cJ9_max_7cf53 9 = .ok (.iload_n 1, 1) := by decide +kernel
theorem dJ9_max_7cf53_10 : decode cJ9_max_7cf53 10 = .ok (.ireturn, 1) := by decide +kernel
theorem dJ9_min_7cf53_0 : decode cJ9_min_7cf53 0 = .ok (.iload_n 0, 1) := by decide +kernel
theorem dJ9_min_7cf53_1 : decode cJ9_min_7cf53 1 = .ok (.iload_n 1, 1) := by decide +kernel
theorem dJ9_min_7cf53_2 : decode cJ9_min_7cf53 2 = .ok (.if_icmp .gt 7, 3) := by decide +kernel
theorem dJ9_min_7cf53_5 : decode cJ9_min_7cf53 5 = .ok (.iload_n 0, 1) := by decide +kernel
theorem dJ9_min_7cf53_6 : decode cJ9_min_7cf53 6 = .ok (.goto 4, 3) := by decide +kernel
theorem dJ9_min_7cf53_9 : decode cJ9_min_7cf53 9 = .ok (.iload_n 1, 1) := by decide +kernel
theorem dJ9_min_7cf53_10 : decode cJ9_min_7cf53 10 = .ok (.ireturn, 1) := by decide +kernel
theorem dJ0_length_8abf5_0 : decode cJ0_length_8abf5 0 = .ok (.aload_n 0, 1) := by decide +kernel
theorem dJ0_length_8abf5_1 : decode cJ0_length_8abf5 1 = .ok (.getfield 9, 3) := by decide +kernel
theorem dJ0_length_8abf5_4 : decode cJ0_length_8abf5 4 = .ok (.arraylength, 1) := by decide +kernel
theorem dJ0_length_8abf5_5 : decode cJ0_length_8abf5 5 = .ok (.aload_n 0, 1) := by decide +kernel
theorem dJ0_length_8abf5_6 : decode cJ0_length_8abf5 6 = .ok (.invokevirtual 335, 3) := by decide +kernel
theorem dJ0_length_8abf5_9 : decode cJ0_length_8abf5 9 = .ok (.ishr, 1) := by decide +kernel
theorem dJ0_length_8abf5_10 : decode cJ0_length_8abf5 10 = .ok (.ireturn, 1) := by decide +kernel
theorem dJ0_charAt_5068e_0 : decode cJ0_charAt_5068e 0 = .ok (.aload_n 0, 1) := by decide +kernel
theorem dJ0_charAt_5068e_1 : decode cJ0_charAt_5068e 1 = .ok (.invokevirtual 492, 3) := by decide +kernel
theorem dJ0_charAt_5068e_4 : decode cJ0_charAt_5068e 4 = .ok (.ifCond .eq 12, 3) := by decide +kernel
theorem dJ0_charAt_5068e_7 : decode cJ0_charAt_5068e 7 = .ok (.aload_n 0, 1) := by decide +kernel
theorem dJ0_charAt_5068e_8 : decode cJ0_charAt_5068e 8 = .ok (.getfield 9, 3) := by decide +kernel
theorem dJ0_charAt_5068e_11 : decode cJ0_charAt_5068e 11 = .ok (.iload_n 1, 1) := by decide +kernel
theorem dJ0_charAt_5068e_12 : decode cJ0_charAt_5068e 12 = .ok (.invokestatic 495, 3) := by decide +kernel
theorem dJ0_charAt_5068e_15 : decode cJ0_charAt_5068e 15 = .ok (.ireturn, 1) := by decide +kernel
theorem dJ0_charAt_5068e_16 : decode cJ0_charAt_5068e 16 = .ok (.aload_n 0, 1) := by decide +kernel
theorem dJ0_charAt_5068e_17 : decode cJ0_charAt_5068e 17 = .ok (.getfield 9, 3) := by decide +kernel
theorem dJ0_charAt_5068e_20 : decode cJ0_charAt_5068e 20 = .ok (.iload_n 1, 1) := by decide +kernel
theorem dJ0_charAt_5068e_21 : decode cJ0_charAt_5068e 21 = .ok (.invokestatic 498, 3) := by decide +kernel
theorem dJ0_charAt_5068e_24 : decode cJ0_charAt_5068e 24 = .ok (.ireturn, 1) := by decide +kernel
theorem dJ0_coder_7d493_0 : decode cJ0_coder_7d493 0 = .ok (.getstatic 38, 3) := by decide +kernel
theorem dJ0_coder_7d493_3 : decode cJ0_coder_7d493 3 = .ok (.ifCond .eq 10, 3) := by decide +kernel
theorem dJ0_coder_7d493_6 : decode cJ0_coder_7d493 6 = .ok (.aload_n 0, 1) := by decide +kernel
theorem dJ0_coder_7d493_7 : decode cJ0_coder_7d493 7 = .ok (.getfield 15, 3) := by decide +kernel
theorem dJ0_coder_7d493_10 : decode cJ0_coder_7d493 10 = .ok (.goto 4, 3) := by decide +kernel
theorem dJ0_coder_7d493_13 : decode cJ0_coder_7d493 13 = .ok (.iconst 1, 1) := by decide +kernel
theorem dJ0_coder_7d493_14 : decode cJ0_coder_7d493 14 = .ok (.ireturn, 1) := by decide +kernel
theorem dJ0_isLatin1_aae02_0 : decode cJ0_isLatin1_aae02 0 = .ok (.getstatic 38, 3) := by decide +kernel
theorem dJ0_isLatin1_aae02_3 : decode cJ0_isLatin1_aae02 3 = .ok (.ifCond .eq 14, 3) := by decide +kernel
theorem dJ0_isLatin1_aae02_6 : decode cJ0_isLatin1_aae02 6 = .ok (.aload_n 0, 1) := by decide +kernel
theorem dJ0_isLatin1_aae02_7 : decode cJ0_isLatin1_aae02 7 = .ok (.getfield 15, 3) := by decide +kernel
theorem dJ0_isLatin1_aae02_10 : decode cJ0_isLatin1_aae02 10 = .ok (.ifCond .ne 7, 3) := by decide +kernel
theorem dJ0_isLatin1_aae02_13 : decode cJ0_isLatin1_aae02 13 = .ok (.iconst 1, 1) := by decide +kernel
theorem dJ0_isLatin1_aae02_14 : decode cJ0_isLatin1_aae02 14 = .ok (.goto 4, 3) := by decide +kernel
theorem dJ0_isLatin1_aae02_17 : decode cJ0_isLatin1_aae02 17 = .ok (.iconst 0, 1) := by decide +kernel
theorem dJ0_isLatin1_aae02_18 : decode cJ0_isLatin1_aae02 18 = .ok (.ireturn, 1) := by decide +kernel
theorem dJ0_checkIndex_df160_0 : decode cJ0_checkIndex_df160 0 = .ok (.iload_n 0, 1) := by decide +kernel
theorem dJ0_checkIndex_df160_1 : decode cJ0_checkIndex_df160 1 = .ok (.iload_n 1, 1) := by decide +kernel
theorem dJ0_checkIndex_df160_2 : decode cJ0_checkIndex_df160 2 = .ok (.getstatic 1053, 3) := by decide +kernel
theorem dJ0_checkIndex_df160_5 : decode cJ0_checkIndex_df160 5 = .ok (.invokestatic 1059, 3) := by decide +kernel
theorem dJ0_checkIndex_df160_8 : decode cJ0_checkIndex_df160 8 = .ok (.pop, 1) := by decide +kernel
theorem dJ0_checkIndex_df160_9 : decode cJ0_checkIndex_df160 9 = .ok (.return_, 1) := by decide +kernel
theorem dJ1_charAt_3b067_0 : decode cJ1_charAt_3b067 0 = .ok (.iload_n 1, 1) := by decide +kernel
theorem dJ1_charAt_3b067_1 : decode cJ1_charAt_3b067 1 = .ok (.aload_n 0, 1) := by decide +kernel
theorem dJ1_charAt_3b067_2 : decode cJ1_charAt_3b067 2 = .ok (.arraylength, 1) := by decide +kernel
theorem dJ1_charAt_3b067_3 : decode cJ1_charAt_3b067 3 = .ok (.invokestatic 9, 3) := by decide +kernel
theorem dJ1_charAt_3b067_6 : decode cJ1_charAt_3b067 6 = .ok (.aload_n 0, 1) := by decide +kernel
theorem dJ1_charAt_3b067_7 : decode cJ1_charAt_3b067 7 = .ok (.iload_n 1, 1) := by decide +kernel
theorem dJ1_charAt_3b067_8 : decode cJ1_charAt_3b067 8 = .ok (.baload, 1) := by decide +kernel
theorem dJ1_charAt_3b067_9 : decode cJ1_charAt_3b067 9 = .ok (.sipush 255, 3) := by decide +kernel
theorem dJ1_charAt_3b067_12 : decode cJ1_charAt_3b067 12 = .ok (.iand, 1) := by decide +kernel
theorem dJ1_charAt_3b067_13 : decode cJ1_charAt_3b067 13 = .ok (.i2c, 1) := by decide +kernel
theorem dJ1_charAt_3b067_14 : decode cJ1_charAt_3b067 14 = .ok (.ireturn, 1) := by decide +kernel
theorem dJ3_checkIndex_8e157_0 : decode cJ3_checkIndex_8e157 0 = .ok (.iload_n 0, 1) := by decide +kernel
theorem dJ3_checkIndex_8e157_1 : decode cJ3_checkIndex_8e157 1 = .ok (.ifCond .lt 8, 3) := by decide +kernel
theorem dJ3_checkIndex_8e157_4 : decode cJ3_checkIndex_8e157 4 = .ok (.iload_n 0, 1) := by decide +kernel
theorem dJ3_checkIndex_8e157_5 : decode cJ3_checkIndex_8e157 5 = .ok (.iload_n 1, 1) := by decide +kernel
theorem dJ3_checkIndex_8e157_6 : decode cJ3_checkIndex_8e157 6 = .ok (.if_icmp .lt 10, 3) := by decide +kernel
theorem dJ3_checkIndex_8e157_9 : decode cJ3_checkIndex_8e157 9 = .ok (.aload_n 2, 1) := by decide +kernel
theorem dJ3_checkIndex_8e157_10 : decode cJ3_checkIndex_8e157 10 = .ok (.iload_n 0, 1) := by decide +kernel
theorem dJ3_checkIndex_8e157_11 : decode cJ3_checkIndex_8e157 11 = .ok (.iload_n 1, 1) := by decide +kernel
theorem dJ3_checkIndex_8e157_12 : decode cJ3_checkIndex_8e157 12 = .ok (.invokestatic 95, 3) := by decide +kernel
theorem dJ3_checkIndex_8e157_15 : decode cJ3_checkIndex_8e157 15 = .ok (.athrow, 1) := by decide +kernel
theorem dJ3_checkIndex_8e157_16 : decode cJ3_checkIndex_8e157 16 = .ok (.iload_n 0, 1) := by decide +kernel
theorem dJ3_checkIndex_8e157_17 : decode cJ3_checkIndex_8e157 17 = .ok (.ireturn, 1) := by decide +kernel
