theorem dX5_readDay_0 : decode cX5_readDay 0 = .ok (.aload_n 0, 1) := by decide +kernel
theorem dX5_readDay_1 : decode cX5_readDay 1 = .ok (.invokevirtual 25, 3) := by decide +kernel
theorem dX5_readDay_4 : decode cX5_readDay 4 = .ok (.iconst 0, 1) := by decide +kernel
theorem dX5_readDay_5 : decode cX5_readDay 5 = .ok (.istore_n 1, 1) := by decide +kernel
theorem dX5_readDay_6 : decode cX5_readDay 6 = .ok (.iload_n 1, 1) := by decide +kernel
theorem dX5_readDay_7 : decode cX5_readDay 7 = .ok (.bipush 80, 2) := by decide +kernel
theorem dX5_readDay_9 : decode cX5_readDay 9 = .ok (.if_icmp .ge 77, 3) := by decide +kernel
theorem dX5_readDay_12 : decode cX5_readDay 12 = .ok (.aload_n 0, 1) := by decide +kernel
theorem dX5_readDay_13 : decode cX5_readDay 13 = .ok (.getfield 22, 3) := by decide +kernel
theorem dX5_readDay_16 : decode cX5_readDay 16 = .ok (.aload_n 0, 1) := by decide +kernel
theorem dX5_readDay_17 : decode cX5_readDay 17 = .ok (.getfield 18, 3) := by decide +kernel
theorem dX5_readDay_20 : decode cX5_readDay 20 = .ok (.if_icmp .ge 66, 3) := by decide +kernel
theorem dX5_readDay_23 : decode cX5_readDay 23 = .ok (.aload_n 0, 1) := by decide +kernel
theorem dX5_readDay_24 : decode cX5_readDay 24 = .ok (.getfield 15, 3) := by decide +kernel
theorem dX5_readDay_27 : decode cX5_readDay 27 = .ok (.aload_n 0, 1) := by decide +kernel
theorem dX5_readDay_28 : decode cX5_readDay 28 = .ok (.getfield 22, 3) := by decide +kernel
theorem dX5_readDay_31 : decode cX5_readDay 31 = .ok (.iaload, 1) := by decide +kernel
theorem dX5_readDay_32 : decode cX5_readDay 32 = .ok (.istore_n 2, 1) := by decide +kernel
theorem dX5_readDay_33 : decode cX5_readDay 33 = .ok (.iload_n 2, 1) := by decide +kernel
theorem dX5_readDay_34 : decode cX5_readDay 34 = .ok (.invokestatic 50, 3) := by decide +kernel
theorem dX5_readDay_37 : decode cX5_readDay 37 = .ok (.istore_n 3, 1) := by decide +kernel
theorem dX5_readDay_38 : decode cX5_readDay 38 = .ok (.iload_n 3, 1) := by decide +kernel
theorem dX5_readDay_39 : decode cX5_readDay 39 = .ok (.ifCond .ge 5, 3) := by decide +kernel
theorem dX5_readDay_42 : decode cX5_readDay 42 = .ok (.iconst 0, 1) := by decide +kernel
theorem dX5_readDay_43 : decode cX5_readDay 43 = .ok (.ireturn, 1) := by decide +kernel
theorem dX5_readDay_44 : decode cX5_readDay 44 = .ok (.aload_n 0, 1) := by decide +kernel
theorem dX5_readDay_45 : decode cX5_readDay 45 = .ok (.dup, 1) := by decide +kernel
theorem dX5_readDay_46 : decode cX5_readDay 46 = .ok (.getfield 22, 3) := by decide +kernel
theorem dX5_readDay_49 : decode cX5_readDay 49 = .ok (.iconst 1, 1) := by decide +kernel
theorem dX5_readDay_50 : decode cX5_readDay 50 = .ok (.iadd, 1) := by decide +kernel
theorem dX5_readDay_51 : decode cX5_readDay 51 = .ok (.putfield 22, 3) := by decide +kernel
theorem dX5_readDay_54 : decode cX5_readDay 54 = .ok (.aload_n 0, 1) := by decide +kernel
theorem dX5_readDay_55 : decode cX5_readDay 55 = .ok (.iload_n 3, 1) := by decide +kernel
theorem dX5_readDay_56 : decode cX5_readDay 56 = .ok (.invokevirtual 54, 3) := by decide +kernel
theorem dX5_readDay_59 : decode cX5_readDay 59 = .ok (.istore 4, 2) := by decide +kernel
theorem dX5_readDay_61 : decode cX5_readDay 61 = .ok (.iload 4, 2) := by decide +kernel
theorem dX5_readDay_63 : decode cX5_readDay 63 = .ok (.ifCond .ge 5, 3) := by decide +kernel
theorem dX5_readDay_66 : decode cX5_readDay 66 = .ok (.iconst 0, 1) := by decide +kernel
theorem dX5_readDay_67 : decode cX5_readDay 67 = .ok (.ireturn, 1) := by decide +kernel
theorem dX5_readDay_68 : decode cX5_readDay 68 = .ok (.aload_n 0, 1) := by decide +kernel
theorem dX5_readDay_69 : decode cX5_readDay 69 = .ok (.sipush 10000, 3) := by decide +kernel
theorem dX5_readDay_72 : decode cX5_readDay 72 = .ok (.iload_n 2, 1) := by decide +kernel
theorem dX5_readDay_73 : decode cX5_readDay 73 = .ok (.imul, 1) := by decide +kernel
theorem dX5_readDay_74 : decode cX5_readDay 74 = .ok (.iload 4, 2) := by decide +kernel
theorem dX5_readDay_76 : decode cX5_readDay 76 = .ok (.iadd, 1) := by decide +kernel
theorem dX5_readDay_77 : decode cX5_readDay 77 = .ok (.invokevirtual 43, 3) := by decide +kernel
theorem dX5_readDay_80 : decode cX5_readDay 80 = .ok (.iinc 1 1, 3) := by decide +kernel
theorem dX5_readDay_83 : decode cX5_readDay 83 = .ok (.goto (-77), 3) := by decide +kernel
theorem dX5_readDay_86 : decode cX5_readDay 86 = .ok (.aload_n 0, 1) := by decide +kernel
theorem dX5_readDay_87 : decode cX5_readDay 87 = .ok (.getfield 22, 3) := by decide +kernel
theorem dX5_readDay_90 : decode cX5_readDay 90 = .ok (.aload_n 0, 1) := by decide +kernel
theorem dX5_readDay_91 : decode cX5_readDay 91 = .ok (.getfield 18, 3) := by decide +kernel
theorem dX5_readDay_94 : decode cX5_readDay 94 = .ok (.if_icmp .ne 7, 3) := by decide +kernel
theorem dX5_readDay_97 : decode cX5_readDay 97 = .ok (.iconst 1, 1) := by decide +kernel
theorem dX5_readDay_98 : decode cX5_readDay 98 = .ok (.goto 4, 3) := by decide +kernel
theorem dX5_readDay_101 : decode cX5_readDay 101 = .ok (.iconst 0, 1) := by decide +kernel
theorem dX5_readDay_102 : decode cX5_readDay 102 = .ok (.ireturn, 1) := by decide +kernel
theorem dX5_digitsBehind_0 : decode cX5_digitsBehind 0 = .ok (.iload_n 0, 1) := by decide +kernel
theorem dX5_digitsBehind_1 : decode cX5_digitsBehind 1 = .ok (.tableswitch 81 103 117 #[77, 81, 81, 81, 81, 75, 75, 81, 81, 75, 81, 81, 81, 79, 75], 75) := by decide +kernel
theorem dX5_digitsBehind_76 : decode cX5_digitsBehind 76 = .ok (.iconst 4, 1) := by decide +kernel
theorem dX5_digitsBehind_77 : decode cX5_digitsBehind 77 = .ok (.ireturn, 1) := by decide +kernel
theorem dX5_digitsBehind_78 : decode cX5_digitsBehind 78 = .ok (.iconst 3, 1) := by decide +kernel
theorem dX5_digitsBehind_79 : decode cX5_digitsBehind 79 = .ok (.ireturn, 1) := by decide +kernel
theorem dX5_digitsBehind_80 : decode cX5_digitsBehind 80 = .ok (.iconst 0, 1) := by decide +kernel
theorem dX5_digitsBehind_81 : decode cX5_digitsBehind 81 = .ok (.ireturn, 1) := by decide +kernel
theorem dX5_digitsBehind_82 : decode cX5_digitsBehind 82 = .ok (.iconst (-1), 1) := by decide +kernel
theorem dX5_digitsBehind_83 : decode cX5_digitsBehind 83 = .ok (.ireturn, 1) := by decide +kernel
theorem dX5_readNumber_0 : decode cX5_readNumber 0 = .ok (.iconst 0, 1) := by decide +kernel
theorem dX5_readNumber_1 : decode cX5_readNumber 1 = .ok (.istore_n 2, 1) := by decide +kernel
theorem dX5_readNumber_2 : decode cX5_readNumber 2 = .ok (.iconst 0, 1) := by decide +kernel
theorem dX5_readNumber_3 : decode cX5_readNumber 3 = .ok (.istore_n 3, 1) := by decide +kernel
theorem dX5_readNumber_4 : decode cX5_readNumber 4 = .ok (.iload_n 3, 1) := by decide +kernel
theorem dX5_readNumber_5 : decode cX5_readNumber 5 = .ok (.iload_n 1, 1) := by decide +kernel
theorem dX5_readNumber_6 : decode cX5_readNumber 6 = .ok (.if_icmp .ge 78, 3) := by decide +kernel
theorem dX5_readNumber_9 : decode cX5_readNumber 9 = .ok (.aload_n 0, 1) := by decide +kernel
theorem dX5_readNumber_10 : decode cX5_readNumber 10 = .ok (.getfield 22, 3) := by decide +kernel
theorem dX5_readNumber_13 : decode cX5_readNumber 13 = .ok (.aload_n 0, 1) := by decide +kernel
theorem dX5_readNumber_14 : decode cX5_readNumber 14 = .ok (.getfield 18, 3) := by decide +kernel
theorem dX5_readNumber_17 : decode cX5_readNumber 17 = .ok (.if_icmp .ge 31, 3) := by decide +kernel
theorem dX5_readNumber_20 : decode cX5_readNumber 20 = .ok (.aload_n 0, 1) := by decide +kernel
theorem dX5_readNumber_21 : decode cX5_readNumber 21 = .ok (.getfield 15, 3) := by decide +kernel
theorem dX5_readNumber_24 : decode cX5_readNumber 24 = .ok (.aload_n 0, 1) := by decide +kernel
theorem dX5_readNumber_25 : decode cX5_readNumber 25 = .ok (.getfield 22, 3) := by decide +kernel
theorem dX5_readNumber_28 : decode cX5_readNumber 28 = .ok (.iaload, 1) := by decide +kernel
theorem dX5_readNumber_29 : decode cX5_readNumber 29 = .ok (.bipush 48, 2) := by decide +kernel
theorem dX5_readNumber_31 : decode cX5_readNumber 31 = .ok (.if_icmp .lt 17, 3) := by decide +kernel
theorem dX5_readNumber_34 : decode cX5_readNumber 34 = .ok (.aload_n 0, 1) := by decide +kernel
theorem dX5_readNumber_35 : decode cX5_readNumber 35 = .ok (.getfield 15, 3) := by decide +kernel
theorem dX5_readNumber_38 : decode cX5_readNumber 38 = .ok (.aload_n 0, 1) := by decide +kernel
theorem dX5_readNumber_39 : decode cX5_readNumber 39 = .ok (.getfield 22, 3) := by decide +kernel
theorem dX5_readNumber_42 : decode cX5_readNumber 42 = .ok (.iaload, 1) := by decide +kernel
theorem dX5_readNumber_43 : decode cX5_readNumber 43 = .ok (.bipush 57, 2) := by decide +kernel
theorem dX5_readNumber_45 : decode cX5_readNumber 45 = .ok (.if_icmp .le 5, 3) := by decide +kernel
theorem dX5_readNumber_48 : decode cX5_readNumber 48 = .ok (.iconst (-1), 1) := by decide +kernel
theorem dX5_readNumber_49 : decode cX5_readNumber 49 = .ok (.ireturn, 1) := by decide +kernel
theorem dX5_readNumber_50 : decode cX5_readNumber 50 = .ok (.bipush 10, 2) := by decide +kernel
theorem dX5_readNumber_52 : decode cX5_readNumber 52 = .ok (.iload_n 2, 1) := by decide +kernel
theorem dX5_readNumber_53 : decode cX5_readNumber 53 = .ok (.imul, 1) := by decide +kernel
theorem dX5_readNumber_54 : decode cX5_readNumber 54 = .ok (.aload_n 0, 1) := by decide +kernel
theorem dX5_readNumber_55 : decode cX5_readNumber 55 = .ok (.getfield 15, 3) := by decide +kernel
theorem dX5_readNumber_58 : decode cX5_readNumber 58 = .ok (.aload_n 0, 1) := by decide +kernel
theorem dX5_readNumber_59 : decode cX5_readNumber 59 = .ok (.getfield 22, 3) := by decide +kernel
theorem dX5_readNumber_62 : decode cX5_readNumber 62 = .ok (.iaload, 1) := by decide +kernel
theorem dX5_readNumber_63 : decode cX5_readNumber 63 = .ok (.iadd, 1) := by decide +kernel
theorem dX5_readNumber_64 : decode cX5_readNumber 64 = .ok (.bipush 48, 2) := by decide +kernel
theorem dX5_readNumber_66 : decode cX5_readNumber 66 = .ok (.isub, 1) := by decide +kernel
theorem dX5_readNumber_67 : decode cX5_readNumber 67 = .ok (.istore_n 2, 1) := by decide +kernel
theorem dX5_readNumber_68 : decode cX5_readNumber 68 = .ok (.aload_n 0, 1) := by decide +kernel
theorem dX5_readNumber_69 : decode cX5_readNumber 69 = .ok (.dup, 1) := by decide +kernel
theorem dX5_readNumber_70 : decode cX5_readNumber 70 = .ok (.getfield 22, 3) := by decide +kernel
theorem dX5_readNumber_73 : decode cX5_readNumber 73 = .ok (.iconst 1, 1) := by decide +kernel
theorem dX5_readNumber_74 : decode cX5_readNumber 74 = .ok (.iadd, 1) := by decide +kernel
theorem dX5_readNumber_75 : decode cX5_readNumber 75 = .ok (.putfield 22, 3) := by decide +kernel
theorem dX5_readNumber_78 : decode cX5_readNumber 78 = .ok (.iinc 3 1, 3) := by decide +kernel
theorem dX5_readNumber_81 : decode cX5_readNumber 81 = .ok (.goto (-77), 3) := by decide +kernel
theorem dX5_readNumber_84 : decode cX5_readNumber 84 = .ok (.iload_n 2, 1) := by decide +kernel
theorem dX5_readNumber_85 : decode cX5_readNumber 85 = .ok (.ireturn, 1) := by decide +kernel
theorem dX5_readTerm_0 : decode cX5_readTerm 0 = .ok (.aload_n 0, 1) := by decide +kernel
theorem dX5_readTerm_1 : decode cX5_readTerm 1 = .ok (.getfield 22, 3) := by decide +kernel
theorem dX5_readTerm_4 : decode cX5_readTerm 4 = .ok (.istore_n 2, 1) := by decide +kernel
theorem dX5_readTerm_5 : decode cX5_readTerm 5 = .ok (.aload_n 0, 1) := by decide +kernel
theorem dX5_readTerm_6 : decode cX5_readTerm 6 = .ok (.invokevirtual 28, 3) := by decide +kernel
theorem dX5_readTerm_9 : decode cX5_readTerm 9 = .ok (.istore_n 3, 1) := by decide +kernel
theorem dX5_readTerm_10 : decode cX5_readTerm 10 = .ok (.iload_n 3, 1) := by decide +kernel
theorem dX5_readTerm_11 : decode cX5_readTerm 11 = .ok (.ifCond .ne 5, 3) := by decide +kernel
theorem dX5_readTerm_14 : decode cX5_readTerm 14 = .ok (.iconst (-1), 1) := by decide +kernel
theorem dX5_readTerm_15 : decode cX5_readTerm 15 = .ok (.ireturn, 1) := by decide +kernel
theorem dX5_readTerm_16 : decode cX5_readTerm 16 = .ok (.aload_n 1, 1) := by decide +kernel
theorem dX5_readTerm_17 : decode cX5_readTerm 17 = .ok (.iload_n 3, 1) := by decide +kernel
theorem dX5_readTerm_18 : decode cX5_readTerm 18 = .ok (.invokevirtual 57, 3) := by decide +kernel
theorem dX5_readTerm_21 : decode cX5_readTerm 21 = .ok (.istore 4, 2) := by decide +kernel
theorem dX5_readTerm_23 : decode cX5_readTerm 23 = .ok (.iload 4, 2) := by decide +kernel
theorem dX5_readTerm_25 : decode cX5_readTerm 25 = .ok (.ifCond .ge 8, 3) := by decide +kernel
theorem dX5_readTerm_28 : decode cX5_readTerm 28 = .ok (.aload_n 0, 1) := by decide +kernel
theorem dX5_readTerm_29 : decode cX5_readTerm 29 = .ok (.iload_n 2, 1) := by decide +kernel
theorem dX5_readTerm_30 : decode cX5_readTerm 30 = .ok (.putfield 22, 3) := by decide +kernel
theorem dX5_readTerm_33 : decode cX5_readTerm 33 = .ok (.iload 4, 2) := by decide +kernel
theorem dX5_readTerm_35 : decode cX5_readTerm 35 = .ok (.ireturn, 1) := by decide +kernel
theorem dX5_readName_0 : decode cX5_readName 0 = .ok (.aload_n 0, 1) := by decide +kernel
theorem dX5_readName_1 : decode cX5_readName 1 = .ok (.invokevirtual 62, 3) := by decide +kernel
theorem dX5_readName_4 : decode cX5_readName 4 = .ok (.ifCond .ne 5, 3) := by decide +kernel
theorem dX5_readName_7 : decode cX5_readName 7 = .ok (.iconst 0, 1) := by decide +kernel
theorem dX5_readName_8 : decode cX5_readName 8 = .ok (.ireturn, 1) := by decide +kernel
theorem dX5_readName_9 : decode cX5_readName 9 = .ok (.bipush 32, 2) := by decide +kernel
theorem dX5_readName_11 : decode cX5_readName 11 = .ok (.aload_n 0, 1) := by decide +kernel
theorem dX5_readName_12 : decode cX5_readName 12 = .ok (.getfield 15, 3) := by decide +kernel
theorem dX5_readName_15 : decode cX5_readName 15 = .ok (.aload_n 0, 1) := by decide +kernel
theorem dX5_readName_16 : decode cX5_readName 16 = .ok (.getfield 22, 3) := by decide +kernel
theorem dX5_readName_19 : decode cX5_readName 19 = .ok (.iaload, 1) := by decide +kernel
theorem dX5_readName_20 : decode cX5_readName 20 = .ok (.bipush 97, 2) := by decide +kernel
theorem dX5_readName_22 : decode cX5_readName 22 = .ok (.isub, 1) := by decide +kernel
theorem dX5_readName_23 : decode cX5_readName 23 = .ok (.iconst 1, 1) := by decide +kernel
theorem dX5_readName_24 : decode cX5_readName 24 = .ok (.iadd, 1) := by decide +kernel
theorem dX5_readName_25 : decode cX5_readName 25 = .ok (.imul, 1) := by decide +kernel
theorem dX5_readName_26 : decode cX5_readName 26 = .ok (.istore_n 1, 1) := by decide +kernel
theorem dX5_readName_27 : decode cX5_readName 27 = .ok (.aload_n 0, 1) := by decide +kernel
theorem dX5_readName_28 : decode cX5_readName 28 = .ok (.dup, 1) := by decide +kernel
theorem dX5_readName_29 : decode cX5_readName 29 = .ok (.getfield 22, 3) := by decide +kernel
theorem dX5_readName_32 : decode cX5_readName 32 = .ok (.iconst 1, 1) := by decide +kernel
theorem dX5_readName_33 : decode cX5_readName 33 = .ok (.iadd, 1) := by decide +kernel
theorem dX5_readName_34 : decode cX5_readName 34 = .ok (.putfield 22, 3) := by decide +kernel
theorem dX5_readName_37 : decode cX5_readName 37 = .ok (.aload_n 0, 1) := by decide +kernel
theorem dX5_readName_38 : decode cX5_readName 38 = .ok (.invokevirtual 62, 3) := by decide +kernel
theorem dX5_readName_41 : decode cX5_readName 41 = .ok (.ifCond .eq 30, 3) := by decide +kernel
theorem dX5_readName_44 : decode cX5_readName 44 = .ok (.iload_n 1, 1) := by decide +kernel
theorem dX5_readName_45 : decode cX5_readName 45 = .ok (.aload_n 0, 1) := by decide +kernel
theorem dX5_readName_46 : decode cX5_readName 46 = .ok (.getfield 15, 3) := by decide +kernel
theorem dX5_readName_49 : decode cX5_readName 49 = .ok (.aload_n 0, 1) := by decide +kernel
theorem dX5_readName_50 : decode cX5_readName 50 = .ok (.getfield 22, 3) := by decide +kernel
theorem dX5_readName_53 : decode cX5_readName 53 = .ok (.iaload, 1) := by decide +kernel
theorem dX5_readName_54 : decode cX5_readName 54 = .ok (.bipush 97, 2) := by decide +kernel
theorem dX5_readName_56 : decode cX5_readName 56 = .ok (.isub, 1) := by decide +kernel
theorem dX5_readName_57 : decode cX5_readName 57 = .ok (.iconst 1, 1) := by decide +kernel
theorem dX5_readName_58 : decode cX5_readName 58 = .ok (.iadd, 1) := by decide +kernel
theorem dX5_readName_59 : decode cX5_readName 59 = .ok (.iadd, 1) := by decide +kernel
theorem dX5_readName_60 : decode cX5_readName 60 = .ok (.istore_n 1, 1) := by decide +kernel
theorem dX5_readName_61 : decode cX5_readName 61 = .ok (.aload_n 0, 1) := by decide +kernel
theorem dX5_readName_62 : decode cX5_readName 62 = .ok (.dup, 1) := by decide +kernel
theorem dX5_readName_63 : decode cX5_readName 63 = .ok (.getfield 22, 3) := by decide +kernel
theorem dX5_readName_66 : decode cX5_readName 66 = .ok (.iconst 1, 1) := by decide +kernel
theorem dX5_readName_67 : decode cX5_readName 67 = .ok (.iadd, 1) := by decide +kernel
theorem dX5_readName_68 : decode cX5_readName 68 = .ok (.putfield 22, 3) := by decide +kernel
theorem dX5_readName_71 : decode cX5_readName 71 = .ok (.iload_n 1, 1) := by decide +kernel
theorem dX5_readName_72 : decode cX5_readName 72 = .ok (.ireturn, 1) := by decide +kernel
theorem dX5_isLetter_0 : decode cX5_isLetter 0 = .ok (.aload_n 0, 1) := by decide +kernel
theorem dX5_isLetter_1 : decode cX5_isLetter 1 = .ok (.getfield 22, 3) := by decide +kernel
theorem dX5_isLetter_4 : decode cX5_isLetter 4 = .ok (.aload_n 0, 1) := by decide +kernel
theorem dX5_isLetter_5 : decode cX5_isLetter 5 = .ok (.getfield 18, 3) := by decide +kernel
theorem dX5_isLetter_8 : decode cX5_isLetter 8 = .ok (.if_icmp .ge 35, 3) := by decide +kernel
theorem dX5_isLetter_11 : decode cX5_isLetter 11 = .ok (.aload_n 0, 1) := by decide +kernel
theorem dX5_isLetter_12 : decode cX5_isLetter 12 = .ok (.getfield 15, 3) := by decide +kernel
theorem dX5_isLetter_15 : decode cX5_isLetter 15 = .ok (.aload_n 0, 1) := by decide +kernel
theorem dX5_isLetter_16 : decode cX5_isLetter 16 = .ok (.getfield 22, 3) := by decide +kernel
theorem dX5_isLetter_19 : decode cX5_isLetter 19 = .ok (.iaload, 1) := by decide +kernel
theorem dX5_isLetter_20 : decode cX5_isLetter 20 = .ok (.bipush 97, 2) := by decide +kernel
theorem dX5_isLetter_22 : decode cX5_isLetter 22 = .ok (.if_icmp .lt 21, 3) := by decide +kernel
theorem dX5_isLetter_25 : decode cX5_isLetter 25 = .ok (.aload_n 0, 1) := by decide +kernel
theorem dX5_isLetter_26 : decode cX5_isLetter 26 = .ok (.getfield 15, 3) := by decide +kernel
theorem dX5_isLetter_29 : decode cX5_isLetter 29 = .ok (.aload_n 0, 1) := by decide +kernel
theorem dX5_isLetter_30 : decode cX5_isLetter 30 = .ok (.getfield 22, 3) := by decide +kernel
theorem dX5_isLetter_33 : decode cX5_isLetter 33 = .ok (.iaload, 1) := by decide +kernel
theorem dX5_isLetter_34 : decode cX5_isLetter 34 = .ok (.bipush 122, 2) := by decide +kernel
theorem dX5_isLetter_36 : decode cX5_isLetter 36 = .ok (.if_icmp .gt 7, 3) := by decide +kernel
theorem dX5_isLetter_39 : decode cX5_isLetter 39 = .ok (.iconst 1, 1) := by decide +kernel
theorem dX5_isLetter_40 : decode cX5_isLetter 40 = .ok (.goto 4, 3) := by decide +kernel
theorem dX5_isLetter_43 : decode cX5_isLetter 43 = .ok (.iconst 0, 1) := by decide +kernel
theorem dX5_isLetter_44 : decode cX5_isLetter 44 = .ok (.ireturn, 1) := by decide +kernel
theorem dX5_passes_0 : decode cX5_passes 0 = .ok (.aload_n 0, 1) := by decide +kernel
theorem dX5_passes_1 : decode cX5_passes 1 = .ok (.getfield 22, 3) := by decide +kernel
theorem dX5_passes_4 : decode cX5_passes 4 = .ok (.aload_n 0, 1) := by decide +kernel
theorem dX5_passes_5 : decode cX5_passes 5 = .ok (.getfield 18, 3) := by decide +kernel
theorem dX5_passes_8 : decode cX5_passes 8 = .ok (.if_icmp .ge 16, 3) := by decide +kernel
theorem dX5_passes_11 : decode cX5_passes 11 = .ok (.aload_n 0, 1) := by decide +kernel
theorem dX5_passes_12 : decode cX5_passes 12 = .ok (.getfield 15, 3) := by decide +kernel
theorem dX5_passes_15 : decode cX5_passes 15 = .ok (.aload_n 0, 1) := by decide +kernel
theorem dX5_passes_16 : decode cX5_passes 16 = .ok (.getfield 22, 3) := by decide +kernel
theorem dX5_passes_19 : decode cX5_passes 19 = .ok (.iaload, 1) := by decide +kernel
theorem dX5_passes_20 : decode cX5_passes 20 = .ok (.iload_n 1, 1) := by decide +kernel
theorem dX5_passes_21 : decode cX5_passes 21 = .ok (.if_icmp .eq 5, 3) := by decide +kernel
theorem dX5_passes_24 : decode cX5_passes 24 = .ok (.iconst 0, 1) := by decide +kernel
theorem dX5_passes_25 : decode cX5_passes 25 = .ok (.ireturn, 1) := by decide +kernel
theorem dX5_passes_26 : decode cX5_passes 26 = .ok (.aload_n 0, 1) := by decide +kernel
theorem dX5_passes_27 : decode cX5_passes 27 = .ok (.dup, 1) := by decide +kernel
theorem dX5_passes_28 : decode cX5_passes 28 = .ok (.getfield 22, 3) := by decide +kernel
theorem dX5_passes_31 : decode cX5_passes 31 = .ok (.iconst 1, 1) := by decide +kernel
theorem dX5_passes_32 : decode cX5_passes 32 = .ok (.iadd, 1) := by decide +kernel
theorem dX5_passes_33 : decode cX5_passes 33 = .ok (.putfield 22, 3) := by decide +kernel
theorem dX5_passes_36 : decode cX5_passes 36 = .ok (.iconst 1, 1) := by decide +kernel
theorem dX5_passes_37 : decode cX5_passes 37 = .ok (.ireturn, 1) := by decide +kernel
theorem dX5_start_0 : decode cX5_start 0 = .ok (.aload_n 0, 1) := by decide +kernel
theorem dX5_start_1 : decode cX5_start 1 = .ok (.iconst 0, 1) := by decide +kernel
theorem dX5_start_2 : decode cX5_start 2 = .ok (.putfield 22, 3) := by decide +kernel
theorem dX5_start_5 : decode cX5_start 5 = .ok (.aload_n 0, 1) := by decide +kernel
theorem dX5_start_6 : decode cX5_start 6 = .ok (.iconst 0, 1) := by decide +kernel
theorem dX5_start_7 : decode cX5_start 7 = .ok (.putfield 66, 3) := by decide +kernel
theorem dX5_start_10 : decode cX5_start 10 = .ok (.return_, 1) := by decide +kernel
theorem dX5_addWord_0 : decode cX5_addWord 0 = .ok (.aload_n 0, 1) := by decide +kernel
theorem dX5_addWord_1 : decode cX5_addWord 1 = .ok (.getfield 66, 3) := by decide +kernel
theorem dX5_addWord_4 : decode cX5_addWord 4 = .ok (.bipush 80, 2) := by decide +kernel
theorem dX5_addWord_6 : decode cX5_addWord 6 = .ok (.if_icmp .ge 23, 3) := by decide +kernel
theorem dX5_addWord_9 : decode cX5_addWord 9 = .ok (.aload_n 0, 1) := by decide +kernel
theorem dX5_addWord_10 : decode cX5_addWord 10 = .ok (.getfield 9, 3) := by decide +kernel
theorem dX5_addWord_13 : decode cX5_addWord 13 = .ok (.aload_n 0, 1) := by decide +kernel
theorem dX5_addWord_14 : decode cX5_addWord 14 = .ok (.getfield 66, 3) := by decide +kernel
theorem dX5_addWord_17 : decode cX5_addWord 17 = .ok (.iload_n 1, 1) := by decide +kernel
theorem dX5_addWord_18 : decode cX5_addWord 18 = .ok (.iastore, 1) := by decide +kernel
theorem dX5_addWord_19 : decode cX5_addWord 19 = .ok (.aload_n 0, 1) := by decide +kernel
theorem dX5_addWord_20 : decode cX5_addWord 20 = .ok (.dup, 1) := by decide +kernel
theorem dX5_addWord_21 : decode cX5_addWord 21 = .ok (.getfield 66, 3) := by decide +kernel
theorem dX5_addWord_24 : decode cX5_addWord 24 = .ok (.iconst 1, 1) := by decide +kernel
theorem dX5_addWord_25 : decode cX5_addWord 25 = .ok (.iadd, 1) := by decide +kernel
theorem dX5_addWord_26 : decode cX5_addWord 26 = .ok (.putfield 66, 3) := by decide +kernel
theorem dX5_addWord_29 : decode cX5_addWord 29 = .ok (.return_, 1) := by decide +kernel
theorem dX6_init_0 : decode cX6_init 0 = .ok (.aload_n 0, 1) := by decide +kernel
theorem dX6_init_1 : decode cX6_init 1 = .ok (.invokespecial 3, 3) := by decide +kernel
theorem dX6_init_4 : decode cX6_init 4 = .ok (.aload_n 0, 1) := by decide +kernel
theorem dX6_init_5 : decode cX6_init 5 = .ok (.new 9, 3) := by decide +kernel
theorem dX6_init_8 : decode cX6_init 8 = .ok (.dup, 1) := by decide +kernel
theorem dX6_init_9 : decode cX6_init 9 = .ok (.invokespecial 11, 3) := by decide +kernel
theorem dX6_init_12 : decode cX6_init 12 = .ok (.putfield 12, 3) := by decide +kernel
theorem dX6_init_15 : decode cX6_init 15 = .ok (.aload_n 0, 1) := by decide +kernel
theorem dX6_init_16 : decode cX6_init 16 = .ok (.new 16, 3) := by decide +kernel
theorem dX6_init_19 : decode cX6_init 19 = .ok (.dup, 1) := by decide +kernel
theorem dX6_init_20 : decode cX6_init 20 = .ok (.invokespecial 18, 3) := by decide +kernel
theorem dX6_init_23 : decode cX6_init 23 = .ok (.putfield 19, 3) := by decide +kernel
theorem dX6_init_26 : decode cX6_init 26 = .ok (.aload_n 0, 1) := by decide +kernel
theorem dX6_init_27 : decode cX6_init 27 = .ok (.aload_n 0, 1) := by decide +kernel
theorem dX6_init_28 : decode cX6_init 28 = .ok (.getfield 19, 3) := by decide +kernel
theorem dX6_init_31 : decode cX6_init 31 = .ok (.getfield 23, 3) := by decide +kernel
theorem dX6_init_34 : decode cX6_init 34 = .ok (.putfield 27, 3) := by decide +kernel
theorem dX6_init_37 : decode cX6_init 37 = .ok (.aload_n 0, 1) := by decide +kernel
theorem dX6_init_38 : decode cX6_init 38 = .ok (.aload_n 0, 1) := by decide +kernel
theorem dX6_init_39 : decode cX6_init 39 = .ok (.getfield 19, 3) := by decide +kernel
theorem dX6_init_42 : decode cX6_init 42 = .ok (.getfield 28, 3) := by decide +kernel
theorem dX6_init_45 : decode cX6_init 45 = .ok (.putfield 32, 3) := by decide +kernel
theorem dX6_init_48 : decode cX6_init 48 = .ok (.aload_n 0, 1) := by decide +kernel
theorem dX6_init_49 : decode cX6_init 49 = .ok (.new 33, 3) := by decide +kernel
theorem dX6_init_52 : decode cX6_init 52 = .ok (.dup, 1) := by decide +kernel
theorem dX6_init_53 : decode cX6_init 53 = .ok (.invokespecial 35, 3) := by decide +kernel
theorem dX6_init_56 : decode cX6_init 56 = .ok (.putfield 36, 3) := by decide +kernel
theorem dX6_init_59 : decode cX6_init 59 = .ok (.aload_n 0, 1) := by decide +kernel
theorem dX6_init_60 : decode cX6_init 60 = .ok (.new 40, 3) := by decide +kernel
theorem dX6_init_63 : decode cX6_init 63 = .ok (.dup, 1) := by decide +kernel
theorem dX6_init_64 : decode cX6_init 64 = .ok (.invokespecial 42, 3) := by decide +kernel
theorem dX6_init_67 : decode cX6_init 67 = .ok (.putfield 43, 3) := by decide +kernel
theorem dX6_init_70 : decode cX6_init 70 = .ok (.aload_n 0, 1) := by decide +kernel
theorem dX6_init_71 : decode cX6_init 71 = .ok (.iconst 2, 1) := by decide +kernel
theorem dX6_init_72 : decode cX6_init 72 = .ok (.anewarray 40, 3) := by decide +kernel
theorem dX6_init_75 : decode cX6_init 75 = .ok (.putfield 47, 3) := by decide +kernel
theorem dX6_init_78 : decode cX6_init 78 = .ok (.aload_n 0, 1) := by decide +kernel
theorem dX6_init_79 : decode cX6_init 79 = .ok (.iconst 2, 1) := by decide +kernel
theorem dX6_init_80 : decode cX6_init 80 = .ok (.newarray .boolean, 2) := by decide +kernel
theorem dX6_init_82 : decode cX6_init 82 = .ok (.putfield 51, 3) := by decide +kernel
theorem dX6_init_85 : decode cX6_init 85 = .ok (.iconst 0, 1) := by decide +kernel
theorem dX6_init_86 : decode cX6_init 86 = .ok (.istore_n 1, 1) := by decide +kernel
theorem dX6_init_87 : decode cX6_init 87 = .ok (.iload_n 1, 1) := by decide +kernel
theorem dX6_init_88 : decode cX6_init 88 = .ok (.iconst 2, 1) := by decide +kernel
theorem dX6_init_89 : decode cX6_init 89 = .ok (.if_icmp .ge 22, 3) := by decide +kernel
theorem dX6_init_92 : decode cX6_init 92 = .ok (.aload_n 0, 1) := by decide +kernel
theorem dX6_init_93 : decode cX6_init 93 = .ok (.getfield 47, 3) := by decide +kernel
theorem dX6_init_96 : decode cX6_init 96 = .ok (.iload_n 1, 1) := by decide +kernel
theorem dX6_init_97 : decode cX6_init 97 = .ok (.new 40, 3) := by decide +kernel
theorem dX6_init_100 : decode cX6_init 100 = .ok (.dup, 1) := by decide +kernel
theorem dX6_init_101 : decode cX6_init 101 = .ok (.invokespecial 42, 3) := by decide +kernel
theorem dX6_init_104 : decode cX6_init 104 = .ok (.aastore, 1) := by decide +kernel
theorem dX6_init_105 : decode cX6_init 105 = .ok (.iinc 1 1, 3) := by decide +kernel
theorem dX6_init_108 : decode cX6_init 108 = .ok (.goto (-21), 3) := by decide +kernel
theorem dX6_init_111 : decode cX6_init 111 = .ok (.aload_n 0, 1) := by decide +kernel
theorem dX6_init_112 : decode cX6_init 112 = .ok (.new 40, 3) := by decide +kernel
theorem dX6_init_115 : decode cX6_init 115 = .ok (.dup, 1) := by decide +kernel
theorem dX6_init_116 : decode cX6_init 116 = .ok (.invokespecial 42, 3) := by decide +kernel
theorem dX6_init_119 : decode cX6_init 119 = .ok (.putfield 55, 3) := by decide +kernel
theorem dX6_init_122 : decode cX6_init 122 = .ok (.return_, 1) := by decide +kernel
theorem dX6_sign_0 : decode cX6_sign 0 = .ok (.aload_n 0, 1) := by decide +kernel
theorem dX6_sign_1 : decode cX6_sign 1 = .ok (.getfield 12, 3) := by decide +kernel
theorem dX6_sign_4 : decode cX6_sign 4 = .ok (.iload_n 1, 1) := by decide +kernel
theorem dX6_sign_5 : decode cX6_sign 5 = .ok (.invokevirtual 58, 3) := by decide +kernel
theorem dX6_sign_8 : decode cX6_sign 8 = .ok (.ifCond .eq 13, 3) := by decide +kernel
theorem dX6_sign_11 : decode cX6_sign 11 = .ok (.aload_n 0, 1) := by decide +kernel
theorem dX6_sign_12 : decode cX6_sign 12 = .ok (.getfield 12, 3) := by decide +kernel
theorem dX6_sign_15 : decode cX6_sign 15 = .ok (.getfield 62, 3) := by decide +kernel
theorem dX6_sign_18 : decode cX6_sign 18 = .ok (.goto 4, 3) := by decide +kernel
theorem dX6_sign_21 : decode cX6_sign 21 = .ok (.iconst (-1), 1) := by decide +kernel
theorem dX6_sign_22 : decode cX6_sign 22 = .ok (.ireturn, 1) := by decide +kernel
theorem dX6_end_0 : decode cX6_end 0 = .ok (.aload_n 0, 1) := by decide +kernel
theorem dX6_end_1 : decode cX6_end 1 = .ok (.getfield 12, 3) := by decide +kernel
theorem dX6_end_4 : decode cX6_end 4 = .ok (.iload_n 1, 1) := by decide +kernel
theorem dX6_end_5 : decode cX6_end 5 = .ok (.invokevirtual 66, 3) := by decide +kernel
theorem dX6_end_8 : decode cX6_end 8 = .ok (.ireturn, 1) := by decide +kernel
theorem dX6_term_0 : decode cX6_term 0 = .ok (.aload_n 0, 1) := by decide +kernel
theorem dX6_term_1 : decode cX6_term 1 = .ok (.getfield 12, 3) := by decide +kernel
theorem dX6_term_4 : decode cX6_term 4 = .ok (.invokevirtual 69, 3) := by decide +kernel
theorem dX6_term_7 : decode cX6_term 7 = .ok (.istore_n 1, 1) := by decide +kernel
theorem dX6_term_8 : decode cX6_term 8 = .ok (.iload_n 1, 1) := by decide +kernel
theorem dX6_term_9 : decode cX6_term 9 = .ok (.ifCond .ne 11, 3) := by decide +kernel
theorem dX6_term_12 : decode cX6_term 12 = .ok (.aload_n 0, 1) := by decide +kernel
theorem dX6_term_13 : decode cX6_term 13 = .ok (.getfield 12, 3) := by decide +kernel
theorem dX6_term_16 : decode cX6_term 16 = .ok (.invokevirtual 73, 3) := by decide +kernel
theorem dX6_term_19 : decode cX6_term 19 = .ok (.ireturn, 1) := by decide +kernel
theorem dX6_term_20 : decode cX6_term 20 = .ok (.aload_n 0, 1) := by decide +kernel
theorem dX6_term_21 : decode cX6_term 21 = .ok (.getfield 55, 3) := by decide +kernel
theorem dX6_term_24 : decode cX6_term 24 = .ok (.iload_n 1, 1) := by decide +kernel
theorem dX6_term_25 : decode cX6_term 25 = .ok (.invokevirtual 76, 3) := by decide +kernel
theorem dX6_term_28 : decode cX6_term 28 = .ok (.ifCond .lt 6, 3) := by decide +kernel
theorem dX6_term_31 : decode cX6_term 31 = .ok (.bipush (-100), 2) := by decide +kernel
theorem dX6_term_33 : decode cX6_term 33 = .ok (.ireturn, 1) := by decide +kernel
theorem dX6_term_34 : decode cX6_term 34 = .ok (.aload_n 0, 1) := by decide +kernel
theorem dX6_term_35 : decode cX6_term 35 = .ok (.getfield 55, 3) := by decide +kernel
theorem dX6_term_38 : decode cX6_term 38 = .ok (.getfield 80, 3) := by decide +kernel
theorem dX6_term_41 : decode cX6_term 41 = .ok (.bipush 24, 2) := by decide +kernel
theorem dX6_term_43 : decode cX6_term 43 = .ok (.if_icmp .ge 15, 3) := by decide +kernel
theorem dX6_term_46 : decode cX6_term 46 = .ok (.aload_n 0, 1) := by decide +kernel
theorem dX6_term_47 : decode cX6_term 47 = .ok (.getfield 55, 3) := by decide +kernel
theorem dX6_term_50 : decode cX6_term 50 = .ok (.getfield 81, 3) := by decide +kernel
theorem dX6_term_53 : decode cX6_term 53 = .ok (.bipush 40, 2) := by decide +kernel
theorem dX6_term_55 : decode cX6_term 55 = .ok (.if_icmp .lt 7, 3) := by decide +kernel
theorem dX6_term_58 : decode cX6_term 58 = .ok (.sipush (-200), 3) := by decide +kernel
theorem dX6_term_61 : decode cX6_term 61 = .ok (.ireturn, 1) := by decide +kernel
theorem dX6_term_62 : decode cX6_term 62 = .ok (.aload_n 0, 1) := by decide +kernel
theorem dX6_term_63 : decode cX6_term 63 = .ok (.getfield 36, 3) := by decide +kernel
theorem dX6_term_66 : decode cX6_term 66 = .ok (.aload_n 0, 1) := by decide +kernel
theorem dX6_term_67 : decode cX6_term 67 = .ok (.getfield 55, 3) := by decide +kernel
theorem dX6_term_70 : decode cX6_term 70 = .ok (.invokevirtual 84, 3) := by decide +kernel
theorem dX6_term_73 : decode cX6_term 73 = .ok (.aload_n 0, 1) := by decide +kernel
theorem dX6_term_74 : decode cX6_term 74 = .ok (.aload_n 0, 1) := by decide +kernel
theorem dX6_term_75 : decode cX6_term 75 = .ok (.getfield 55, 3) := by decide +kernel
theorem dX6_term_78 : decode cX6_term 78 = .ok (.iload_n 1, 1) := by decide +kernel
theorem dX6_term_79 : decode cX6_term 79 = .ok (.invokevirtual 88, 3) := by decide +kernel
theorem dX6_term_82 : decode cX6_term 82 = .ok (.invokevirtual 91, 3) := by decide +kernel
theorem dX6_term_85 : decode cX6_term 85 = .ok (.ireturn, 1) := by decide +kernel
theorem dX6_label_0 : decode cX6_label 0 = .ok (.aload_n 0, 1) := by decide +kernel
theorem dX6_label_1 : decode cX6_label 1 = .ok (.getfield 12, 3) := by decide +kernel
theorem dX6_label_4 : decode cX6_label 4 = .ok (.invokevirtual 69, 3) := by decide +kernel
theorem dX6_label_7 : decode cX6_label 7 = .ok (.istore_n 2, 1) := by decide +kernel
theorem dX6_label_8 : decode cX6_label 8 = .ok (.aload_n 0, 1) := by decide +kernel
theorem dX6_label_9 : decode cX6_label 9 = .ok (.getfield 55, 3) := by decide +kernel
theorem dX6_label_12 : decode cX6_label 12 = .ok (.iload_n 1, 1) := by decide +kernel
theorem dX6_label_13 : decode cX6_label 13 = .ok (.invokevirtual 94, 3) := by decide +kernel
theorem dX6_label_16 : decode cX6_label 16 = .ok (.ifCond .ne 7, 3) := by decide +kernel
theorem dX6_label_19 : decode cX6_label 19 = .ok (.sipush (-300), 3) := by decide +kernel
theorem dX6_label_22 : decode cX6_label 22 = .ok (.ireturn, 1) := by decide +kernel
theorem dX6_label_23 : decode cX6_label 23 = .ok (.iload_n 2, 1) := by decide +kernel
theorem dX6_label_24 : decode cX6_label 24 = .ok (.ifCond .ne 11, 3) := by decide +kernel
theorem dX6_label_27 : decode cX6_label 27 = .ok (.aload_n 0, 1) := by decide +kernel
theorem dX6_label_28 : decode cX6_label 28 = .ok (.getfield 12, 3) := by decide +kernel
theorem dX6_label_31 : decode cX6_label 31 = .ok (.invokevirtual 73, 3) := by decide +kernel
theorem dX6_label_34 : decode cX6_label 34 = .ok (.ireturn, 1) := by decide +kernel
theorem dX6_label_35 : decode cX6_label 35 = .ok (.aload_n 0, 1) := by decide +kernel
theorem dX6_label_36 : decode cX6_label 36 = .ok (.getfield 55, 3) := by decide +kernel
theorem dX6_label_39 : decode cX6_label 39 = .ok (.iload_n 2, 1) := by decide +kernel
theorem dX6_label_40 : decode cX6_label 40 = .ok (.invokevirtual 76, 3) := by decide +kernel
theorem dX6_label_43 : decode cX6_label 43 = .ok (.ifCond .lt 6, 3) := by decide +kernel
theorem dX6_label_46 : decode cX6_label 46 = .ok (.bipush (-100), 2) := by decide +kernel
theorem dX6_label_48 : decode cX6_label 48 = .ok (.ireturn, 1) := by decide +kernel
theorem dX6_label_49 : decode cX6_label 49 = .ok (.aload_n 0, 1) := by decide +kernel
theorem dX6_label_50 : decode cX6_label 50 = .ok (.getfield 55, 3) := by decide +kernel
theorem dX6_label_53 : decode cX6_label 53 = .ok (.getfield 81, 3) := by decide +kernel
theorem dX6_label_56 : decode cX6_label 56 = .ok (.bipush 40, 2) := by decide +kernel
theorem dX6_label_58 : decode cX6_label 58 = .ok (.if_icmp .lt 7, 3) := by decide +kernel
theorem dX6_label_61 : decode cX6_label 61 = .ok (.sipush (-200), 3) := by decide +kernel
theorem dX6_label_64 : decode cX6_label 64 = .ok (.ireturn, 1) := by decide +kernel
theorem dX6_label_65 : decode cX6_label 65 = .ok (.aload_n 0, 1) := by decide +kernel
theorem dX6_label_66 : decode cX6_label 66 = .ok (.getfield 36, 3) := by decide +kernel
theorem dX6_label_69 : decode cX6_label 69 = .ok (.aload_n 0, 1) := by decide +kernel
theorem dX6_label_70 : decode cX6_label 70 = .ok (.getfield 55, 3) := by decide +kernel
theorem dX6_label_73 : decode cX6_label 73 = .ok (.invokevirtual 84, 3) := by decide +kernel
theorem dX6_label_76 : decode cX6_label 76 = .ok (.aload_n 0, 1) := by decide +kernel
theorem dX6_label_77 : decode cX6_label 77 = .ok (.getfield 55, 3) := by decide +kernel
theorem dX6_label_80 : decode cX6_label 80 = .ok (.iload_n 2, 1) := by decide +kernel
theorem dX6_label_81 : decode cX6_label 81 = .ok (.iload_n 1, 1) := by decide +kernel
theorem dX6_label_82 : decode cX6_label 82 = .ok (.invokevirtual 97, 3) := by decide +kernel
theorem dX6_label_85 : decode cX6_label 85 = .ok (.aload_n 0, 1) := by decide +kernel
theorem dX6_label_86 : decode cX6_label 86 = .ok (.aload_n 0, 1) := by decide +kernel
theorem dX6_label_87 : decode cX6_label 87 = .ok (.getfield 55, 3) := by decide +kernel
theorem dX6_label_90 : decode cX6_label 90 = .ok (.iload_n 1, 1) := by decide +kernel
theorem dX6_label_91 : decode cX6_label 91 = .ok (.invokevirtual 101, 3) := by decide +kernel
theorem dX6_label_94 : decode cX6_label 94 = .ok (.invokevirtual 91, 3) := by decide +kernel
theorem dX6_label_97 : decode cX6_label 97 = .ok (.ireturn, 1) := by decide +kernel
theorem dX6_named_0 : decode cX6_named 0 = .ok (.aload_n 0, 1) := by decide +kernel
theorem dX6_named_1 : decode cX6_named 1 = .ok (.getfield 12, 3) := by decide +kernel
theorem dX6_named_4 : decode cX6_named 4 = .ok (.invokevirtual 69, 3) := by decide +kernel
theorem dX6_named_7 : decode cX6_named 7 = .ok (.istore_n 1, 1) := by decide +kernel
theorem dX6_named_8 : decode cX6_named 8 = .ok (.iload_n 1, 1) := by decide +kernel
theorem dX6_named_9 : decode cX6_named 9 = .ok (.ifCond .ne 11, 3) := by decide +kernel
theorem dX6_named_12 : decode cX6_named 12 = .ok (.aload_n 0, 1) := by decide +kernel
theorem dX6_named_13 : decode cX6_named 13 = .ok (.getfield 12, 3) := by decide +kernel
theorem dX6_named_16 : decode cX6_named 16 = .ok (.invokevirtual 73, 3) := by decide +kernel
theorem dX6_named_19 : decode cX6_named 19 = .ok (.ireturn, 1) := by decide +kernel
theorem dX6_named_20 : decode cX6_named 20 = .ok (.aload_n 0, 1) := by decide +kernel
theorem dX6_named_21 : decode cX6_named 21 = .ok (.getfield 55, 3) := by decide +kernel
theorem dX6_named_24 : decode cX6_named 24 = .ok (.iload_n 1, 1) := by decide +kernel
theorem dX6_named_25 : decode cX6_named 25 = .ok (.invokevirtual 76, 3) := by decide +kernel
theorem dX6_named_28 : decode cX6_named 28 = .ok (.istore_n 2, 1) := by decide +kernel
theorem dX6_named_29 : decode cX6_named 29 = .ok (.iload_n 2, 1) := by decide +kernel
theorem dX6_named_30 : decode cX6_named 30 = .ok (.ifCond .lt 7, 3) := by decide +kernel
theorem dX6_named_33 : decode cX6_named 33 = .ok (.iload_n 2, 1) := by decide +kernel
theorem dX6_named_34 : decode cX6_named 34 = .ok (.goto 5, 3) := by decide +kernel
theorem dX6_named_37 : decode cX6_named 37 = .ok (.bipush (-100), 2) := by decide +kernel
theorem dX6_named_39 : decode cX6_named 39 = .ok (.ireturn, 1) := by decide +kernel
theorem dX6_labels_0 : decode cX6_labels 0 = .ok (.aload_n 0, 1) := by decide +kernel
theorem dX6_labels_1 : decode cX6_labels 1 = .ok (.getfield 55, 3) := by decide +kernel
theorem dX6_labels_4 : decode cX6_labels 4 = .ok (.iload_n 1, 1) := by decide +kernel
theorem dX6_labels_5 : decode cX6_labels 5 = .ok (.invokevirtual 94, 3) := by decide +kernel
theorem dX6_labels_8 : decode cX6_labels 8 = .ok (.ifCond .ne 5, 3) := by decide +kernel
theorem dX6_labels_11 : decode cX6_labels 11 = .ok (.iconst (-1), 1) := by decide +kernel
theorem dX6_labels_12 : decode cX6_labels 12 = .ok (.ireturn, 1) := by decide +kernel
theorem dX6_labels_13 : decode cX6_labels 13 = .ok (.aload_n 0, 1) := by decide +kernel
theorem dX6_labels_14 : decode cX6_labels 14 = .ok (.getfield 27, 3) := by decide +kernel
theorem dX6_labels_17 : decode cX6_labels 17 = .ok (.invokevirtual 104, 3) := by decide +kernel
theorem dX6_labels_20 : decode cX6_labels 20 = .ok (.iconst 0, 1) := by decide +kernel
theorem dX6_labels_21 : decode cX6_labels 21 = .ok (.istore_n 2, 1) := by decide +kernel
theorem dX6_labels_22 : decode cX6_labels 22 = .ok (.iload_n 2, 1) := by decide +kernel
theorem dX6_labels_23 : decode cX6_labels 23 = .ok (.aload_n 0, 1) := by decide +kernel
theorem dX6_labels_24 : decode cX6_labels 24 = .ok (.getfield 55, 3) := by decide +kernel
theorem dX6_labels_27 : decode cX6_labels 27 = .ok (.getfield 81, 3) := by decide +kernel
theorem dX6_labels_30 : decode cX6_labels 30 = .ok (.if_icmp .ge 39, 3) := by decide +kernel
theorem dX6_labels_33 : decode cX6_labels 33 = .ok (.aload_n 0, 1) := by decide +kernel
theorem dX6_labels_34 : decode cX6_labels 34 = .ok (.getfield 55, 3) := by decide +kernel
theorem dX6_labels_37 : decode cX6_labels 37 = .ok (.getfield 109, 3) := by decide +kernel
theorem dX6_labels_40 : decode cX6_labels 40 = .ok (.iload_n 2, 1) := by decide +kernel
theorem dX6_labels_41 : decode cX6_labels 41 = .ok (.iaload, 1) := by decide +kernel
theorem dX6_labels_42 : decode cX6_labels 42 = .ok (.iload_n 1, 1) := by decide +kernel
theorem dX6_labels_43 : decode cX6_labels 43 = .ok (.if_icmp .ne 20, 3) := by decide +kernel
theorem dX6_labels_46 : decode cX6_labels 46 = .ok (.aload_n 0, 1) := by decide +kernel
theorem dX6_labels_47 : decode cX6_labels 47 = .ok (.getfield 27, 3) := by decide +kernel
theorem dX6_labels_50 : decode cX6_labels 50 = .ok (.aload_n 0, 1) := by decide +kernel
theorem dX6_labels_51 : decode cX6_labels 51 = .ok (.getfield 55, 3) := by decide +kernel
theorem dX6_labels_54 : decode cX6_labels 54 = .ok (.getfield 113, 3) := by decide +kernel
theorem dX6_labels_57 : decode cX6_labels 57 = .ok (.iload_n 2, 1) := by decide +kernel
theorem dX6_labels_58 : decode cX6_labels 58 = .ok (.iaload, 1) := by decide +kernel
theorem dX6_labels_59 : decode cX6_labels 59 = .ok (.i2l, 1) := by decide +kernel
theorem dX6_labels_60 : decode cX6_labels 60 = .ok (.invokevirtual 116, 3) := by decide +kernel
theorem dX6_labels_63 : decode cX6_labels 63 = .ok (.iinc 2 1, 3) := by decide +kernel
theorem dX6_labels_66 : decode cX6_labels 66 = .ok (.goto (-44), 3) := by decide +kernel
theorem dX6_labels_69 : decode cX6_labels 69 = .ok (.aload_n 0, 1) := by decide +kernel
theorem dX6_labels_70 : decode cX6_labels 70 = .ok (.getfield 27, 3) := by decide +kernel
theorem dX6_labels_73 : decode cX6_labels 73 = .ok (.getfield 120, 3) := by decide +kernel
theorem dX6_labels_76 : decode cX6_labels 76 = .ok (.ireturn, 1) := by decide +kernel
theorem dX6_links_0 : decode cX6_links 0 = .ok (.aload_n 0, 1) := by decide +kernel
theorem dX6_links_1 : decode cX6_links 1 = .ok (.getfield 36, 3) := by decide +kernel
theorem dX6_links_4 : decode cX6_links 4 = .ok (.aload_n 0, 1) := by decide +kernel
theorem dX6_links_5 : decode cX6_links 5 = .ok (.getfield 55, 3) := by decide +kernel
theorem dX6_links_8 : decode cX6_links 8 = .ok (.invokevirtual 84, 3) := by decide +kernel
theorem dX6_links_11 : decode cX6_links 11 = .ok (.aload_n 0, 1) := by decide +kernel
theorem dX6_links_12 : decode cX6_links 12 = .ok (.aload_n 0, 1) := by decide +kernel
theorem dX6_links_13 : decode cX6_links 13 = .ok (.getfield 19, 3) := by decide +kernel
theorem dX6_links_16 : decode cX6_links 16 = .ok (.aload_n 0, 1) := by decide +kernel
theorem dX6_links_17 : decode cX6_links 17 = .ok (.getfield 55, 3) := by decide +kernel
theorem dX6_links_20 : decode cX6_links 20 = .ok (.iload_n 1, 1) := by decide +kernel
theorem dX6_links_21 : decode cX6_links 21 = .ok (.iload_n 2, 1) := by decide +kernel
theorem dX6_links_22 : decode cX6_links 22 = .ok (.invokevirtual 121, 3) := by decide +kernel
theorem dX6_links_25 : decode cX6_links 25 = .ok (.invokevirtual 91, 3) := by decide +kernel
theorem dX6_links_28 : decode cX6_links 28 = .ok (.ireturn, 1) := by decide +kernel
theorem dX6_unlinks_0 : decode cX6_unlinks 0 = .ok (.aload_n 0, 1) := by decide +kernel
theorem dX6_unlinks_1 : decode cX6_unlinks 1 = .ok (.getfield 36, 3) := by decide +kernel
theorem dX6_unlinks_4 : decode cX6_unlinks 4 = .ok (.aload_n 0, 1) := by decide +kernel
theorem dX6_unlinks_5 : decode cX6_unlinks 5 = .ok (.getfield 55, 3) := by decide +kernel
theorem dX6_unlinks_8 : decode cX6_unlinks 8 = .ok (.invokevirtual 84, 3) := by decide +kernel
theorem dX6_unlinks_11 : decode cX6_unlinks 11 = .ok (.aload_n 0, 1) := by decide +kernel
theorem dX6_unlinks_12 : decode cX6_unlinks 12 = .ok (.aload_n 0, 1) := by decide +kernel
theorem dX6_unlinks_13 : decode cX6_unlinks 13 = .ok (.getfield 19, 3) := by decide +kernel
theorem dX6_unlinks_16 : decode cX6_unlinks 16 = .ok (.aload_n 0, 1) := by decide +kernel
theorem dX6_unlinks_17 : decode cX6_unlinks 17 = .ok (.getfield 55, 3) := by decide +kernel
theorem dX6_unlinks_20 : decode cX6_unlinks 20 = .ok (.iload_n 1, 1) := by decide +kernel
theorem dX6_unlinks_21 : decode cX6_unlinks 21 = .ok (.iload_n 2, 1) := by decide +kernel
theorem dX6_unlinks_22 : decode cX6_unlinks 22 = .ok (.invokevirtual 125, 3) := by decide +kernel
theorem dX6_unlinks_25 : decode cX6_unlinks 25 = .ok (.invokevirtual 91, 3) := by decide +kernel
theorem dX6_unlinks_28 : decode cX6_unlinks 28 = .ok (.ireturn, 1) := by decide +kernel
theorem dX6_net_0 : decode cX6_net 0 = .ok (.aload_n 0, 1) := by decide +kernel
theorem dX6_net_1 : decode cX6_net 1 = .ok (.getfield 12, 3) := by decide +kernel
theorem dX6_net_4 : decode cX6_net 4 = .ok (.aload_n 0, 1) := by decide +kernel
theorem dX6_net_5 : decode cX6_net 5 = .ok (.getfield 55, 3) := by decide +kernel
theorem dX6_net_8 : decode cX6_net 8 = .ok (.invokevirtual 128, 3) := by decide +kernel
theorem dX6_net_11 : decode cX6_net 11 = .ok (.istore_n 1, 1) := by decide +kernel
theorem dX6_net_12 : decode cX6_net 12 = .ok (.aload_n 0, 1) := by decide +kernel
theorem dX6_net_13 : decode cX6_net 13 = .ok (.getfield 12, 3) := by decide +kernel
theorem dX6_net_16 : decode cX6_net 16 = .ok (.invokevirtual 132, 3) := by decide +kernel
theorem dX6_net_19 : decode cX6_net 19 = .ok (.iload_n 1, 1) := by decide +kernel
theorem dX6_net_20 : decode cX6_net 20 = .ok (.ifCond .ne 11, 3) := by decide +kernel
theorem dX6_net_23 : decode cX6_net 23 = .ok (.aload_n 0, 1) := by decide +kernel
theorem dX6_net_24 : decode cX6_net 24 = .ok (.getfield 12, 3) := by decide +kernel
theorem dX6_net_27 : decode cX6_net 27 = .ok (.invokevirtual 73, 3) := by decide +kernel
theorem dX6_net_30 : decode cX6_net 30 = .ok (.ireturn, 1) := by decide +kernel
theorem dX6_net_31 : decode cX6_net 31 = .ok (.aload_n 0, 1) := by decide +kernel
theorem dX6_net_32 : decode cX6_net 32 = .ok (.getfield 36, 3) := by decide +kernel
theorem dX6_net_35 : decode cX6_net 35 = .ok (.aload_n 0, 1) := by decide +kernel
theorem dX6_net_36 : decode cX6_net 36 = .ok (.getfield 55, 3) := by decide +kernel
theorem dX6_net_39 : decode cX6_net 39 = .ok (.invokevirtual 84, 3) := by decide +kernel
theorem dX6_net_42 : decode cX6_net 42 = .ok (.aload_n 0, 1) := by decide +kernel
theorem dX6_net_43 : decode cX6_net 43 = .ok (.getfield 55, 3) := by decide +kernel
theorem dX6_net_46 : decode cX6_net 46 = .ok (.invokevirtual 133, 3) := by decide +kernel
theorem dX6_net_49 : decode cX6_net 49 = .ok (.istore_n 2, 1) := by decide +kernel
theorem dX6_net_50 : decode cX6_net 50 = .ok (.iconst 0, 1) := by decide +kernel
theorem dX6_net_51 : decode cX6_net 51 = .ok (.istore_n 3, 1) := by decide +kernel
theorem dX6_net_52 : decode cX6_net 52 = .ok (.iload_n 3, 1) := by decide +kernel
theorem dX6_net_53 : decode cX6_net 53 = .ok (.aload_n 0, 1) := by decide +kernel
theorem dX6_net_54 : decode cX6_net 54 = .ok (.getfield 12, 3) := by decide +kernel
theorem dX6_net_57 : decode cX6_net 57 = .ok (.getfield 136, 3) := by decide +kernel
theorem dX6_net_60 : decode cX6_net 60 = .ok (.if_icmp .ge 32, 3) := by decide +kernel
theorem dX6_net_63 : decode cX6_net 63 = .ok (.aload_n 0, 1) := by decide +kernel
theorem dX6_net_64 : decode cX6_net 64 = .ok (.getfield 19, 3) := by decide +kernel
theorem dX6_net_67 : decode cX6_net 67 = .ok (.aload_n 0, 1) := by decide +kernel
theorem dX6_net_68 : decode cX6_net 68 = .ok (.getfield 55, 3) := by decide +kernel
theorem dX6_net_71 : decode cX6_net 71 = .ok (.aload_n 0, 1) := by decide +kernel
theorem dX6_net_72 : decode cX6_net 72 = .ok (.getfield 12, 3) := by decide +kernel
theorem dX6_net_75 : decode cX6_net 75 = .ok (.getfield 139, 3) := by decide +kernel
theorem dX6_net_78 : decode cX6_net 78 = .ok (.iload_n 3, 1) := by decide +kernel
theorem dX6_net_79 : decode cX6_net 79 = .ok (.iaload, 1) := by decide +kernel
theorem dX6_net_80 : decode cX6_net 80 = .ok (.invokevirtual 142, 3) := by decide +kernel
theorem dX6_net_83 : decode cX6_net 83 = .ok (.ifCond .eq 9, 3) := by decide +kernel
theorem dX6_net_86 : decode cX6_net 86 = .ok (.iinc 3 1, 3) := by decide +kernel
theorem dX6_net_89 : decode cX6_net 89 = .ok (.goto (-37), 3) := by decide +kernel
theorem dX6_net_92 : decode cX6_net 92 = .ok (.aload_n 0, 1) := by decide +kernel
theorem dX6_net_93 : decode cX6_net 93 = .ok (.getfield 55, 3) := by decide +kernel
theorem dX6_net_96 : decode cX6_net 96 = .ok (.invokevirtual 133, 3) := by decide +kernel
theorem dX6_net_99 : decode cX6_net 99 = .ok (.iload_n 2, 1) := by decide +kernel
theorem dX6_net_100 : decode cX6_net 100 = .ok (.if_icmp .le 10, 3) := by decide +kernel
theorem dX6_net_103 : decode cX6_net 103 = .ok (.aload_n 0, 1) := by decide +kernel
theorem dX6_net_104 : decode cX6_net 104 = .ok (.getfield 36, 3) := by decide +kernel
theorem dX6_net_107 : decode cX6_net 107 = .ok (.invokevirtual 146, 3) := by decide +kernel
theorem dX6_net_110 : decode cX6_net 110 = .ok (.aload_n 0, 1) := by decide +kernel
theorem dX6_net_111 : decode cX6_net 111 = .ok (.getfield 27, 3) := by decide +kernel
theorem dX6_net_114 : decode cX6_net 114 = .ok (.iload_n 3, 1) := by decide +kernel
theorem dX6_net_115 : decode cX6_net 115 = .ok (.aload_n 0, 1) := by decide +kernel
theorem dX6_net_116 : decode cX6_net 116 = .ok (.getfield 12, 3) := by decide +kernel
theorem dX6_net_119 : decode cX6_net 119 = .ok (.getfield 136, 3) := by decide +kernel
theorem dX6_net_122 : decode cX6_net 122 = .ok (.if_icmp .ge 7, 3) := by decide +kernel
theorem dX6_net_125 : decode cX6_net 125 = .ok (.lconst 1, 1) := by decide +kernel
theorem dX6_net_126 : decode cX6_net 126 = .ok (.goto 4, 3) := by decide +kernel
theorem dX6_net_129 : decode cX6_net 129 = .ok (.lconst 0, 1) := by decide +kernel
theorem dX6_net_130 : decode cX6_net 130 = .ok (.invokevirtual 149, 3) := by decide +kernel
theorem dX6_net_133 : decode cX6_net 133 = .ok (.iload_n 3, 1) := by decide +kernel
theorem dX6_net_134 : decode cX6_net 134 = .ok (.ireturn, 1) := by decide +kernel
theorem dX6_place_0 : decode cX6_place 0 = .ok (.aload_n 0, 1) := by decide +kernel
theorem dX6_place_1 : decode cX6_place 1 = .ok (.getfield 55, 3) := by decide +kernel
theorem dX6_place_4 : decode cX6_place 4 = .ok (.iload_n 1, 1) := by decide +kernel
theorem dX6_place_5 : decode cX6_place 5 = .ok (.invokevirtual 94, 3) := by decide +kernel
theorem dX6_place_8 : decode cX6_place 8 = .ok (.ifCond .ne 13, 3) := by decide +kernel
theorem dX6_place_11 : decode cX6_place 11 = .ok (.new 152, 3) := by decide +kernel
theorem dX6_place_14 : decode cX6_place 14 = .ok (.dup, 1) := by decide +kernel
theorem dX6_place_15 : decode cX6_place 15 = .ok (.ldc 154, 2) := by decide +kernel
theorem dX6_place_17 : decode cX6_place 17 = .ok (.invokespecial 156, 3) := by decide +kernel
theorem dX6_place_20 : decode cX6_place 20 = .ok (.athrow, 1) := by decide +kernel
theorem dX6_place_21 : decode cX6_place 21 = .ok (.aload_n 0, 1) := by decide +kernel
theorem dX6_place_22 : decode cX6_place 22 = .ok (.getfield 55, 3) := by decide +kernel
theorem dX6_place_25 : decode cX6_place 25 = .ok (.iload_n 1, 1) := by decide +kernel
theorem dX6_place_26 : decode cX6_place 26 = .ok (.invokevirtual 159, 3) := by decide +kernel
theorem dX6_place_29 : decode cX6_place 29 = .ok (.ireturn, 1) := by decide +kernel
theorem dX6_at_0 : decode cX6_at 0 = .ok (.iload_n 1, 1) := by decide +kernel
theorem dX6_at_1 : decode cX6_at 1 = .ok (.ifCond .lt 14, 3) := by decide +kernel
theorem dX6_at_4 : decode cX6_at 4 = .ok (.iload_n 1, 1) := by decide +kernel
theorem dX6_at_5 : decode cX6_at 5 = .ok (.aload_n 0, 1) := by decide +kernel
theorem dX6_at_6 : decode cX6_at 6 = .ok (.getfield 55, 3) := by decide +kernel
theorem dX6_at_9 : decode cX6_at 9 = .ok (.getfield 80, 3) := by decide +kernel
theorem dX6_at_12 : decode cX6_at 12 = .ok (.if_icmp .lt 13, 3) := by decide +kernel
theorem dX6_at_15 : decode cX6_at 15 = .ok (.new 152, 3) := by decide +kernel
theorem dX6_at_18 : decode cX6_at 18 = .ok (.dup, 1) := by decide +kernel
theorem dX6_at_19 : decode cX6_at 19 = .ok (.ldc 162, 2) := by decide +kernel
theorem dX6_at_21 : decode cX6_at 21 = .ok (.invokespecial 156, 3) := by decide +kernel
theorem dX6_at_24 : decode cX6_at 24 = .ok (.athrow, 1) := by decide +kernel
theorem dX6_at_25 : decode cX6_at 25 = .ok (.aload_n 0, 1) := by decide +kernel
theorem dX6_at_26 : decode cX6_at 26 = .ok (.getfield 55, 3) := by decide +kernel
theorem dX6_at_29 : decode cX6_at 29 = .ok (.getfield 164, 3) := by decide +kernel
theorem dX6_at_32 : decode cX6_at 32 = .ok (.iload_n 1, 1) := by decide +kernel
theorem dX6_at_33 : decode cX6_at 33 = .ok (.iaload, 1) := by decide +kernel
theorem dX6_at_34 : decode cX6_at 34 = .ok (.ireturn, 1) := by decide +kernel
theorem dX6_would_0 : decode cX6_would 0 = .ok (.aload_n 0, 1) := by decide +kernel
theorem dX6_would_1 : decode cX6_would 1 = .ok (.getfield 43, 3) := by decide +kernel
theorem dX6_would_4 : decode cX6_would 4 = .ok (.aload_n 0, 1) := by decide +kernel
theorem dX6_would_5 : decode cX6_would 5 = .ok (.getfield 55, 3) := by decide +kernel
theorem dX6_would_8 : decode cX6_would 8 = .ok (.invokevirtual 167, 3) := by decide +kernel
theorem dX6_would_11 : decode cX6_would 11 = .ok (.aload_n 0, 1) := by decide +kernel
theorem dX6_would_12 : decode cX6_would 12 = .ok (.getfield 19, 3) := by decide +kernel
theorem dX6_would_15 : decode cX6_would 15 = .ok (.aload_n 0, 1) := by decide +kernel
theorem dX6_would_16 : decode cX6_would 16 = .ok (.getfield 43, 3) := by decide +kernel
theorem dX6_would_19 : decode cX6_would 19 = .ok (.iload_n 1, 1) := by decide +kernel
theorem dX6_would_20 : decode cX6_would 20 = .ok (.iload_n 2, 1) := by decide +kernel
theorem dX6_would_21 : decode cX6_would 21 = .ok (.invokevirtual 121, 3) := by decide +kernel
theorem dX6_would_24 : decode cX6_would 24 = .ok (.istore_n 3, 1) := by decide +kernel
theorem dX6_would_25 : decode cX6_would 25 = .ok (.iload_n 3, 1) := by decide +kernel
theorem dX6_would_26 : decode cX6_would 26 = .ok (.ifCond .lt 49, 3) := by decide +kernel
theorem dX6_would_29 : decode cX6_would 29 = .ok (.aload_n 0, 1) := by decide +kernel
theorem dX6_would_30 : decode cX6_would 30 = .ok (.getfield 27, 3) := by decide +kernel
theorem dX6_would_33 : decode cX6_would 33 = .ok (.invokevirtual 104, 3) := by decide +kernel
theorem dX6_would_36 : decode cX6_would 36 = .ok (.iconst 0, 1) := by decide +kernel
theorem dX6_would_37 : decode cX6_would 37 = .ok (.istore 4, 2) := by decide +kernel
theorem dX6_would_39 : decode cX6_would 39 = .ok (.iload 4, 2) := by decide +kernel
theorem dX6_would_41 : decode cX6_would 41 = .ok (.aload_n 0, 1) := by decide +kernel
theorem dX6_would_42 : decode cX6_would 42 = .ok (.getfield 43, 3) := by decide +kernel
theorem dX6_would_45 : decode cX6_would 45 = .ok (.getfield 80, 3) := by decide +kernel
theorem dX6_would_48 : decode cX6_would 48 = .ok (.if_icmp .ge 27, 3) := by decide +kernel
theorem dX6_would_51 : decode cX6_would 51 = .ok (.aload_n 0, 1) := by decide +kernel
theorem dX6_would_52 : decode cX6_would 52 = .ok (.getfield 27, 3) := by decide +kernel
theorem dX6_would_55 : decode cX6_would 55 = .ok (.aload_n 0, 1) := by decide +kernel
theorem dX6_would_56 : decode cX6_would 56 = .ok (.getfield 43, 3) := by decide +kernel
theorem dX6_would_59 : decode cX6_would 59 = .ok (.getfield 164, 3) := by decide +kernel
theorem dX6_would_62 : decode cX6_would 62 = .ok (.iload 4, 2) := by decide +kernel
theorem dX6_would_64 : decode cX6_would 64 = .ok (.iaload, 1) := by decide +kernel
theorem dX6_would_65 : decode cX6_would 65 = .ok (.i2l, 1) := by decide +kernel
theorem dX6_would_66 : decode cX6_would 66 = .ok (.invokevirtual 116, 3) := by decide +kernel
theorem dX6_would_69 : decode cX6_would 69 = .ok (.iinc 4 1, 3) := by decide +kernel
theorem dX6_would_72 : decode cX6_would 72 = .ok (.goto (-33), 3) := by decide +kernel
theorem dX6_would_75 : decode cX6_would 75 = .ok (.iload_n 3, 1) := by decide +kernel
theorem dX6_would_76 : decode cX6_would 76 = .ok (.ireturn, 1) := by decide +kernel
theorem dX6_kin_0 : decode cX6_kin 0 = .ok (.aload_n 0, 1) := by decide +kernel
theorem dX6_kin_1 : decode cX6_kin 1 = .ok (.getfield 55, 3) := by decide +kernel
theorem dX6_kin_4 : decode cX6_kin 4 = .ok (.iload_n 1, 1) := by decide +kernel
theorem dX6_kin_5 : decode cX6_kin 5 = .ok (.invokevirtual 94, 3) := by decide +kernel
theorem dX6_kin_8 : decode cX6_kin 8 = .ok (.ifCond .eq 12, 3) := by decide +kernel
theorem dX6_kin_11 : decode cX6_kin 11 = .ok (.iload_n 2, 1) := by decide +kernel
theorem dX6_kin_12 : decode cX6_kin 12 = .ok (.ifCond .lt 8, 3) := by decide +kernel
theorem dX6_kin_15 : decode cX6_kin 15 = .ok (.iload_n 2, 1) := by decide +kernel
theorem dX6_kin_16 : decode cX6_kin 16 = .ok (.iconst 3, 1) := by decide +kernel
theorem dX6_kin_17 : decode cX6_kin 17 = .ok (.if_icmp .le 5, 3) := by decide +kernel
theorem dX6_kin_20 : decode cX6_kin 20 = .ok (.iconst (-1), 1) := by decide +kernel
theorem dX6_kin_21 : decode cX6_kin 21 = .ok (.ireturn, 1) := by decide +kernel
theorem dX6_kin_22 : decode cX6_kin 22 = .ok (.aload_n 0, 1) := by decide +kernel
theorem dX6_kin_23 : decode cX6_kin 23 = .ok (.iload_n 1, 1) := by decide +kernel
theorem dX6_kin_24 : decode cX6_kin 24 = .ok (.iload_n 2, 1) := by decide +kernel
theorem dX6_kin_25 : decode cX6_kin 25 = .ok (.invokevirtual 170, 3) := by decide +kernel
theorem dX6_kin_28 : decode cX6_kin 28 = .ok (.istore_n 3, 1) := by decide +kernel
theorem dX6_kin_29 : decode cX6_kin 29 = .ok (.aload_n 0, 1) := by decide +kernel
theorem dX6_kin_30 : decode cX6_kin 30 = .ok (.getfield 27, 3) := by decide +kernel
theorem dX6_kin_33 : decode cX6_kin 33 = .ok (.iload_n 3, 1) := by decide +kernel
theorem dX6_kin_34 : decode cX6_kin 34 = .ok (.invokestatic 174, 3) := by decide +kernel
theorem dX6_kin_37 : decode cX6_kin 37 = .ok (.i2l, 1) := by decide +kernel
theorem dX6_kin_38 : decode cX6_kin 38 = .ok (.invokevirtual 149, 3) := by decide +kernel
theorem dX6_kin_41 : decode cX6_kin 41 = .ok (.iload_n 3, 1) := by decide +kernel
theorem dX6_kin_42 : decode cX6_kin 42 = .ok (.ireturn, 1) := by decide +kernel
theorem dX6_kinOf_0 : decode cX6_kinOf 0 = .ok (.iload_n 2, 1) := by decide +kernel
theorem dX6_kinOf_1 : decode cX6_kinOf 1 = .ok (.tableswitch 55 0 2 #[27, 37, 46], 27) := by decide +kernel
theorem dX6_kinOf_28 : decode cX6_kinOf 28 = .ok (.aload_n 0, 1) := by decide +kernel
theorem dX6_kinOf_29 : decode cX6_kinOf 29 = .ok (.getfield 55, 3) := by decide +kernel
theorem dX6_kinOf_32 : decode cX6_kinOf 32 = .ok (.getfield 179, 3) := by decide +kernel
theorem dX6_kinOf_35 : decode cX6_kinOf 35 = .ok (.iload_n 1, 1) := by decide +kernel
theorem dX6_kinOf_36 : decode cX6_kinOf 36 = .ok (.iaload, 1) := by decide +kernel
theorem dX6_kinOf_37 : decode cX6_kinOf 37 = .ok (.ireturn, 1) := by decide +kernel
theorem dX6_kinOf_38 : decode cX6_kinOf 38 = .ok (.aload_n 0, 1) := by decide +kernel
theorem dX6_kinOf_39 : decode cX6_kinOf 39 = .ok (.getfield 55, 3) := by decide +kernel
theorem dX6_kinOf_42 : decode cX6_kinOf 42 = .ok (.iload_n 1, 1) := by decide +kernel
theorem dX6_kinOf_43 : decode cX6_kinOf 43 = .ok (.invokevirtual 182, 3) := by decide +kernel
theorem dX6_kinOf_46 : decode cX6_kinOf 46 = .ok (.ireturn, 1) := by decide +kernel
theorem dX6_kinOf_47 : decode cX6_kinOf 47 = .ok (.aload_n 0, 1) := by decide +kernel
theorem dX6_kinOf_48 : decode cX6_kinOf 48 = .ok (.getfield 55, 3) := by decide +kernel
theorem dX6_kinOf_51 : decode cX6_kinOf 51 = .ok (.iload_n 1, 1) := by decide +kernel
theorem dX6_kinOf_52 : decode cX6_kinOf 52 = .ok (.invokevirtual 185, 3) := by decide +kernel
theorem dX6_kinOf_55 : decode cX6_kinOf 55 = .ok (.ireturn, 1) := by decide +kernel
theorem dX6_kinOf_56 : decode cX6_kinOf 56 = .ok (.aload_n 0, 1) := by decide +kernel
theorem dX6_kinOf_57 : decode cX6_kinOf 57 = .ok (.getfield 55, 3) := by decide +kernel
theorem dX6_kinOf_60 : decode cX6_kinOf 60 = .ok (.iload_n 1, 1) := by decide +kernel
theorem dX6_kinOf_61 : decode cX6_kinOf 61 = .ok (.invokevirtual 188, 3) := by decide +kernel
theorem dX6_kinOf_64 : decode cX6_kinOf 64 = .ok (.ireturn, 1) := by decide +kernel
theorem dX6_way_0 : decode cX6_way 0 = .ok (.aload_n 0, 1) := by decide +kernel
theorem dX6_way_1 : decode cX6_way 1 = .ok (.getfield 55, 3) := by decide +kernel
theorem dX6_way_4 : decode cX6_way 4 = .ok (.iload_n 1, 1) := by decide +kernel
theorem dX6_way_5 : decode cX6_way 5 = .ok (.iload_n 2, 1) := by decide +kernel
theorem dX6_way_6 : decode cX6_way 6 = .ok (.invokevirtual 191, 3) := by decide +kernel
theorem dX6_way_9 : decode cX6_way 9 = .ok (.ifCond .ne 5, 3) := by decide +kernel
theorem dX6_way_12 : decode cX6_way 12 = .ok (.iconst (-1), 1) := by decide +kernel
theorem dX6_way_13 : decode cX6_way 13 = .ok (.ireturn, 1) := by decide +kernel
theorem dX6_way_14 : decode cX6_way 14 = .ok (.aload_n 0, 1) := by decide +kernel
theorem dX6_way_15 : decode cX6_way 15 = .ok (.getfield 32, 3) := by decide +kernel
theorem dX6_way_18 : decode cX6_way 18 = .ok (.aload_n 0, 1) := by decide +kernel
theorem dX6_way_19 : decode cX6_way 19 = .ok (.getfield 55, 3) := by decide +kernel
theorem dX6_way_22 : decode cX6_way 22 = .ok (.iload_n 1, 1) := by decide +kernel
theorem dX6_way_23 : decode cX6_way 23 = .ok (.iload_n 2, 1) := by decide +kernel
theorem dX6_way_24 : decode cX6_way 24 = .ok (.iconst 1, 1) := by decide +kernel
theorem dX6_way_25 : decode cX6_way 25 = .ok (.invokevirtual 195, 3) := by decide +kernel
theorem dX6_way_28 : decode cX6_way 28 = .ok (.istore_n 3, 1) := by decide +kernel
theorem dX6_way_29 : decode cX6_way 29 = .ok (.iload_n 3, 1) := by decide +kernel
theorem dX6_way_30 : decode cX6_way 30 = .ok (.ifCond .ne 6, 3) := by decide +kernel
theorem dX6_way_33 : decode cX6_way 33 = .ok (.bipush (-2), 2) := by decide +kernel
theorem dX6_way_35 : decode cX6_way 35 = .ok (.ireturn, 1) := by decide +kernel
theorem dX6_way_36 : decode cX6_way 36 = .ok (.aload_n 0, 1) := by decide +kernel
theorem dX6_way_37 : decode cX6_way 37 = .ok (.getfield 32, 3) := by decide +kernel
theorem dX6_way_40 : decode cX6_way 40 = .ok (.aload_n 0, 1) := by decide +kernel
theorem dX6_way_41 : decode cX6_way 41 = .ok (.getfield 55, 3) := by decide +kernel
theorem dX6_way_44 : decode cX6_way 44 = .ok (.iload_n 1, 1) := by decide +kernel
theorem dX6_way_45 : decode cX6_way 45 = .ok (.aload_n 0, 1) := by decide +kernel
theorem dX6_way_46 : decode cX6_way 46 = .ok (.getfield 27, 3) := by decide +kernel
theorem dX6_way_49 : decode cX6_way 49 = .ok (.invokevirtual 201, 3) := by decide +kernel
theorem dX6_way_52 : decode cX6_way 52 = .ok (.iload_n 3, 1) := by decide +kernel
theorem dX6_way_53 : decode cX6_way 53 = .ok (.ireturn, 1) := by decide +kernel
theorem dX6_ways_0 : decode cX6_ways 0 = .ok (.aload_n 0, 1) := by decide +kernel
theorem dX6_ways_1 : decode cX6_ways 1 = .ok (.getfield 55, 3) := by decide +kernel
theorem dX6_ways_4 : decode cX6_ways 4 = .ok (.iload_n 1, 1) := by decide +kernel
theorem dX6_ways_5 : decode cX6_ways 5 = .ok (.iload_n 2, 1) := by decide +kernel
theorem dX6_ways_6 : decode cX6_ways 6 = .ok (.invokevirtual 191, 3) := by decide +kernel
theorem dX6_ways_9 : decode cX6_ways 9 = .ok (.ifCond .ne 5, 3) := by decide +kernel
theorem dX6_ways_12 : decode cX6_ways 12 = .ok (.iconst (-1), 1) := by decide +kernel
theorem dX6_ways_13 : decode cX6_ways 13 = .ok (.ireturn, 1) := by decide +kernel
theorem dX6_ways_14 : decode cX6_ways 14 = .ok (.aload_n 0, 1) := by decide +kernel
theorem dX6_ways_15 : decode cX6_ways 15 = .ok (.getfield 32, 3) := by decide +kernel
theorem dX6_ways_18 : decode cX6_ways 18 = .ok (.aload_n 0, 1) := by decide +kernel
theorem dX6_ways_19 : decode cX6_ways 19 = .ok (.getfield 55, 3) := by decide +kernel
theorem dX6_ways_22 : decode cX6_ways 22 = .ok (.iload_n 1, 1) := by decide +kernel
theorem dX6_ways_23 : decode cX6_ways 23 = .ok (.invokevirtual 205, 3) := by decide +kernel
theorem dX6_ways_26 : decode cX6_ways 26 = .ok (.aload_n 0, 1) := by decide +kernel
theorem dX6_ways_27 : decode cX6_ways 27 = .ok (.getfield 32, 3) := by decide +kernel
theorem dX6_ways_30 : decode cX6_ways 30 = .ok (.getfield 209, 3) := by decide +kernel
theorem dX6_ways_33 : decode cX6_ways 33 = .ok (.iload_n 2, 1) := by decide +kernel
theorem dX6_ways_34 : decode cX6_ways 34 = .ok (.laload, 1) := by decide +kernel
theorem dX6_ways_35 : decode cX6_ways 35 = .ok (.lstore_n 3, 1) := by decide +kernel
theorem dX6_ways_36 : decode cX6_ways 36 = .ok (.lload_n 3, 1) := by decide +kernel
theorem dX6_ways_37 : decode cX6_ways 37 = .ok (.lconst 0, 1) := by decide +kernel
theorem dX6_ways_38 : decode cX6_ways 38 = .ok (.lcmp, 1) := by decide +kernel
theorem dX6_ways_39 : decode cX6_ways 39 = .ok (.ifCond .ne 6, 3) := by decide +kernel
theorem dX6_ways_42 : decode cX6_ways 42 = .ok (.bipush (-2), 2) := by decide +kernel
theorem dX6_ways_44 : decode cX6_ways 44 = .ok (.ireturn, 1) := by decide +kernel
theorem dX6_ways_45 : decode cX6_ways 45 = .ok (.aload_n 0, 1) := by decide +kernel
theorem dX6_ways_46 : decode cX6_ways 46 = .ok (.getfield 27, 3) := by decide +kernel
theorem dX6_ways_49 : decode cX6_ways 49 = .ok (.lload_n 3, 1) := by decide +kernel
theorem dX6_ways_50 : decode cX6_ways 50 = .ok (.invokevirtual 149, 3) := by decide +kernel
theorem dX6_ways_53 : decode cX6_ways 53 = .ok (.aload_n 0, 1) := by decide +kernel
theorem dX6_ways_54 : decode cX6_ways 54 = .ok (.getfield 32, 3) := by decide +kernel
theorem dX6_ways_57 : decode cX6_ways 57 = .ok (.getfield 213, 3) := by decide +kernel
theorem dX6_ways_60 : decode cX6_ways 60 = .ok (.iload_n 2, 1) := by decide +kernel
theorem dX6_ways_61 : decode cX6_ways 61 = .ok (.iaload, 1) := by decide +kernel
theorem dX6_ways_62 : decode cX6_ways 62 = .ok (.ireturn, 1) := by decide +kernel
theorem dX6_between_0 : decode cX6_between 0 = .ok (.aload_n 0, 1) := by decide +kernel
theorem dX6_between_1 : decode cX6_between 1 = .ok (.getfield 55, 3) := by decide +kernel
theorem dX6_between_4 : decode cX6_between 4 = .ok (.iload_n 1, 1) := by decide +kernel
theorem dX6_between_5 : decode cX6_between 5 = .ok (.iload_n 2, 1) := by decide +kernel
theorem dX6_between_6 : decode cX6_between 6 = .ok (.invokevirtual 191, 3) := by decide +kernel
theorem dX6_between_9 : decode cX6_between 9 = .ok (.ifCond .ne 5, 3) := by decide +kernel
theorem dX6_between_12 : decode cX6_between 12 = .ok (.iconst (-1), 1) := by decide +kernel
theorem dX6_between_13 : decode cX6_between 13 = .ok (.ireturn, 1) := by decide +kernel
theorem dX6_between_14 : decode cX6_between 14 = .ok (.aload_n 0, 1) := by decide +kernel
theorem dX6_between_15 : decode cX6_between 15 = .ok (.getfield 55, 3) := by decide +kernel
theorem dX6_between_18 : decode cX6_between 18 = .ok (.iload_n 1, 1) := by decide +kernel
theorem dX6_between_19 : decode cX6_between 19 = .ok (.invokevirtual 185, 3) := by decide +kernel
theorem dX6_between_22 : decode cX6_between 22 = .ok (.istore_n 3, 1) := by decide +kernel
theorem dX6_between_23 : decode cX6_between 23 = .ok (.iload_n 3, 1) := by decide +kernel
theorem dX6_between_24 : decode cX6_between 24 = .ok (.iload_n 2, 1) := by decide +kernel
theorem dX6_between_25 : decode cX6_between 25 = .ok (.invokestatic 216, 3) := by decide +kernel
theorem dX6_between_28 : decode cX6_between 28 = .ok (.ifCond .ne 6, 3) := by decide +kernel
theorem dX6_between_31 : decode cX6_between 31 = .ok (.bipush (-2), 2) := by decide +kernel
theorem dX6_between_33 : decode cX6_between 33 = .ok (.ireturn, 1) := by decide +kernel
theorem dX6_between_34 : decode cX6_between 34 = .ok (.iload_n 3, 1) := by decide +kernel
theorem dX6_between_35 : decode cX6_between 35 = .ok (.aload_n 0, 1) := by decide +kernel
theorem dX6_between_36 : decode cX6_between 36 = .ok (.getfield 55, 3) := by decide +kernel
theorem dX6_between_39 : decode cX6_between 39 = .ok (.iload_n 2, 1) := by decide +kernel
theorem dX6_between_40 : decode cX6_between 40 = .ok (.invokevirtual 188, 3) := by decide +kernel
theorem dX6_between_43 : decode cX6_between 43 = .ok (.iand, 1) := by decide +kernel
theorem dX6_between_44 : decode cX6_between 44 = .ok (.istore 4, 2) := by decide +kernel
theorem dX6_between_46 : decode cX6_between 46 = .ok (.aload_n 0, 1) := by decide +kernel
theorem dX6_between_47 : decode cX6_between 47 = .ok (.getfield 27, 3) := by decide +kernel
theorem dX6_between_50 : decode cX6_between 50 = .ok (.aload_n 0, 1) := by decide +kernel
theorem dX6_between_51 : decode cX6_between 51 = .ok (.getfield 55, 3) := by decide +kernel
theorem dX6_between_54 : decode cX6_between 54 = .ok (.iload 4, 2) := by decide +kernel
theorem dX6_between_56 : decode cX6_between 56 = .ok (.invokevirtual 219, 3) := by decide +kernel
theorem dX6_between_59 : decode cX6_between 59 = .ok (.i2l, 1) := by decide +kernel
theorem dX6_between_60 : decode cX6_between 60 = .ok (.invokevirtual 149, 3) := by decide +kernel
theorem dX6_between_63 : decode cX6_between 63 = .ok (.iload 4, 2) := by decide +kernel
theorem dX6_between_65 : decode cX6_between 65 = .ok (.ireturn, 1) := by decide +kernel
theorem dX6_meets_0 : decode cX6_meets 0 = .ok (.aload_n 0, 1) := by decide +kernel
theorem dX6_meets_1 : decode cX6_meets 1 = .ok (.getfield 55, 3) := by decide +kernel
theorem dX6_meets_4 : decode cX6_meets 4 = .ok (.iload_n 1, 1) := by decide +kernel
theorem dX6_meets_5 : decode cX6_meets 5 = .ok (.invokevirtual 94, 3) := by decide +kernel
theorem dX6_meets_8 : decode cX6_meets 8 = .ok (.ifCond .eq 14, 3) := by decide +kernel
theorem dX6_meets_11 : decode cX6_meets 11 = .ok (.aload_n 0, 1) := by decide +kernel
theorem dX6_meets_12 : decode cX6_meets 12 = .ok (.getfield 55, 3) := by decide +kernel
theorem dX6_meets_15 : decode cX6_meets 15 = .ok (.iload_n 2, 1) := by decide +kernel
theorem dX6_meets_16 : decode cX6_meets 16 = .ok (.invokevirtual 94, 3) := by decide +kernel
theorem dX6_meets_19 : decode cX6_meets 19 = .ok (.ifCond .ne 5, 3) := by decide +kernel
theorem dX6_meets_22 : decode cX6_meets 22 = .ok (.iconst (-1), 1) := by decide +kernel
theorem dX6_meets_23 : decode cX6_meets 23 = .ok (.ireturn, 1) := by decide +kernel
theorem dX6_meets_24 : decode cX6_meets 24 = .ok (.aload_n 0, 1) := by decide +kernel
theorem dX6_meets_25 : decode cX6_meets 25 = .ok (.getfield 55, 3) := by decide +kernel
theorem dX6_meets_28 : decode cX6_meets 28 = .ok (.iload_n 1, 1) := by decide +kernel
theorem dX6_meets_29 : decode cX6_meets 29 = .ok (.invokevirtual 188, 3) := by decide +kernel
theorem dX6_meets_32 : decode cX6_meets 32 = .ok (.aload_n 0, 1) := by decide +kernel
theorem dX6_meets_33 : decode cX6_meets 33 = .ok (.getfield 55, 3) := by decide +kernel
theorem dX6_meets_36 : decode cX6_meets 36 = .ok (.iload_n 2, 1) := by decide +kernel
theorem dX6_meets_37 : decode cX6_meets 37 = .ok (.invokevirtual 188, 3) := by decide +kernel
theorem dX6_meets_40 : decode cX6_meets 40 = .ok (.iand, 1) := by decide +kernel
theorem dX6_meets_41 : decode cX6_meets 41 = .ok (.istore_n 3, 1) := by decide +kernel
theorem dX6_meets_42 : decode cX6_meets 42 = .ok (.aload_n 0, 1) := by decide +kernel
theorem dX6_meets_43 : decode cX6_meets 43 = .ok (.getfield 27, 3) := by decide +kernel
theorem dX6_meets_46 : decode cX6_meets 46 = .ok (.iload_n 3, 1) := by decide +kernel
theorem dX6_meets_47 : decode cX6_meets 47 = .ok (.aload_n 0, 1) := by decide +kernel
theorem dX6_meets_48 : decode cX6_meets 48 = .ok (.getfield 55, 3) := by decide +kernel
theorem dX6_meets_51 : decode cX6_meets 51 = .ok (.iload_n 3, 1) := by decide +kernel
theorem dX6_meets_52 : decode cX6_meets 52 = .ok (.invokevirtual 222, 3) := by decide +kernel
theorem dX6_meets_55 : decode cX6_meets 55 = .ok (.iconst (-1), 1) := by decide +kernel
theorem dX6_meets_56 : decode cX6_meets 56 = .ok (.ixor, 1) := by decide +kernel
theorem dX6_meets_57 : decode cX6_meets 57 = .ok (.iand, 1) := by decide +kernel
theorem dX6_meets_58 : decode cX6_meets 58 = .ok (.i2l, 1) := by decide +kernel
theorem dX6_meets_59 : decode cX6_meets 59 = .ok (.invokevirtual 149, 3) := by decide +kernel
theorem dX6_meets_62 : decode cX6_meets 62 = .ok (.iload_n 3, 1) := by decide +kernel
theorem dX6_meets_63 : decode cX6_meets 63 = .ok (.ireturn, 1) := by decide +kernel
theorem dX6_steps_0 : decode cX6_steps 0 = .ok (.aload_n 0, 1) := by decide +kernel
theorem dX6_steps_1 : decode cX6_steps 1 = .ok (.getfield 55, 3) := by decide +kernel
theorem dX6_steps_4 : decode cX6_steps 4 = .ok (.iload_n 1, 1) := by decide +kernel
theorem dX6_steps_5 : decode cX6_steps 5 = .ok (.invokevirtual 94, 3) := by decide +kernel
theorem dX6_steps_8 : decode cX6_steps 8 = .ok (.ifCond .eq 14, 3) := by decide +kernel
theorem dX6_steps_11 : decode cX6_steps 11 = .ok (.aload_n 0, 1) := by decide +kernel
theorem dX6_steps_12 : decode cX6_steps 12 = .ok (.getfield 55, 3) := by decide +kernel
theorem dX6_steps_15 : decode cX6_steps 15 = .ok (.iload_n 2, 1) := by decide +kernel
theorem dX6_steps_16 : decode cX6_steps 16 = .ok (.invokevirtual 94, 3) := by decide +kernel
theorem dX6_steps_19 : decode cX6_steps 19 = .ok (.ifCond .ne 5, 3) := by decide +kernel
theorem dX6_steps_22 : decode cX6_steps 22 = .ok (.iconst (-1), 1) := by decide +kernel
theorem dX6_steps_23 : decode cX6_steps 23 = .ok (.ireturn, 1) := by decide +kernel
theorem dX6_steps_24 : decode cX6_steps 24 = .ok (.iconst 1, 1) := by decide +kernel
theorem dX6_steps_25 : decode cX6_steps 25 = .ok (.iload_n 1, 1) := by decide +kernel
theorem dX6_steps_26 : decode cX6_steps 26 = .ok (.ishl, 1) := by decide +kernel
theorem dX6_steps_27 : decode cX6_steps 27 = .ok (.istore_n 3, 1) := by decide +kernel
theorem dX6_steps_28 : decode cX6_steps 28 = .ok (.iconst 0, 1) := by decide +kernel
theorem dX6_steps_29 : decode cX6_steps 29 = .ok (.istore 4, 2) := by decide +kernel
theorem dX6_steps_31 : decode cX6_steps 31 = .ok (.iload 4, 2) := by decide +kernel
theorem dX6_steps_33 : decode cX6_steps 33 = .ok (.bipush 24, 2) := by decide +kernel
theorem dX6_steps_35 : decode cX6_steps 35 = .ok (.if_icmp .ge 29, 3) := by decide +kernel
theorem dX6_steps_38 : decode cX6_steps 38 = .ok (.iload_n 3, 1) := by decide +kernel
theorem dX6_steps_39 : decode cX6_steps 39 = .ok (.iload_n 2, 1) := by decide +kernel
theorem dX6_steps_40 : decode cX6_steps 40 = .ok (.invokestatic 216, 3) := by decide +kernel
theorem dX6_steps_43 : decode cX6_steps 43 = .ok (.ifCond .eq 6, 3) := by decide +kernel
theorem dX6_steps_46 : decode cX6_steps 46 = .ok (.iload 4, 2) := by decide +kernel
theorem dX6_steps_48 : decode cX6_steps 48 = .ok (.ireturn, 1) := by decide +kernel
theorem dX6_steps_49 : decode cX6_steps 49 = .ok (.aload_n 0, 1) := by decide +kernel
theorem dX6_steps_50 : decode cX6_steps 50 = .ok (.getfield 55, 3) := by decide +kernel
theorem dX6_steps_53 : decode cX6_steps 53 = .ok (.iload_n 3, 1) := by decide +kernel
theorem dX6_steps_54 : decode cX6_steps 54 = .ok (.invokevirtual 225, 3) := by decide +kernel
theorem dX6_steps_57 : decode cX6_steps 57 = .ok (.istore_n 3, 1) := by decide +kernel
theorem dX6_steps_58 : decode cX6_steps 58 = .ok (.iinc 4 1, 3) := by decide +kernel
theorem dX6_steps_61 : decode cX6_steps 61 = .ok (.goto (-30), 3) := by decide +kernel
theorem dX6_steps_64 : decode cX6_steps 64 = .ok (.bipush (-2), 2) := by decide +kernel
theorem dX6_steps_66 : decode cX6_steps 66 = .ok (.ireturn, 1) := by decide +kernel
theorem dX6_depth_0 : decode cX6_depth 0 = .ok (.aload_n 0, 1) := by decide +kernel
theorem dX6_depth_1 : decode cX6_depth 1 = .ok (.getfield 55, 3) := by decide +kernel
theorem dX6_depth_4 : decode cX6_depth 4 = .ok (.iload_n 1, 1) := by decide +kernel
theorem dX6_depth_5 : decode cX6_depth 5 = .ok (.invokevirtual 94, 3) := by decide +kernel
theorem dX6_depth_8 : decode cX6_depth 8 = .ok (.ifCond .ne 5, 3) := by decide +kernel
theorem dX6_depth_11 : decode cX6_depth 11 = .ok (.iconst (-1), 1) := by decide +kernel
theorem dX6_depth_12 : decode cX6_depth 12 = .ok (.ireturn, 1) := by decide +kernel
theorem dX6_depth_13 : decode cX6_depth 13 = .ok (.aload_n 0, 1) := by decide +kernel
theorem dX6_depth_14 : decode cX6_depth 14 = .ok (.getfield 32, 3) := by decide +kernel
theorem dX6_depth_17 : decode cX6_depth 17 = .ok (.aload_n 0, 1) := by decide +kernel
theorem dX6_depth_18 : decode cX6_depth 18 = .ok (.getfield 55, 3) := by decide +kernel
theorem dX6_depth_21 : decode cX6_depth 21 = .ok (.invokevirtual 228, 3) := by decide +kernel
theorem dX6_depth_24 : decode cX6_depth 24 = .ok (.aload_n 0, 1) := by decide +kernel
theorem dX6_depth_25 : decode cX6_depth 25 = .ok (.getfield 27, 3) := by decide +kernel
theorem dX6_depth_28 : decode cX6_depth 28 = .ok (.aload_n 0, 1) := by decide +kernel
theorem dX6_depth_29 : decode cX6_depth 29 = .ok (.getfield 32, 3) := by decide +kernel
theorem dX6_depth_32 : decode cX6_depth 32 = .ok (.getfield 213, 3) := by decide +kernel
theorem dX6_depth_35 : decode cX6_depth 35 = .ok (.iload_n 1, 1) := by decide +kernel
theorem dX6_depth_36 : decode cX6_depth 36 = .ok (.iaload, 1) := by decide +kernel
theorem dX6_depth_37 : decode cX6_depth 37 = .ok (.i2l, 1) := by decide +kernel
theorem dX6_depth_38 : decode cX6_depth 38 = .ok (.invokevirtual 149, 3) := by decide +kernel
theorem dX6_depth_41 : decode cX6_depth 41 = .ok (.aload_n 0, 1) := by decide +kernel
theorem dX6_depth_42 : decode cX6_depth 42 = .ok (.getfield 32, 3) := by decide +kernel
theorem dX6_depth_45 : decode cX6_depth 45 = .ok (.aload_n 0, 1) := by decide +kernel
theorem dX6_depth_46 : decode cX6_depth 46 = .ok (.getfield 55, 3) := by decide +kernel
theorem dX6_depth_49 : decode cX6_depth 49 = .ok (.invokevirtual 231, 3) := by decide +kernel
theorem dX6_depth_52 : decode cX6_depth 52 = .ok (.aload_n 0, 1) := by decide +kernel
theorem dX6_depth_53 : decode cX6_depth 53 = .ok (.getfield 32, 3) := by decide +kernel
theorem dX6_depth_56 : decode cX6_depth 56 = .ok (.getfield 213, 3) := by decide +kernel
theorem dX6_depth_59 : decode cX6_depth 59 = .ok (.iload_n 1, 1) := by decide +kernel
theorem dX6_depth_60 : decode cX6_depth 60 = .ok (.iaload, 1) := by decide +kernel
theorem dX6_depth_61 : decode cX6_depth 61 = .ok (.ireturn, 1) := by decide +kernel
theorem dX6_tops_0 : decode cX6_tops 0 = .ok (.iconst 0, 1) := by decide +kernel
theorem dX6_tops_1 : decode cX6_tops 1 = .ok (.istore_n 1, 1) := by decide +kernel
theorem dX6_tops_2 : decode cX6_tops 2 = .ok (.iconst 0, 1) := by decide +kernel
theorem dX6_tops_3 : decode cX6_tops 3 = .ok (.istore_n 2, 1) := by decide +kernel
theorem dX6_tops_4 : decode cX6_tops 4 = .ok (.iconst 0, 1) := by decide +kernel
theorem dX6_tops_5 : decode cX6_tops 5 = .ok (.istore_n 3, 1) := by decide +kernel
theorem dX6_tops_6 : decode cX6_tops 6 = .ok (.iload_n 3, 1) := by decide +kernel
theorem dX6_tops_7 : decode cX6_tops 7 = .ok (.aload_n 0, 1) := by decide +kernel
theorem dX6_tops_8 : decode cX6_tops 8 = .ok (.getfield 55, 3) := by decide +kernel
theorem dX6_tops_11 : decode cX6_tops 11 = .ok (.getfield 80, 3) := by decide +kernel
theorem dX6_tops_14 : decode cX6_tops 14 = .ok (.if_icmp .ge 59, 3) := by decide +kernel
theorem dX6_tops_17 : decode cX6_tops 17 = .ok (.aload_n 0, 1) := by decide +kernel
theorem dX6_tops_18 : decode cX6_tops 18 = .ok (.getfield 55, 3) := by decide +kernel
theorem dX6_tops_21 : decode cX6_tops 21 = .ok (.getfield 164, 3) := by decide +kernel
theorem dX6_tops_24 : decode cX6_tops 24 = .ok (.iload_n 3, 1) := by decide +kernel
theorem dX6_tops_25 : decode cX6_tops 25 = .ok (.iaload, 1) := by decide +kernel
theorem dX6_tops_26 : decode cX6_tops 26 = .ok (.istore 4, 2) := by decide +kernel
theorem dX6_tops_28 : decode cX6_tops 28 = .ok (.aload_n 0, 1) := by decide +kernel
theorem dX6_tops_29 : decode cX6_tops 29 = .ok (.getfield 55, 3) := by decide +kernel
theorem dX6_tops_32 : decode cX6_tops 32 = .ok (.iload 4, 2) := by decide +kernel
theorem dX6_tops_34 : decode cX6_tops 34 = .ok (.invokevirtual 182, 3) := by decide +kernel
theorem dX6_tops_37 : decode cX6_tops 37 = .ok (.ifCond .ne 10, 3) := by decide +kernel
theorem dX6_tops_40 : decode cX6_tops 40 = .ok (.iload_n 1, 1) := by decide +kernel
theorem dX6_tops_41 : decode cX6_tops 41 = .ok (.iconst 1, 1) := by decide +kernel
theorem dX6_tops_42 : decode cX6_tops 42 = .ok (.iload 4, 2) := by decide +kernel
theorem dX6_tops_44 : decode cX6_tops 44 = .ok (.ishl, 1) := by decide +kernel
theorem dX6_tops_45 : decode cX6_tops 45 = .ok (.ior, 1) := by decide +kernel
theorem dX6_tops_46 : decode cX6_tops 46 = .ok (.istore_n 1, 1) := by decide +kernel
theorem dX6_tops_47 : decode cX6_tops 47 = .ok (.aload_n 0, 1) := by decide +kernel
theorem dX6_tops_48 : decode cX6_tops 48 = .ok (.getfield 55, 3) := by decide +kernel
theorem dX6_tops_51 : decode cX6_tops 51 = .ok (.getfield 179, 3) := by decide +kernel
theorem dX6_tops_54 : decode cX6_tops 54 = .ok (.iload 4, 2) := by decide +kernel
theorem dX6_tops_56 : decode cX6_tops 56 = .ok (.iaload, 1) := by decide +kernel
theorem dX6_tops_57 : decode cX6_tops 57 = .ok (.ifCond .ne 10, 3) := by decide +kernel
theorem dX6_tops_60 : decode cX6_tops 60 = .ok (.iload_n 2, 1) := by decide +kernel
theorem dX6_tops_61 : decode cX6_tops 61 = .ok (.iconst 1, 1) := by decide +kernel
theorem dX6_tops_62 : decode cX6_tops 62 = .ok (.iload 4, 2) := by decide +kernel
theorem dX6_tops_64 : decode cX6_tops 64 = .ok (.ishl, 1) := by decide +kernel
theorem dX6_tops_65 : decode cX6_tops 65 = .ok (.ior, 1) := by decide +kernel
theorem dX6_tops_66 : decode cX6_tops 66 = .ok (.istore_n 2, 1) := by decide +kernel
theorem dX6_tops_67 : decode cX6_tops 67 = .ok (.iinc 3 1, 3) := by decide +kernel
theorem dX6_tops_70 : decode cX6_tops 70 = .ok (.goto (-64), 3) := by decide +kernel
theorem dX6_tops_73 : decode cX6_tops 73 = .ok (.aload_n 0, 1) := by decide +kernel
theorem dX6_tops_74 : decode cX6_tops 74 = .ok (.getfield 27, 3) := by decide +kernel
theorem dX6_tops_77 : decode cX6_tops 77 = .ok (.iload_n 2, 1) := by decide +kernel
theorem dX6_tops_78 : decode cX6_tops 78 = .ok (.i2l, 1) := by decide +kernel
theorem dX6_tops_79 : decode cX6_tops 79 = .ok (.invokevirtual 149, 3) := by decide +kernel
theorem dX6_tops_82 : decode cX6_tops 82 = .ok (.aload_n 0, 1) := by decide +kernel
theorem dX6_tops_83 : decode cX6_tops 83 = .ok (.getfield 27, 3) := by decide +kernel
theorem dX6_tops_86 : decode cX6_tops 86 = .ok (.iload_n 1, 1) := by decide +kernel
theorem dX6_tops_87 : decode cX6_tops 87 = .ok (.iload_n 2, 1) := by decide +kernel
theorem dX6_tops_88 : decode cX6_tops 88 = .ok (.iand, 1) := by decide +kernel
theorem dX6_tops_89 : decode cX6_tops 89 = .ok (.i2l, 1) := by decide +kernel
theorem dX6_tops_90 : decode cX6_tops 90 = .ok (.invokevirtual 116, 3) := by decide +kernel
theorem dX6_tops_93 : decode cX6_tops 93 = .ok (.iload_n 1, 1) := by decide +kernel
theorem dX6_tops_94 : decode cX6_tops 94 = .ok (.ireturn, 1) := by decide +kernel
theorem dX6_needless_0 : decode cX6_needless 0 = .ok (.aload_n 0, 1) := by decide +kernel
theorem dX6_needless_1 : decode cX6_needless 1 = .ok (.getfield 27, 3) := by decide +kernel
theorem dX6_needless_4 : decode cX6_needless 4 = .ok (.invokevirtual 104, 3) := by decide +kernel
theorem dX6_needless_7 : decode cX6_needless 7 = .ok (.iconst 0, 1) := by decide +kernel
theorem dX6_needless_8 : decode cX6_needless 8 = .ok (.istore_n 1, 1) := by decide +kernel
theorem dX6_needless_9 : decode cX6_needless 9 = .ok (.iload_n 1, 1) := by decide +kernel
theorem dX6_needless_10 : decode cX6_needless 10 = .ok (.bipush 24, 2) := by decide +kernel
theorem dX6_needless_12 : decode cX6_needless 12 = .ok (.if_icmp .ge 54, 3) := by decide +kernel
theorem dX6_needless_15 : decode cX6_needless 15 = .ok (.aload_n 0, 1) := by decide +kernel
theorem dX6_needless_16 : decode cX6_needless 16 = .ok (.getfield 55, 3) := by decide +kernel
theorem dX6_needless_19 : decode cX6_needless 19 = .ok (.iload_n 1, 1) := by decide +kernel
theorem dX6_needless_20 : decode cX6_needless 20 = .ok (.invokevirtual 234, 3) := by decide +kernel
theorem dX6_needless_23 : decode cX6_needless 23 = .ok (.istore_n 2, 1) := by decide +kernel
theorem dX6_needless_24 : decode cX6_needless 24 = .ok (.iconst 0, 1) := by decide +kernel
theorem dX6_needless_25 : decode cX6_needless 25 = .ok (.istore_n 3, 1) := by decide +kernel
theorem dX6_needless_26 : decode cX6_needless 26 = .ok (.iload_n 3, 1) := by decide +kernel
theorem dX6_needless_27 : decode cX6_needless 27 = .ok (.bipush 24, 2) := by decide +kernel
theorem dX6_needless_29 : decode cX6_needless 29 = .ok (.if_icmp .ge 31, 3) := by decide +kernel
theorem dX6_needless_32 : decode cX6_needless 32 = .ok (.iload_n 2, 1) := by decide +kernel
theorem dX6_needless_33 : decode cX6_needless 33 = .ok (.iload_n 3, 1) := by decide +kernel
theorem dX6_needless_34 : decode cX6_needless 34 = .ok (.invokestatic 216, 3) := by decide +kernel
theorem dX6_needless_37 : decode cX6_needless 37 = .ok (.ifCond .eq 17, 3) := by decide +kernel
theorem dX6_needless_40 : decode cX6_needless 40 = .ok (.aload_n 0, 1) := by decide +kernel
theorem dX6_needless_41 : decode cX6_needless 41 = .ok (.getfield 27, 3) := by decide +kernel
theorem dX6_needless_44 : decode cX6_needless 44 = .ok (.bipush 100, 2) := by decide +kernel
theorem dX6_needless_46 : decode cX6_needless 46 = .ok (.iload_n 1, 1) := by decide +kernel
theorem dX6_needless_47 : decode cX6_needless 47 = .ok (.imul, 1) := by decide +kernel
theorem dX6_needless_48 : decode cX6_needless 48 = .ok (.iload_n 3, 1) := by decide +kernel
theorem dX6_needless_49 : decode cX6_needless 49 = .ok (.iadd, 1) := by decide +kernel
theorem dX6_needless_50 : decode cX6_needless 50 = .ok (.i2l, 1) := by decide +kernel
theorem dX6_needless_51 : decode cX6_needless 51 = .ok (.invokevirtual 116, 3) := by decide +kernel
theorem dX6_needless_54 : decode cX6_needless 54 = .ok (.iinc 3 1, 3) := by decide +kernel
theorem dX6_needless_57 : decode cX6_needless 57 = .ok (.goto (-31), 3) := by decide +kernel
theorem dX6_needless_60 : decode cX6_needless 60 = .ok (.iinc 1 1, 3) := by decide +kernel
theorem dX6_needless_63 : decode cX6_needless 63 = .ok (.goto (-54), 3) := by decide +kernel
theorem dX6_needless_66 : decode cX6_needless 66 = .ok (.aload_n 0, 1) := by decide +kernel
theorem dX6_needless_67 : decode cX6_needless 67 = .ok (.getfield 27, 3) := by decide +kernel
theorem dX6_needless_70 : decode cX6_needless 70 = .ok (.getfield 120, 3) := by decide +kernel
theorem dX6_needless_73 : decode cX6_needless 73 = .ok (.ireturn, 1) := by decide +kernel
theorem dX6_chains_0 : decode cX6_chains 0 = .ok (.aload_n 0, 1) := by decide +kernel
theorem dX6_chains_1 : decode cX6_chains 1 = .ok (.getfield 32, 3) := by decide +kernel
theorem dX6_chains_4 : decode cX6_chains 4 = .ok (.aload_n 0, 1) := by decide +kernel
theorem dX6_chains_5 : decode cX6_chains 5 = .ok (.getfield 55, 3) := by decide +kernel
theorem dX6_chains_8 : decode cX6_chains 8 = .ok (.invokevirtual 231, 3) := by decide +kernel
theorem dX6_chains_11 : decode cX6_chains 11 = .ok (.iconst 0, 1) := by decide +kernel
theorem dX6_chains_12 : decode cX6_chains 12 = .ok (.istore_n 1, 1) := by decide +kernel
theorem dX6_chains_13 : decode cX6_chains 13 = .ok (.iconst 0, 1) := by decide +kernel
theorem dX6_chains_14 : decode cX6_chains 14 = .ok (.istore_n 2, 1) := by decide +kernel
theorem dX6_chains_15 : decode cX6_chains 15 = .ok (.iload_n 2, 1) := by decide +kernel
theorem dX6_chains_16 : decode cX6_chains 16 = .ok (.aload_n 0, 1) := by decide +kernel
theorem dX6_chains_17 : decode cX6_chains 17 = .ok (.getfield 55, 3) := by decide +kernel
theorem dX6_chains_20 : decode cX6_chains 20 = .ok (.getfield 80, 3) := by decide +kernel
theorem dX6_chains_23 : decode cX6_chains 23 = .ok (.if_icmp .ge 33, 3) := by decide +kernel
theorem dX6_chains_26 : decode cX6_chains 26 = .ok (.iload_n 1, 1) := by decide +kernel
theorem dX6_chains_27 : decode cX6_chains 27 = .ok (.aload_n 0, 1) := by decide +kernel
theorem dX6_chains_28 : decode cX6_chains 28 = .ok (.getfield 32, 3) := by decide +kernel
theorem dX6_chains_31 : decode cX6_chains 31 = .ok (.getfield 213, 3) := by decide +kernel
theorem dX6_chains_34 : decode cX6_chains 34 = .ok (.aload_n 0, 1) := by decide +kernel
theorem dX6_chains_35 : decode cX6_chains 35 = .ok (.getfield 55, 3) := by decide +kernel
theorem dX6_chains_38 : decode cX6_chains 38 = .ok (.getfield 164, 3) := by decide +kernel
theorem dX6_chains_41 : decode cX6_chains 41 = .ok (.iload_n 2, 1) := by decide +kernel
theorem dX6_chains_42 : decode cX6_chains 42 = .ok (.iaload, 1) := by decide +kernel
theorem dX6_chains_43 : decode cX6_chains 43 = .ok (.iaload, 1) := by decide +kernel
theorem dX6_chains_44 : decode cX6_chains 44 = .ok (.iconst 1, 1) := by decide +kernel
theorem dX6_chains_45 : decode cX6_chains 45 = .ok (.iadd, 1) := by decide +kernel
theorem dX6_chains_46 : decode cX6_chains 46 = .ok (.invokestatic 237, 3) := by decide +kernel
theorem dX6_chains_49 : decode cX6_chains 49 = .ok (.istore_n 1, 1) := by decide +kernel
theorem dX6_chains_50 : decode cX6_chains 50 = .ok (.iinc 2 1, 3) := by decide +kernel
theorem dX6_chains_53 : decode cX6_chains 53 = .ok (.goto (-38), 3) := by decide +kernel
theorem dX6_chains_56 : decode cX6_chains 56 = .ok (.aload_n 0, 1) := by decide +kernel
theorem dX6_chains_57 : decode cX6_chains 57 = .ok (.getfield 27, 3) := by decide +kernel
theorem dX6_chains_60 : decode cX6_chains 60 = .ok (.iload_n 1, 1) := by decide +kernel
theorem dX6_chains_61 : decode cX6_chains 61 = .ok (.i2l, 1) := by decide +kernel
theorem dX6_chains_62 : decode cX6_chains 62 = .ok (.invokevirtual 149, 3) := by decide +kernel
theorem dX6_chains_65 : decode cX6_chains 65 = .ok (.aload_n 0, 1) := by decide +kernel
theorem dX6_chains_66 : decode cX6_chains 66 = .ok (.getfield 55, 3) := by decide +kernel
theorem dX6_chains_69 : decode cX6_chains 69 = .ok (.getfield 80, 3) := by decide +kernel
theorem dX6_chains_72 : decode cX6_chains 72 = .ok (.aload_n 0, 1) := by decide +kernel
theorem dX6_chains_73 : decode cX6_chains 73 = .ok (.getfield 32, 3) := by decide +kernel
theorem dX6_chains_76 : decode cX6_chains 76 = .ok (.aload_n 0, 1) := by decide +kernel
theorem dX6_chains_77 : decode cX6_chains 77 = .ok (.getfield 55, 3) := by decide +kernel
theorem dX6_chains_80 : decode cX6_chains 80 = .ok (.invokevirtual 242, 3) := by decide +kernel
theorem dX6_chains_83 : decode cX6_chains 83 = .ok (.isub, 1) := by decide +kernel
theorem dX6_chains_84 : decode cX6_chains 84 = .ok (.ireturn, 1) := by decide +kernel
theorem dX6_apart_0 : decode cX6_apart 0 = .ok (.iload_n 1, 1) := by decide +kernel
theorem dX6_apart_1 : decode cX6_apart 1 = .ok (.ifCond .lt 17, 3) := by decide +kernel
theorem dX6_apart_4 : decode cX6_apart 4 = .ok (.iload_n 1, 1) := by decide +kernel
theorem dX6_apart_5 : decode cX6_apart 5 = .ok (.aload_n 0, 1) := by decide +kernel
theorem dX6_apart_6 : decode cX6_apart 6 = .ok (.getfield 55, 3) := by decide +kernel
theorem dX6_apart_9 : decode cX6_apart 9 = .ok (.getfield 246, 3) := by decide +kernel
theorem dX6_apart_12 : decode cX6_apart 12 = .ok (.iconst (-1), 1) := by decide +kernel
theorem dX6_apart_13 : decode cX6_apart 13 = .ok (.ixor, 1) := by decide +kernel
theorem dX6_apart_14 : decode cX6_apart 14 = .ok (.iand, 1) := by decide +kernel
theorem dX6_apart_15 : decode cX6_apart 15 = .ok (.ifCond .eq 5, 3) := by decide +kernel
theorem dX6_apart_18 : decode cX6_apart 18 = .ok (.iconst (-1), 1) := by decide +kernel
theorem dX6_apart_19 : decode cX6_apart 19 = .ok (.ireturn, 1) := by decide +kernel
theorem dX6_apart_20 : decode cX6_apart 20 = .ok (.iconst 0, 1) := by decide +kernel
theorem dX6_apart_21 : decode cX6_apart 21 = .ok (.istore_n 2, 1) := by decide +kernel
theorem dX6_apart_22 : decode cX6_apart 22 = .ok (.iconst 0, 1) := by decide +kernel
theorem dX6_apart_23 : decode cX6_apart 23 = .ok (.istore_n 3, 1) := by decide +kernel
theorem dX6_apart_24 : decode cX6_apart 24 = .ok (.iload_n 3, 1) := by decide +kernel
theorem dX6_apart_25 : decode cX6_apart 25 = .ok (.bipush 24, 2) := by decide +kernel
theorem dX6_apart_27 : decode cX6_apart 27 = .ok (.if_icmp .ge 35, 3) := by decide +kernel
theorem dX6_apart_30 : decode cX6_apart 30 = .ok (.iload_n 1, 1) := by decide +kernel
theorem dX6_apart_31 : decode cX6_apart 31 = .ok (.iload_n 3, 1) := by decide +kernel
theorem dX6_apart_32 : decode cX6_apart 32 = .ok (.invokestatic 216, 3) := by decide +kernel
theorem dX6_apart_35 : decode cX6_apart 35 = .ok (.ifCond .eq 21, 3) := by decide +kernel
theorem dX6_apart_38 : decode cX6_apart 38 = .ok (.iload_n 2, 1) := by decide +kernel
theorem dX6_apart_39 : decode cX6_apart 39 = .ok (.aload_n 0, 1) := by decide +kernel
theorem dX6_apart_40 : decode cX6_apart 40 = .ok (.getfield 55, 3) := by decide +kernel
theorem dX6_apart_43 : decode cX6_apart 43 = .ok (.iload_n 3, 1) := by decide +kernel
theorem dX6_apart_44 : decode cX6_apart 44 = .ok (.invokevirtual 185, 3) := by decide +kernel
theorem dX6_apart_47 : decode cX6_apart 47 = .ok (.iload_n 1, 1) := by decide +kernel
theorem dX6_apart_48 : decode cX6_apart 48 = .ok (.iand, 1) := by decide +kernel
theorem dX6_apart_49 : decode cX6_apart 49 = .ok (.invokestatic 174, 3) := by decide +kernel
theorem dX6_apart_52 : decode cX6_apart 52 = .ok (.iconst 1, 1) := by decide +kernel
theorem dX6_apart_53 : decode cX6_apart 53 = .ok (.isub, 1) := by decide +kernel
theorem dX6_apart_54 : decode cX6_apart 54 = .ok (.iadd, 1) := by decide +kernel
theorem dX6_apart_55 : decode cX6_apart 55 = .ok (.istore_n 2, 1) := by decide +kernel
theorem dX6_apart_56 : decode cX6_apart 56 = .ok (.iinc 3 1, 3) := by decide +kernel
theorem dX6_apart_59 : decode cX6_apart 59 = .ok (.goto (-35), 3) := by decide +kernel
theorem dX6_apart_62 : decode cX6_apart 62 = .ok (.aload_n 0, 1) := by decide +kernel
theorem dX6_apart_63 : decode cX6_apart 63 = .ok (.getfield 27, 3) := by decide +kernel
theorem dX6_apart_66 : decode cX6_apart 66 = .ok (.iload_n 2, 1) := by decide +kernel
theorem dX6_apart_67 : decode cX6_apart 67 = .ok (.i2l, 1) := by decide +kernel
theorem dX6_apart_68 : decode cX6_apart 68 = .ok (.invokevirtual 149, 3) := by decide +kernel
theorem dX6_apart_71 : decode cX6_apart 71 = .ok (.iload_n 2, 1) := by decide +kernel
theorem dX6_apart_72 : decode cX6_apart 72 = .ok (.ifCond .ne 7, 3) := by decide +kernel
theorem dX6_apart_75 : decode cX6_apart 75 = .ok (.iconst 1, 1) := by decide +kernel
theorem dX6_apart_76 : decode cX6_apart 76 = .ok (.goto 4, 3) := by decide +kernel
theorem dX6_apart_79 : decode cX6_apart 79 = .ok (.iconst 0, 1) := by decide +kernel
theorem dX6_apart_80 : decode cX6_apart 80 = .ok (.ireturn, 1) := by decide +kernel
theorem dX6_posts_0 : decode cX6_posts 0 = .ok (.aload_n 0, 1) := by decide +kernel
theorem dX6_posts_1 : decode cX6_posts 1 = .ok (.getfield 36, 3) := by decide +kernel
theorem dX6_posts_4 : decode cX6_posts 4 = .ok (.aload_n 0, 1) := by decide +kernel
theorem dX6_posts_5 : decode cX6_posts 5 = .ok (.getfield 55, 3) := by decide +kernel
theorem dX6_posts_8 : decode cX6_posts 8 = .ok (.invokevirtual 84, 3) := by decide +kernel
theorem dX6_posts_11 : decode cX6_posts 11 = .ok (.aload_n 0, 1) := by decide +kernel
theorem dX6_posts_12 : decode cX6_posts 12 = .ok (.aload_n 0, 1) := by decide +kernel
theorem dX6_posts_13 : decode cX6_posts 13 = .ok (.getfield 19, 3) := by decide +kernel
theorem dX6_posts_16 : decode cX6_posts 16 = .ok (.aload_n 0, 1) := by decide +kernel
theorem dX6_posts_17 : decode cX6_posts 17 = .ok (.getfield 55, 3) := by decide +kernel
theorem dX6_posts_20 : decode cX6_posts 20 = .ok (.iload_n 1, 1) := by decide +kernel
theorem dX6_posts_21 : decode cX6_posts 21 = .ok (.iload_n 2, 1) := by decide +kernel
theorem dX6_posts_22 : decode cX6_posts 22 = .ok (.invokevirtual 249, 3) := by decide +kernel
theorem dX6_posts_25 : decode cX6_posts 25 = .ok (.invokevirtual 91, 3) := by decide +kernel
theorem dX6_posts_28 : decode cX6_posts 28 = .ok (.ireturn, 1) := by decide +kernel
theorem dX6_unposts_0 : decode cX6_unposts 0 = .ok (.aload_n 0, 1) := by decide +kernel
theorem dX6_unposts_1 : decode cX6_unposts 1 = .ok (.getfield 36, 3) := by decide +kernel
theorem dX6_unposts_4 : decode cX6_unposts 4 = .ok (.aload_n 0, 1) := by decide +kernel
theorem dX6_unposts_5 : decode cX6_unposts 5 = .ok (.getfield 55, 3) := by decide +kernel
theorem dX6_unposts_8 : decode cX6_unposts 8 = .ok (.invokevirtual 84, 3) := by decide +kernel
theorem dX6_unposts_11 : decode cX6_unposts 11 = .ok (.aload_n 0, 1) := by decide +kernel
theorem dX6_unposts_12 : decode cX6_unposts 12 = .ok (.aload_n 0, 1) := by decide +kernel
theorem dX6_unposts_13 : decode cX6_unposts 13 = .ok (.getfield 19, 3) := by decide +kernel
theorem dX6_unposts_16 : decode cX6_unposts 16 = .ok (.aload_n 0, 1) := by decide +kernel
theorem dX6_unposts_17 : decode cX6_unposts 17 = .ok (.getfield 55, 3) := by decide +kernel
theorem dX6_unposts_20 : decode cX6_unposts 20 = .ok (.iload_n 1, 1) := by decide +kernel
theorem dX6_unposts_21 : decode cX6_unposts 21 = .ok (.iload_n 2, 1) := by decide +kernel
theorem dX6_unposts_22 : decode cX6_unposts 22 = .ok (.invokevirtual 252, 3) := by decide +kernel
theorem dX6_unposts_25 : decode cX6_unposts 25 = .ok (.invokevirtual 91, 3) := by decide +kernel
theorem dX6_unposts_28 : decode cX6_unposts 28 = .ok (.ireturn, 1) := by decide +kernel
theorem dX6_search_0 : decode cX6_search 0 = .ok (.aload_n 0, 1) := by decide +kernel
theorem dX6_search_1 : decode cX6_search 1 = .ok (.getfield 12, 3) := by decide +kernel
theorem dX6_search_4 : decode cX6_search 4 = .ok (.aload_n 0, 1) := by decide +kernel
theorem dX6_search_5 : decode cX6_search 5 = .ok (.getfield 55, 3) := by decide +kernel
theorem dX6_search_8 : decode cX6_search 8 = .ok (.invokevirtual 255, 3) := by decide +kernel
theorem dX6_search_11 : decode cX6_search 11 = .ok (.istore_n 1, 1) := by decide +kernel
theorem dX6_search_12 : decode cX6_search 12 = .ok (.aload_n 0, 1) := by decide +kernel
theorem dX6_search_13 : decode cX6_search 13 = .ok (.getfield 12, 3) := by decide +kernel
theorem dX6_search_16 : decode cX6_search 16 = .ok (.invokevirtual 132, 3) := by decide +kernel
theorem dX6_search_19 : decode cX6_search 19 = .ok (.iload_n 1, 1) := by decide +kernel
theorem dX6_search_20 : decode cX6_search 20 = .ok (.ifCond .ne 11, 3) := by decide +kernel
theorem dX6_search_23 : decode cX6_search 23 = .ok (.aload_n 0, 1) := by decide +kernel
theorem dX6_search_24 : decode cX6_search 24 = .ok (.getfield 12, 3) := by decide +kernel
theorem dX6_search_27 : decode cX6_search 27 = .ok (.invokevirtual 73, 3) := by decide +kernel
theorem dX6_search_30 : decode cX6_search 30 = .ok (.ireturn, 1) := by decide +kernel
theorem dX6_search_31 : decode cX6_search 31 = .ok (.lconst 0, 1) := by decide +kernel
theorem dX6_search_32 : decode cX6_search 32 = .ok (.lstore_n 2, 1) := by decide +kernel
theorem dX6_search_33 : decode cX6_search 33 = .ok (.iconst 0, 1) := by decide +kernel
theorem dX6_search_34 : decode cX6_search 34 = .ok (.istore 4, 2) := by decide +kernel
theorem dX6_search_36 : decode cX6_search 36 = .ok (.iload 4, 2) := by decide +kernel
theorem dX6_search_38 : decode cX6_search 38 = .ok (.aload_n 0, 1) := by decide +kernel
theorem dX6_search_39 : decode cX6_search 39 = .ok (.getfield 12, 3) := by decide +kernel
theorem dX6_search_42 : decode cX6_search 42 = .ok (.getfield 136, 3) := by decide +kernel
theorem dX6_search_45 : decode cX6_search 45 = .ok (.if_icmp .ge 28, 3) := by decide +kernel
theorem dX6_search_48 : decode cX6_search 48 = .ok (.aload_n 0, 1) := by decide +kernel
theorem dX6_search_49 : decode cX6_search 49 = .ok (.getfield 55, 3) := by decide +kernel
theorem dX6_search_52 : decode cX6_search 52 = .ok (.lload_n 2, 1) := by decide +kernel
theorem dX6_search_53 : decode cX6_search 53 = .ok (.aload_n 0, 1) := by decide +kernel
theorem dX6_search_54 : decode cX6_search 54 = .ok (.getfield 12, 3) := by decide +kernel
theorem dX6_search_57 : decode cX6_search 57 = .ok (.getfield 139, 3) := by decide +kernel
theorem dX6_search_60 : decode cX6_search 60 = .ok (.iload 4, 2) := by decide +kernel
theorem dX6_search_62 : decode cX6_search 62 = .ok (.iaload, 1) := by decide +kernel
theorem dX6_search_63 : decode cX6_search 63 = .ok (.invokevirtual 258, 3) := by decide +kernel
theorem dX6_search_66 : decode cX6_search 66 = .ok (.lstore_n 2, 1) := by decide +kernel
theorem dX6_search_67 : decode cX6_search 67 = .ok (.iinc 4 1, 3) := by decide +kernel
theorem dX6_search_70 : decode cX6_search 70 = .ok (.goto (-34), 3) := by decide +kernel
theorem dX6_search_73 : decode cX6_search 73 = .ok (.aload_n 0, 1) := by decide +kernel
theorem dX6_search_74 : decode cX6_search 74 = .ok (.getfield 27, 3) := by decide +kernel
theorem dX6_search_77 : decode cX6_search 77 = .ok (.invokevirtual 104, 3) := by decide +kernel
theorem dX6_search_80 : decode cX6_search 80 = .ok (.iconst 0, 1) := by decide +kernel
theorem dX6_search_81 : decode cX6_search 81 = .ok (.istore 4, 2) := by decide +kernel
theorem dX6_search_83 : decode cX6_search 83 = .ok (.iload 4, 2) := by decide +kernel
theorem dX6_search_85 : decode cX6_search 85 = .ok (.bipush 40, 2) := by decide +kernel
theorem dX6_search_87 : decode cX6_search 87 = .ok (.if_icmp .ge 30, 3) := by decide +kernel
theorem dX6_search_90 : decode cX6_search 90 = .ok (.lload_n 2, 1) := by decide +kernel
theorem dX6_search_91 : decode cX6_search 91 = .ok (.iload 4, 2) := by decide +kernel
theorem dX6_search_93 : decode cX6_search 93 = .ok (.lshr, 1) := by decide +kernel
theorem dX6_search_94 : decode cX6_search 94 = .ok (.lconst 1, 1) := by decide +kernel
theorem dX6_search_95 : decode cX6_search 95 = .ok (.land, 1) := by decide +kernel
theorem dX6_search_96 : decode cX6_search 96 = .ok (.lconst 0, 1) := by decide +kernel
theorem dX6_search_97 : decode cX6_search 97 = .ok (.lcmp, 1) := by decide +kernel
theorem dX6_search_98 : decode cX6_search 98 = .ok (.ifCond .eq 13, 3) := by decide +kernel
theorem dX6_search_101 : decode cX6_search 101 = .ok (.aload_n 0, 1) := by decide +kernel
theorem dX6_search_102 : decode cX6_search 102 = .ok (.getfield 27, 3) := by decide +kernel
theorem dX6_search_105 : decode cX6_search 105 = .ok (.iload 4, 2) := by decide +kernel
theorem dX6_search_107 : decode cX6_search 107 = .ok (.i2l, 1) := by decide +kernel
theorem dX6_search_108 : decode cX6_search 108 = .ok (.invokevirtual 116, 3) := by decide +kernel
theorem dX6_search_111 : decode cX6_search 111 = .ok (.iinc 4 1, 3) := by decide +kernel
theorem dX6_search_114 : decode cX6_search 114 = .ok (.goto (-31), 3) := by decide +kernel
theorem dX6_search_117 : decode cX6_search 117 = .ok (.aload_n 0, 1) := by decide +kernel
theorem dX6_search_118 : decode cX6_search 118 = .ok (.getfield 27, 3) := by decide +kernel
theorem dX6_search_121 : decode cX6_search 121 = .ok (.getfield 120, 3) := by decide +kernel
theorem dX6_search_124 : decode cX6_search 124 = .ok (.ireturn, 1) := by decide +kernel
theorem dX6_posted_0 : decode cX6_posted 0 = .ok (.iload_n 1, 1) := by decide +kernel
theorem dX6_posted_1 : decode cX6_posted 1 = .ok (.invokestatic 262, 3) := by decide +kernel
theorem dX6_posted_4 : decode cX6_posted 4 = .ok (.ifCond .ne 5, 3) := by decide +kernel
theorem dX6_posted_7 : decode cX6_posted 7 = .ok (.iconst (-1), 1) := by decide +kernel
theorem dX6_posted_8 : decode cX6_posted 8 = .ok (.ireturn, 1) := by decide +kernel
theorem dX6_posted_9 : decode cX6_posted 9 = .ok (.iconst 0, 1) := by decide +kernel
theorem dX6_posted_10 : decode cX6_posted 10 = .ok (.istore_n 2, 1) := by decide +kernel
theorem dX6_posted_11 : decode cX6_posted 11 = .ok (.iconst 0, 1) := by decide +kernel
theorem dX6_posted_12 : decode cX6_posted 12 = .ok (.istore_n 3, 1) := by decide +kernel
theorem dX6_posted_13 : decode cX6_posted 13 = .ok (.iload_n 3, 1) := by decide +kernel
theorem dX6_posted_14 : decode cX6_posted 14 = .ok (.bipush 24, 2) := by decide +kernel
theorem dX6_posted_16 : decode cX6_posted 16 = .ok (.if_icmp .ge 33, 3) := by decide +kernel
theorem dX6_posted_19 : decode cX6_posted 19 = .ok (.aload_n 0, 1) := by decide +kernel
theorem dX6_posted_20 : decode cX6_posted 20 = .ok (.getfield 55, 3) := by decide +kernel
theorem dX6_posted_23 : decode cX6_posted 23 = .ok (.getfield 265, 3) := by decide +kernel
theorem dX6_posted_26 : decode cX6_posted 26 = .ok (.iload_n 3, 1) := by decide +kernel
theorem dX6_posted_27 : decode cX6_posted 27 = .ok (.laload, 1) := by decide +kernel
theorem dX6_posted_28 : decode cX6_posted 28 = .ok (.iload_n 1, 1) := by decide +kernel
theorem dX6_posted_29 : decode cX6_posted 29 = .ok (.lshr, 1) := by decide +kernel
theorem dX6_posted_30 : decode cX6_posted 30 = .ok (.lconst 1, 1) := by decide +kernel
theorem dX6_posted_31 : decode cX6_posted 31 = .ok (.land, 1) := by decide +kernel
theorem dX6_posted_32 : decode cX6_posted 32 = .ok (.lconst 0, 1) := by decide +kernel
theorem dX6_posted_33 : decode cX6_posted 33 = .ok (.lcmp, 1) := by decide +kernel
theorem dX6_posted_34 : decode cX6_posted 34 = .ok (.ifCond .eq 9, 3) := by decide +kernel
theorem dX6_posted_37 : decode cX6_posted 37 = .ok (.iload_n 2, 1) := by decide +kernel
theorem dX6_posted_38 : decode cX6_posted 38 = .ok (.iconst 1, 1) := by decide +kernel
theorem dX6_posted_39 : decode cX6_posted 39 = .ok (.iload_n 3, 1) := by decide +kernel
theorem dX6_posted_40 : decode cX6_posted 40 = .ok (.ishl, 1) := by decide +kernel
theorem dX6_posted_41 : decode cX6_posted 41 = .ok (.ior, 1) := by decide +kernel
theorem dX6_posted_42 : decode cX6_posted 42 = .ok (.istore_n 2, 1) := by decide +kernel
theorem dX6_posted_43 : decode cX6_posted 43 = .ok (.iinc 3 1, 3) := by decide +kernel
theorem dX6_posted_46 : decode cX6_posted 46 = .ok (.goto (-33), 3) := by decide +kernel
theorem dX6_posted_49 : decode cX6_posted 49 = .ok (.aload_n 0, 1) := by decide +kernel
theorem dX6_posted_50 : decode cX6_posted 50 = .ok (.getfield 27, 3) := by decide +kernel
theorem dX6_posted_53 : decode cX6_posted 53 = .ok (.aload_n 0, 1) := by decide +kernel
theorem dX6_posted_54 : decode cX6_posted 54 = .ok (.getfield 55, 3) := by decide +kernel
theorem dX6_posted_57 : decode cX6_posted 57 = .ok (.iload_n 2, 1) := by decide +kernel
theorem dX6_posted_58 : decode cX6_posted 58 = .ok (.invokevirtual 222, 3) := by decide +kernel
theorem dX6_posted_61 : decode cX6_posted 61 = .ok (.i2l, 1) := by decide +kernel
theorem dX6_posted_62 : decode cX6_posted 62 = .ok (.invokevirtual 149, 3) := by decide +kernel
theorem dX6_posted_65 : decode cX6_posted 65 = .ok (.iload_n 2, 1) := by decide +kernel
theorem dX6_posted_66 : decode cX6_posted 66 = .ok (.ireturn, 1) := by decide +kernel
theorem dX6_goes_0 : decode cX6_goes 0 = .ok (.aload_n 0, 1) := by decide +kernel
theorem dX6_goes_1 : decode cX6_goes 1 = .ok (.getfield 36, 3) := by decide +kernel
theorem dX6_goes_4 : decode cX6_goes 4 = .ok (.aload_n 0, 1) := by decide +kernel
theorem dX6_goes_5 : decode cX6_goes 5 = .ok (.getfield 55, 3) := by decide +kernel
theorem dX6_goes_8 : decode cX6_goes 8 = .ok (.invokevirtual 84, 3) := by decide +kernel
theorem dX6_goes_11 : decode cX6_goes 11 = .ok (.aload_n 0, 1) := by decide +kernel
theorem dX6_goes_12 : decode cX6_goes 12 = .ok (.aload_n 0, 1) := by decide +kernel
theorem dX6_goes_13 : decode cX6_goes 13 = .ok (.getfield 19, 3) := by decide +kernel
theorem dX6_goes_16 : decode cX6_goes 16 = .ok (.aload_n 0, 1) := by decide +kernel
theorem dX6_goes_17 : decode cX6_goes 17 = .ok (.getfield 55, 3) := by decide +kernel
theorem dX6_goes_20 : decode cX6_goes 20 = .ok (.iload_n 1, 1) := by decide +kernel
theorem dX6_goes_21 : decode cX6_goes 21 = .ok (.iload_n 2, 1) := by decide +kernel
theorem dX6_goes_22 : decode cX6_goes 22 = .ok (.invokevirtual 268, 3) := by decide +kernel
theorem dX6_goes_25 : decode cX6_goes 25 = .ok (.invokevirtual 91, 3) := by decide +kernel
theorem dX6_goes_28 : decode cX6_goes 28 = .ok (.ireturn, 1) := by decide +kernel
theorem dX6_merges_0 : decode cX6_merges 0 = .ok (.aload_n 0, 1) := by decide +kernel
theorem dX6_merges_1 : decode cX6_merges 1 = .ok (.getfield 36, 3) := by decide +kernel
theorem dX6_merges_4 : decode cX6_merges 4 = .ok (.aload_n 0, 1) := by decide +kernel
theorem dX6_merges_5 : decode cX6_merges 5 = .ok (.getfield 55, 3) := by decide +kernel
theorem dX6_merges_8 : decode cX6_merges 8 = .ok (.invokevirtual 84, 3) := by decide +kernel
theorem dX6_merges_11 : decode cX6_merges 11 = .ok (.aload_n 0, 1) := by decide +kernel
theorem dX6_merges_12 : decode cX6_merges 12 = .ok (.aload_n 0, 1) := by decide +kernel
theorem dX6_merges_13 : decode cX6_merges 13 = .ok (.getfield 19, 3) := by decide +kernel
theorem dX6_merges_16 : decode cX6_merges 16 = .ok (.aload_n 0, 1) := by decide +kernel
theorem dX6_merges_17 : decode cX6_merges 17 = .ok (.getfield 55, 3) := by decide +kernel
theorem dX6_merges_20 : decode cX6_merges 20 = .ok (.iload_n 1, 1) := by decide +kernel
theorem dX6_merges_21 : decode cX6_merges 21 = .ok (.iload_n 2, 1) := by decide +kernel
theorem dX6_merges_22 : decode cX6_merges 22 = .ok (.invokevirtual 271, 3) := by decide +kernel
theorem dX6_merges_25 : decode cX6_merges 25 = .ok (.invokevirtual 91, 3) := by decide +kernel
theorem dX6_merges_28 : decode cX6_merges 28 = .ok (.ireturn, 1) := by decide +kernel
theorem dX6_thins_0 : decode cX6_thins 0 = .ok (.aload_n 0, 1) := by decide +kernel
theorem dX6_thins_1 : decode cX6_thins 1 = .ok (.getfield 36, 3) := by decide +kernel
theorem dX6_thins_4 : decode cX6_thins 4 = .ok (.aload_n 0, 1) := by decide +kernel
theorem dX6_thins_5 : decode cX6_thins 5 = .ok (.getfield 55, 3) := by decide +kernel
theorem dX6_thins_8 : decode cX6_thins 8 = .ok (.invokevirtual 84, 3) := by decide +kernel
theorem dX6_thins_11 : decode cX6_thins 11 = .ok (.aload_n 0, 1) := by decide +kernel
theorem dX6_thins_12 : decode cX6_thins 12 = .ok (.aload_n 0, 1) := by decide +kernel
theorem dX6_thins_13 : decode cX6_thins 13 = .ok (.getfield 19, 3) := by decide +kernel
theorem dX6_thins_16 : decode cX6_thins 16 = .ok (.aload_n 0, 1) := by decide +kernel
theorem dX6_thins_17 : decode cX6_thins 17 = .ok (.getfield 55, 3) := by decide +kernel
theorem dX6_thins_20 : decode cX6_thins 20 = .ok (.invokevirtual 274, 3) := by decide +kernel
theorem dX6_thins_23 : decode cX6_thins 23 = .ok (.invokevirtual 91, 3) := by decide +kernel
theorem dX6_thins_26 : decode cX6_thins 26 = .ok (.ireturn, 1) := by decide +kernel
theorem dX6_day_0 : decode cX6_day 0 = .ok (.aload_n 0, 1) := by decide +kernel
theorem dX6_day_1 : decode cX6_day 1 = .ok (.getfield 12, 3) := by decide +kernel
theorem dX6_day_4 : decode cX6_day 4 = .ok (.invokevirtual 277, 3) := by decide +kernel
theorem dX6_day_7 : decode cX6_day 7 = .ok (.istore_n 1, 1) := by decide +kernel
theorem dX6_day_8 : decode cX6_day 8 = .ok (.aload_n 0, 1) := by decide +kernel
theorem dX6_day_9 : decode cX6_day 9 = .ok (.getfield 12, 3) := by decide +kernel
theorem dX6_day_12 : decode cX6_day 12 = .ok (.invokevirtual 132, 3) := by decide +kernel
theorem dX6_day_15 : decode cX6_day 15 = .ok (.iload_n 1, 1) := by decide +kernel
theorem dX6_day_16 : decode cX6_day 16 = .ok (.ifCond .ne 11, 3) := by decide +kernel
theorem dX6_day_19 : decode cX6_day 19 = .ok (.aload_n 0, 1) := by decide +kernel
theorem dX6_day_20 : decode cX6_day 20 = .ok (.getfield 12, 3) := by decide +kernel
theorem dX6_day_23 : decode cX6_day 23 = .ok (.invokevirtual 73, 3) := by decide +kernel
theorem dX6_day_26 : decode cX6_day 26 = .ok (.ireturn, 1) := by decide +kernel
theorem dX6_day_27 : decode cX6_day 27 = .ok (.aload_n 0, 1) := by decide +kernel
theorem dX6_day_28 : decode cX6_day 28 = .ok (.getfield 36, 3) := by decide +kernel
theorem dX6_day_31 : decode cX6_day 31 = .ok (.aload_n 0, 1) := by decide +kernel
theorem dX6_day_32 : decode cX6_day 32 = .ok (.getfield 55, 3) := by decide +kernel
theorem dX6_day_35 : decode cX6_day 35 = .ok (.invokevirtual 84, 3) := by decide +kernel
theorem dX6_day_38 : decode cX6_day 38 = .ok (.iconst 0, 1) := by decide +kernel
theorem dX6_day_39 : decode cX6_day 39 = .ok (.istore_n 2, 1) := by decide +kernel
theorem dX6_day_40 : decode cX6_day 40 = .ok (.iload_n 2, 1) := by decide +kernel
theorem dX6_day_41 : decode cX6_day 41 = .ok (.aload_n 0, 1) := by decide +kernel
theorem dX6_day_42 : decode cX6_day 42 = .ok (.getfield 12, 3) := by decide +kernel
theorem dX6_day_45 : decode cX6_day 45 = .ok (.getfield 136, 3) := by decide +kernel
theorem dX6_day_48 : decode cX6_day 48 = .ok (.if_icmp .ge 32, 3) := by decide +kernel
theorem dX6_day_51 : decode cX6_day 51 = .ok (.aload_n 0, 1) := by decide +kernel
theorem dX6_day_52 : decode cX6_day 52 = .ok (.getfield 19, 3) := by decide +kernel
theorem dX6_day_55 : decode cX6_day 55 = .ok (.aload_n 0, 1) := by decide +kernel
theorem dX6_day_56 : decode cX6_day 56 = .ok (.getfield 55, 3) := by decide +kernel
theorem dX6_day_59 : decode cX6_day 59 = .ok (.aload_n 0, 1) := by decide +kernel
theorem dX6_day_60 : decode cX6_day 60 = .ok (.getfield 12, 3) := by decide +kernel
theorem dX6_day_63 : decode cX6_day 63 = .ok (.getfield 139, 3) := by decide +kernel
theorem dX6_day_66 : decode cX6_day 66 = .ok (.iload_n 2, 1) := by decide +kernel
theorem dX6_day_67 : decode cX6_day 67 = .ok (.iaload, 1) := by decide +kernel
theorem dX6_day_68 : decode cX6_day 68 = .ok (.invokevirtual 281, 3) := by decide +kernel
theorem dX6_day_71 : decode cX6_day 71 = .ok (.ifCond .lt 9, 3) := by decide +kernel
theorem dX6_day_74 : decode cX6_day 74 = .ok (.iinc 2 1, 3) := by decide +kernel
theorem dX6_day_77 : decode cX6_day 77 = .ok (.goto (-37), 3) := by decide +kernel
theorem dX6_day_80 : decode cX6_day 80 = .ok (.iload_n 2, 1) := by decide +kernel
theorem dX6_day_81 : decode cX6_day 81 = .ok (.ifCond .le 10, 3) := by decide +kernel
theorem dX6_day_84 : decode cX6_day 84 = .ok (.aload_n 0, 1) := by decide +kernel
theorem dX6_day_85 : decode cX6_day 85 = .ok (.getfield 36, 3) := by decide +kernel
theorem dX6_day_88 : decode cX6_day 88 = .ok (.invokevirtual 146, 3) := by decide +kernel
theorem dX6_day_91 : decode cX6_day 91 = .ok (.aload_n 0, 1) := by decide +kernel
theorem dX6_day_92 : decode cX6_day 92 = .ok (.getfield 27, 3) := by decide +kernel
theorem dX6_day_95 : decode cX6_day 95 = .ok (.iload_n 2, 1) := by decide +kernel
theorem dX6_day_96 : decode cX6_day 96 = .ok (.aload_n 0, 1) := by decide +kernel
theorem dX6_day_97 : decode cX6_day 97 = .ok (.getfield 12, 3) := by decide +kernel
theorem dX6_day_100 : decode cX6_day 100 = .ok (.getfield 136, 3) := by decide +kernel
theorem dX6_day_103 : decode cX6_day 103 = .ok (.if_icmp .ge 7, 3) := by decide +kernel
theorem dX6_day_106 : decode cX6_day 106 = .ok (.lconst 1, 1) := by decide +kernel
theorem dX6_day_107 : decode cX6_day 107 = .ok (.goto 4, 3) := by decide +kernel
theorem dX6_day_110 : decode cX6_day 110 = .ok (.lconst 0, 1) := by decide +kernel
theorem dX6_day_111 : decode cX6_day 111 = .ok (.invokevirtual 149, 3) := by decide +kernel
theorem dX6_day_114 : decode cX6_day 114 = .ok (.aload_n 0, 1) := by decide +kernel
theorem dX6_day_115 : decode cX6_day 115 = .ok (.getfield 27, 3) := by decide +kernel
theorem dX6_day_118 : decode cX6_day 118 = .ok (.aload_n 0, 1) := by decide +kernel
theorem dX6_day_119 : decode cX6_day 119 = .ok (.getfield 55, 3) := by decide +kernel
theorem dX6_day_122 : decode cX6_day 122 = .ok (.invokevirtual 133, 3) := by decide +kernel
theorem dX6_day_125 : decode cX6_day 125 = .ok (.i2l, 1) := by decide +kernel
theorem dX6_day_126 : decode cX6_day 126 = .ok (.invokevirtual 116, 3) := by decide +kernel
theorem dX6_day_129 : decode cX6_day 129 = .ok (.iload_n 2, 1) := by decide +kernel
theorem dX6_day_130 : decode cX6_day 130 = .ok (.ireturn, 1) := by decide +kernel
theorem dX6_undo_0 : decode cX6_undo 0 = .ok (.aload_n 0, 1) := by decide +kernel
theorem dX6_undo_1 : decode cX6_undo 1 = .ok (.getfield 36, 3) := by decide +kernel
theorem dX6_undo_4 : decode cX6_undo 4 = .ok (.getfield 285, 3) := by decide +kernel
theorem dX6_undo_7 : decode cX6_undo 7 = .ok (.ifCond .ne 5, 3) := by decide +kernel
theorem dX6_undo_10 : decode cX6_undo 10 = .ok (.iconst (-1), 1) := by decide +kernel
theorem dX6_undo_11 : decode cX6_undo 11 = .ok (.ireturn, 1) := by decide +kernel
theorem dX6_undo_12 : decode cX6_undo 12 = .ok (.aload_n 0, 1) := by decide +kernel
theorem dX6_undo_13 : decode cX6_undo 13 = .ok (.aload_n 0, 1) := by decide +kernel
theorem dX6_undo_14 : decode cX6_undo 14 = .ok (.getfield 36, 3) := by decide +kernel
theorem dX6_undo_17 : decode cX6_undo 17 = .ok (.aload_n 0, 1) := by decide +kernel
theorem dX6_undo_18 : decode cX6_undo 18 = .ok (.getfield 55, 3) := by decide +kernel
theorem dX6_undo_21 : decode cX6_undo 21 = .ok (.invokevirtual 286, 3) := by decide +kernel
theorem dX6_undo_24 : decode cX6_undo 24 = .ok (.putfield 55, 3) := by decide +kernel
theorem dX6_undo_27 : decode cX6_undo 27 = .ok (.aload_n 0, 1) := by decide +kernel
theorem dX6_undo_28 : decode cX6_undo 28 = .ok (.getfield 36, 3) := by decide +kernel
theorem dX6_undo_31 : decode cX6_undo 31 = .ok (.getfield 285, 3) := by decide +kernel
theorem dX6_undo_34 : decode cX6_undo 34 = .ok (.ireturn, 1) := by decide +kernel
theorem dX6_years_0 : decode cX6_years 0 = .ok (.iload_n 2, 1) := by decide +kernel
theorem dX6_years_1 : decode cX6_years 1 = .ok (.iconst 1, 1) := by decide +kernel
theorem dX6_years_2 : decode cX6_years 2 = .ok (.if_icmp .lt 9, 3) := by decide +kernel
theorem dX6_years_5 : decode cX6_years 5 = .ok (.iload_n 2, 1) := by decide +kernel
theorem dX6_years_6 : decode cX6_years 6 = .ok (.bipush 60, 2) := by decide +kernel
theorem dX6_years_8 : decode cX6_years 8 = .ok (.if_icmp .le 5, 3) := by decide +kernel
theorem dX6_years_11 : decode cX6_years 11 = .ok (.iconst (-1), 1) := by decide +kernel
theorem dX6_years_12 : decode cX6_years 12 = .ok (.ireturn, 1) := by decide +kernel
theorem dX6_years_13 : decode cX6_years 13 = .ok (.aload_n 0, 1) := by decide +kernel
theorem dX6_years_14 : decode cX6_years 14 = .ok (.getfield 43, 3) := by decide +kernel
theorem dX6_years_17 : decode cX6_years 17 = .ok (.aload_n 0, 1) := by decide +kernel
theorem dX6_years_18 : decode cX6_years 18 = .ok (.getfield 55, 3) := by decide +kernel
theorem dX6_years_21 : decode cX6_years 21 = .ok (.invokevirtual 167, 3) := by decide +kernel
theorem dX6_years_24 : decode cX6_years 24 = .ok (.iload_n 1, 1) := by decide +kernel
theorem dX6_years_25 : decode cX6_years 25 = .ok (.istore_n 3, 1) := by decide +kernel
theorem dX6_years_26 : decode cX6_years 26 = .ok (.iconst 0, 1) := by decide +kernel
theorem dX6_years_27 : decode cX6_years 27 = .ok (.istore 4, 2) := by decide +kernel
theorem dX6_years_29 : decode cX6_years 29 = .ok (.iconst 0, 1) := by decide +kernel
theorem dX6_years_30 : decode cX6_years 30 = .ok (.istore 5, 2) := by decide +kernel
theorem dX6_years_32 : decode cX6_years 32 = .ok (.iconst 0, 1) := by decide +kernel
theorem dX6_years_33 : decode cX6_years 33 = .ok (.istore 6, 2) := by decide +kernel
theorem dX6_years_35 : decode cX6_years 35 = .ok (.iload 6, 2) := by decide +kernel
theorem dX6_years_37 : decode cX6_years 37 = .ok (.iload_n 2, 1) := by decide +kernel
theorem dX6_years_38 : decode cX6_years 38 = .ok (.if_icmp .ge 86, 3) := by decide +kernel
theorem dX6_years_41 : decode cX6_years 41 = .ok (.iload_n 3, 1) := by decide +kernel
theorem dX6_years_42 : decode cX6_years 42 = .ok (.invokestatic 290, 3) := by decide +kernel
theorem dX6_years_45 : decode cX6_years 45 = .ok (.istore_n 3, 1) := by decide +kernel
theorem dX6_years_46 : decode cX6_years 46 = .ok (.iload_n 3, 1) := by decide +kernel
theorem dX6_years_47 : decode cX6_years 47 = .ok (.bipush 16, 2) := by decide +kernel
theorem dX6_years_49 : decode cX6_years 49 = .ok (.iushr, 1) := by decide +kernel
theorem dX6_years_50 : decode cX6_years 50 = .ok (.bipush 24, 2) := by decide +kernel
theorem dX6_years_52 : decode cX6_years 52 = .ok (.irem, 1) := by decide +kernel
theorem dX6_years_53 : decode cX6_years 53 = .ok (.istore 7, 2) := by decide +kernel
theorem dX6_years_55 : decode cX6_years 55 = .ok (.iload_n 3, 1) := by decide +kernel
theorem dX6_years_56 : decode cX6_years 56 = .ok (.invokestatic 290, 3) := by decide +kernel
theorem dX6_years_59 : decode cX6_years 59 = .ok (.istore_n 3, 1) := by decide +kernel
theorem dX6_years_60 : decode cX6_years 60 = .ok (.iload_n 3, 1) := by decide +kernel
theorem dX6_years_61 : decode cX6_years 61 = .ok (.bipush 16, 2) := by decide +kernel
theorem dX6_years_63 : decode cX6_years 63 = .ok (.iushr, 1) := by decide +kernel
theorem dX6_years_64 : decode cX6_years 64 = .ok (.bipush 24, 2) := by decide +kernel
theorem dX6_years_66 : decode cX6_years 66 = .ok (.irem, 1) := by decide +kernel
theorem dX6_years_67 : decode cX6_years 67 = .ok (.istore 8, 2) := by decide +kernel
theorem dX6_years_69 : decode cX6_years 69 = .ok (.aload_n 0, 1) := by decide +kernel
theorem dX6_years_70 : decode cX6_years 70 = .ok (.getfield 19, 3) := by decide +kernel
theorem dX6_years_73 : decode cX6_years 73 = .ok (.aload_n 0, 1) := by decide +kernel
theorem dX6_years_74 : decode cX6_years 74 = .ok (.getfield 43, 3) := by decide +kernel
theorem dX6_years_77 : decode cX6_years 77 = .ok (.iload 7, 2) := by decide +kernel
theorem dX6_years_79 : decode cX6_years 79 = .ok (.iload 8, 2) := by decide +kernel
theorem dX6_years_81 : decode cX6_years 81 = .ok (.invokevirtual 121, 3) := by decide +kernel
theorem dX6_years_84 : decode cX6_years 84 = .ok (.istore 9, 2) := by decide +kernel
theorem dX6_years_86 : decode cX6_years 86 = .ok (.iload 4, 2) := by decide +kernel
theorem dX6_years_88 : decode cX6_years 88 = .ok (.iload 9, 2) := by decide +kernel
theorem dX6_years_90 : decode cX6_years 90 = .ok (.ifCond .lt 7, 3) := by decide +kernel
theorem dX6_years_93 : decode cX6_years 93 = .ok (.iconst 1, 1) := by decide +kernel
theorem dX6_years_94 : decode cX6_years 94 = .ok (.goto 4, 3) := by decide +kernel
theorem dX6_years_97 : decode cX6_years 97 = .ok (.iconst 0, 1) := by decide +kernel
theorem dX6_years_98 : decode cX6_years 98 = .ok (.iadd, 1) := by decide +kernel
theorem dX6_years_99 : decode cX6_years 99 = .ok (.istore 4, 2) := by decide +kernel
theorem dX6_years_101 : decode cX6_years 101 = .ok (.iload 5, 2) := by decide +kernel
theorem dX6_years_103 : decode cX6_years 103 = .ok (.iload 9, 2) := by decide +kernel
theorem dX6_years_105 : decode cX6_years 105 = .ok (.bipush (-4), 2) := by decide +kernel
theorem dX6_years_107 : decode cX6_years 107 = .ok (.if_icmp .ne 7, 3) := by decide +kernel
theorem dX6_years_110 : decode cX6_years 110 = .ok (.iconst 1, 1) := by decide +kernel
theorem dX6_years_111 : decode cX6_years 111 = .ok (.goto 4, 3) := by decide +kernel
theorem dX6_years_114 : decode cX6_years 114 = .ok (.iconst 0, 1) := by decide +kernel
theorem dX6_years_115 : decode cX6_years 115 = .ok (.iadd, 1) := by decide +kernel
theorem dX6_years_116 : decode cX6_years 116 = .ok (.istore 5, 2) := by decide +kernel
theorem dX6_years_118 : decode cX6_years 118 = .ok (.iinc 6 1, 3) := by decide +kernel
theorem dX6_years_121 : decode cX6_years 121 = .ok (.goto (-86), 3) := by decide +kernel
theorem dX6_years_124 : decode cX6_years 124 = .ok (.aload_n 0, 1) := by decide +kernel
theorem dX6_years_125 : decode cX6_years 125 = .ok (.getfield 27, 3) := by decide +kernel
theorem dX6_years_128 : decode cX6_years 128 = .ok (.iload 5, 2) := by decide +kernel
theorem dX6_years_130 : decode cX6_years 130 = .ok (.i2l, 1) := by decide +kernel
theorem dX6_years_131 : decode cX6_years 131 = .ok (.invokevirtual 149, 3) := by decide +kernel
theorem dX6_years_134 : decode cX6_years 134 = .ok (.aload_n 0, 1) := by decide +kernel
theorem dX6_years_135 : decode cX6_years 135 = .ok (.getfield 27, 3) := by decide +kernel
theorem dX6_years_138 : decode cX6_years 138 = .ok (.aload_n 0, 1) := by decide +kernel
theorem dX6_years_139 : decode cX6_years 139 = .ok (.getfield 55, 3) := by decide +kernel
theorem dX6_years_142 : decode cX6_years 142 = .ok (.aload_n 0, 1) := by decide +kernel
theorem dX6_years_143 : decode cX6_years 143 = .ok (.getfield 43, 3) := by decide +kernel
theorem dX6_years_146 : decode cX6_years 146 = .ok (.invokevirtual 293, 3) := by decide +kernel
theorem dX6_years_149 : decode cX6_years 149 = .ok (.i2l, 1) := by decide +kernel
theorem dX6_years_150 : decode cX6_years 150 = .ok (.invokevirtual 116, 3) := by decide +kernel
theorem dX6_years_153 : decode cX6_years 153 = .ok (.iload 4, 2) := by decide +kernel
theorem dX6_years_155 : decode cX6_years 155 = .ok (.ireturn, 1) := by decide +kernel
theorem dX6_drawn_0 : decode cX6_drawn 0 = .ok (.iload_n 0, 1) := by decide +kernel
theorem dX6_drawn_1 : decode cX6_drawn 1 = .ok (.ldc_w 296, 3) := by decide +kernel
theorem dX6_drawn_4 : decode cX6_drawn 4 = .ok (.imul, 1) := by decide +kernel
theorem dX6_drawn_5 : decode cX6_drawn 5 = .ok (.sipush 12345, 3) := by decide +kernel
theorem dX6_drawn_8 : decode cX6_drawn 8 = .ok (.iadd, 1) := by decide +kernel
theorem dX6_drawn_9 : decode cX6_drawn 9 = .ok (.ireturn, 1) := by decide +kernel
theorem dX6_keep_0 : decode cX6_keep 0 = .ok (.iload_n 1, 1) := by decide +kernel
theorem dX6_keep_1 : decode cX6_keep 1 = .ok (.ifCond .lt 8, 3) := by decide +kernel
theorem dX6_keep_4 : decode cX6_keep 4 = .ok (.iload_n 1, 1) := by decide +kernel
theorem dX6_keep_5 : decode cX6_keep 5 = .ok (.iconst 2, 1) := by decide +kernel
theorem dX6_keep_6 : decode cX6_keep 6 = .ok (.if_icmp .lt 5, 3) := by decide +kernel
theorem dX6_keep_9 : decode cX6_keep 9 = .ok (.iconst 0, 1) := by decide +kernel
theorem dX6_keep_10 : decode cX6_keep 10 = .ok (.ireturn, 1) := by decide +kernel
theorem dX6_keep_11 : decode cX6_keep 11 = .ok (.aload_n 0, 1) := by decide +kernel
theorem dX6_keep_12 : decode cX6_keep 12 = .ok (.getfield 47, 3) := by decide +kernel
theorem dX6_keep_15 : decode cX6_keep 15 = .ok (.iload_n 1, 1) := by decide +kernel
theorem dX6_keep_16 : decode cX6_keep 16 = .ok (.aaload, 1) := by decide +kernel
theorem dX6_keep_17 : decode cX6_keep 17 = .ok (.aload_n 0, 1) := by decide +kernel
theorem dX6_keep_18 : decode cX6_keep 18 = .ok (.getfield 55, 3) := by decide +kernel
theorem dX6_keep_21 : decode cX6_keep 21 = .ok (.invokevirtual 167, 3) := by decide +kernel
theorem dX6_keep_24 : decode cX6_keep 24 = .ok (.aload_n 0, 1) := by decide +kernel
theorem dX6_keep_25 : decode cX6_keep 25 = .ok (.getfield 51, 3) := by decide +kernel
theorem dX6_keep_28 : decode cX6_keep 28 = .ok (.iload_n 1, 1) := by decide +kernel
theorem dX6_keep_29 : decode cX6_keep 29 = .ok (.iconst 1, 1) := by decide +kernel
theorem dX6_keep_30 : decode cX6_keep 30 = .ok (.bastore, 1) := by decide +kernel
theorem dX6_keep_31 : decode cX6_keep 31 = .ok (.iconst 1, 1) := by decide +kernel
theorem dX6_keep_32 : decode cX6_keep 32 = .ok (.ireturn, 1) := by decide +kernel
theorem dX6_again_0 : decode cX6_again 0 = .ok (.iload_n 1, 1) := by decide +kernel
theorem dX6_again_1 : decode cX6_again 1 = .ok (.ifCond .lt 17, 3) := by decide +kernel
theorem dX6_again_4 : decode cX6_again 4 = .ok (.iload_n 1, 1) := by decide +kernel
theorem dX6_again_5 : decode cX6_again 5 = .ok (.iconst 2, 1) := by decide +kernel
theorem dX6_again_6 : decode cX6_again 6 = .ok (.if_icmp .ge 12, 3) := by decide +kernel
theorem dX6_again_9 : decode cX6_again 9 = .ok (.aload_n 0, 1) := by decide +kernel
theorem dX6_again_10 : decode cX6_again 10 = .ok (.getfield 51, 3) := by decide +kernel
theorem dX6_again_13 : decode cX6_again 13 = .ok (.iload_n 1, 1) := by decide +kernel
theorem dX6_again_14 : decode cX6_again 14 = .ok (.baload, 1) := by decide +kernel
theorem dX6_again_15 : decode cX6_again 15 = .ok (.ifCond .ne 5, 3) := by decide +kernel
theorem dX6_again_18 : decode cX6_again 18 = .ok (.iconst 0, 1) := by decide +kernel
theorem dX6_again_19 : decode cX6_again 19 = .ok (.ireturn, 1) := by decide +kernel
theorem dX6_again_20 : decode cX6_again 20 = .ok (.aload_n 0, 1) := by decide +kernel
theorem dX6_again_21 : decode cX6_again 21 = .ok (.getfield 55, 3) := by decide +kernel
theorem dX6_again_24 : decode cX6_again 24 = .ok (.aload_n 0, 1) := by decide +kernel
theorem dX6_again_25 : decode cX6_again 25 = .ok (.getfield 47, 3) := by decide +kernel
theorem dX6_again_28 : decode cX6_again 28 = .ok (.iload_n 1, 1) := by decide +kernel
theorem dX6_again_29 : decode cX6_again 29 = .ok (.aaload, 1) := by decide +kernel
theorem dX6_again_30 : decode cX6_again 30 = .ok (.invokevirtual 167, 3) := by decide +kernel
theorem dX6_again_33 : decode cX6_again 33 = .ok (.aload_n 0, 1) := by decide +kernel
theorem dX6_again_34 : decode cX6_again 34 = .ok (.getfield 36, 3) := by decide +kernel
theorem dX6_again_37 : decode cX6_again 37 = .ok (.iconst 0, 1) := by decide +kernel
theorem dX6_again_38 : decode cX6_again 38 = .ok (.putfield 285, 3) := by decide +kernel
theorem dX6_again_41 : decode cX6_again 41 = .ok (.iconst 1, 1) := by decide +kernel
theorem dX6_again_42 : decode cX6_again 42 = .ok (.ireturn, 1) := by decide +kernel
theorem dX6_count_0 : decode cX6_count 0 = .ok (.iload_n 1, 1) := by decide +kernel
theorem dX6_count_1 : decode cX6_count 1 = .ok (.tableswitch 111 0 7 #[47, 55, 63, 71, 79, 87, 95, 103], 47) := by decide +kernel
theorem dX6_count_48 : decode cX6_count 48 = .ok (.aload_n 0, 1) := by decide +kernel
theorem dX6_count_49 : decode cX6_count 49 = .ok (.getfield 55, 3) := by decide +kernel
theorem dX6_count_52 : decode cX6_count 52 = .ok (.getfield 80, 3) := by decide +kernel
theorem dX6_count_55 : decode cX6_count 55 = .ok (.ireturn, 1) := by decide +kernel
theorem dX6_count_56 : decode cX6_count 56 = .ok (.aload_n 0, 1) := by decide +kernel
theorem dX6_count_57 : decode cX6_count 57 = .ok (.getfield 55, 3) := by decide +kernel
theorem dX6_count_60 : decode cX6_count 60 = .ok (.getfield 246, 3) := by decide +kernel
theorem dX6_count_63 : decode cX6_count 63 = .ok (.ireturn, 1) := by decide +kernel
theorem dX6_count_64 : decode cX6_count 64 = .ok (.aload_n 0, 1) := by decide +kernel
theorem dX6_count_65 : decode cX6_count 65 = .ok (.getfield 55, 3) := by decide +kernel
theorem dX6_count_68 : decode cX6_count 68 = .ok (.invokevirtual 133, 3) := by decide +kernel
theorem dX6_count_71 : decode cX6_count 71 = .ok (.ireturn, 1) := by decide +kernel
theorem dX6_count_72 : decode cX6_count 72 = .ok (.aload_n 0, 1) := by decide +kernel
theorem dX6_count_73 : decode cX6_count 73 = .ok (.getfield 55, 3) := by decide +kernel
theorem dX6_count_76 : decode cX6_count 76 = .ok (.getfield 81, 3) := by decide +kernel
theorem dX6_count_79 : decode cX6_count 79 = .ok (.ireturn, 1) := by decide +kernel
theorem dX6_count_80 : decode cX6_count 80 = .ok (.aload_n 0, 1) := by decide +kernel
theorem dX6_count_81 : decode cX6_count 81 = .ok (.getfield 55, 3) := by decide +kernel
theorem dX6_count_84 : decode cX6_count 84 = .ok (.invokevirtual 297, 3) := by decide +kernel
theorem dX6_count_87 : decode cX6_count 87 = .ok (.ireturn, 1) := by decide +kernel
theorem dX6_count_88 : decode cX6_count 88 = .ok (.aload_n 0, 1) := by decide +kernel
theorem dX6_count_89 : decode cX6_count 89 = .ok (.getfield 36, 3) := by decide +kernel
theorem dX6_count_92 : decode cX6_count 92 = .ok (.getfield 285, 3) := by decide +kernel
theorem dX6_count_95 : decode cX6_count 95 = .ok (.ireturn, 1) := by decide +kernel
theorem dX6_count_96 : decode cX6_count 96 = .ok (.aload_n 0, 1) := by decide +kernel
theorem dX6_count_97 : decode cX6_count 97 = .ok (.getfield 27, 3) := by decide +kernel
theorem dX6_count_100 : decode cX6_count 100 = .ok (.getfield 120, 3) := by decide +kernel
theorem dX6_count_103 : decode cX6_count 103 = .ok (.ireturn, 1) := by decide +kernel
theorem dX6_count_104 : decode cX6_count 104 = .ok (.aload_n 0, 1) := by decide +kernel
theorem dX6_count_105 : decode cX6_count 105 = .ok (.getfield 12, 3) := by decide +kernel
theorem dX6_count_108 : decode cX6_count 108 = .ok (.getfield 62, 3) := by decide +kernel
theorem dX6_count_111 : decode cX6_count 111 = .ok (.ireturn, 1) := by decide +kernel
theorem dX6_count_112 : decode cX6_count 112 = .ok (.iconst (-1), 1) := by decide +kernel
theorem dX6_count_113 : decode cX6_count 113 = .ok (.ireturn, 1) := by decide +kernel
theorem dX6_row_0 : decode cX6_row 0 = .ok (.iload_n 1, 1) := by decide +kernel
theorem dX6_row_1 : decode cX6_row 1 = .ok (.ifCond .lt 14, 3) := by decide +kernel
theorem dX6_row_4 : decode cX6_row 4 = .ok (.iload_n 1, 1) := by decide +kernel
theorem dX6_row_5 : decode cX6_row 5 = .ok (.aload_n 0, 1) := by decide +kernel
theorem dX6_row_6 : decode cX6_row 6 = .ok (.getfield 27, 3) := by decide +kernel
theorem dX6_row_9 : decode cX6_row 9 = .ok (.getfield 120, 3) := by decide +kernel
theorem dX6_row_12 : decode cX6_row 12 = .ok (.if_icmp .lt 14, 3) := by decide +kernel
theorem dX6_row_15 : decode cX6_row 15 = .ok (.new 152, 3) := by decide +kernel
theorem dX6_row_18 : decode cX6_row 18 = .ok (.dup, 1) := by decide +kernel
theorem dX6_row_19 : decode cX6_row 19 = .ok (.ldc_w 300, 3) := by decide +kernel
theorem dX6_row_22 : decode cX6_row 22 = .ok (.invokespecial 156, 3) := by decide +kernel
theorem dX6_row_25 : decode cX6_row 25 = .ok (.athrow, 1) := by decide +kernel
theorem dX6_row_26 : decode cX6_row 26 = .ok (.aload_n 0, 1) := by decide +kernel
theorem dX6_row_27 : decode cX6_row 27 = .ok (.getfield 27, 3) := by decide +kernel
theorem dX6_row_30 : decode cX6_row 30 = .ok (.getfield 302, 3) := by decide +kernel
theorem dX6_row_33 : decode cX6_row 33 = .ok (.iload_n 1, 1) := by decide +kernel
theorem dX6_row_34 : decode cX6_row 34 = .ok (.laload, 1) := by decide +kernel
theorem dX6_row_35 : decode cX6_row 35 = .ok (.lreturn, 1) := by decide +kernel
theorem dX6_settled_0 : decode cX6_settled 0 = .ok (.iload_n 1, 1) := by decide +kernel
theorem dX6_settled_1 : decode cX6_settled 1 = .ok (.ifCond .lt 10, 3) := by decide +kernel
theorem dX6_settled_4 : decode cX6_settled 4 = .ok (.aload_n 0, 1) := by decide +kernel
theorem dX6_settled_5 : decode cX6_settled 5 = .ok (.getfield 36, 3) := by decide +kernel
theorem dX6_settled_8 : decode cX6_settled 8 = .ok (.invokevirtual 146, 3) := by decide +kernel
theorem dX6_settled_11 : decode cX6_settled 11 = .ok (.iload_n 1, 1) := by decide +kernel
theorem dX6_settled_12 : decode cX6_settled 12 = .ok (.ireturn, 1) := by decide +kernel
theorem dX6_holds_0 : decode cX6_holds 0 = .ok (.iload_n 0, 1) := by decide +kernel
theorem dX6_holds_1 : decode cX6_holds 1 = .ok (.iload_n 1, 1) := by decide +kernel
theorem dX6_holds_2 : decode cX6_holds 2 = .ok (.ishr, 1) := by decide +kernel
theorem dX6_holds_3 : decode cX6_holds 3 = .ok (.iconst 1, 1) := by decide +kernel
theorem dX6_holds_4 : decode cX6_holds 4 = .ok (.iand, 1) := by decide +kernel
theorem dX6_holds_5 : decode cX6_holds 5 = .ok (.ifCond .eq 7, 3) := by decide +kernel
theorem dX6_holds_8 : decode cX6_holds 8 = .ok (.iconst 1, 1) := by decide +kernel
theorem dX6_holds_9 : decode cX6_holds 9 = .ok (.goto 4, 3) := by decide +kernel
theorem dX6_holds_12 : decode cX6_holds 12 = .ok (.iconst 0, 1) := by decide +kernel
theorem dX6_holds_13 : decode cX6_holds 13 = .ok (.ireturn, 1) := by decide +kernel
theorem dX6_isItem_0 : decode cX6_isItem 0 = .ok (.iload_n 0, 1) := by decide +kernel
theorem dX6_isItem_1 : decode cX6_isItem 1 = .ok (.ifCond .lt 13, 3) := by decide +kernel
theorem dX6_isItem_4 : decode cX6_isItem 4 = .ok (.iload_n 0, 1) := by decide +kernel
theorem dX6_isItem_5 : decode cX6_isItem 5 = .ok (.bipush 40, 2) := by decide +kernel
theorem dX6_isItem_7 : decode cX6_isItem 7 = .ok (.if_icmp .ge 7, 3) := by decide +kernel
theorem dX6_isItem_10 : decode cX6_isItem 10 = .ok (.iconst 1, 1) := by decide +kernel
theorem dX6_isItem_11 : decode cX6_isItem 11 = .ok (.goto 4, 3) := by decide +kernel
theorem dX6_isItem_14 : decode cX6_isItem 14 = .ok (.iconst 0, 1) := by decide +kernel
theorem dX6_isItem_15 : decode cX6_isItem 15 = .ok (.ireturn, 1) := by decide +kernel
theorem dX7_thrown_0 : decode cX7_thrown 0 = .ok (.aload_n 0, 1) := by decide +kernel
theorem dX7_thrown_1 : decode cX7_thrown 1 = .ok (.getfield 1, 3) := by decide +kernel
theorem dX7_thrown_4 : decode cX7_thrown 4 = .ok (.ireturn, 1) := by decide +kernel
theorem dX7_in_0 : decode cX7_in 0 = .ok (.lload_n 0, 1) := by decide +kernel
theorem dX7_in_1 : decode cX7_in 1 = .ok (.lload_n 2, 1) := by decide +kernel
theorem dX7_in_2 : decode cX7_in 2 = .ok (.lcmp, 1) := by decide +kernel
theorem dX7_in_3 : decode cX7_in 3 = .ok (.ifCond .lt 14, 3) := by decide +kernel
theorem dX7_in_6 : decode cX7_in 6 = .ok (.lload_n 0, 1) := by decide +kernel
theorem dX7_in_7 : decode cX7_in 7 = .ok (.lload 4, 2) := by decide +kernel
theorem dX7_in_9 : decode cX7_in 9 = .ok (.lcmp, 1) := by decide +kernel
theorem dX7_in_10 : decode cX7_in 10 = .ok (.ifCond .gt 7, 3) := by decide +kernel
theorem dX7_in_13 : decode cX7_in 13 = .ok (.iconst 1, 1) := by decide +kernel
theorem dX7_in_14 : decode cX7_in 14 = .ok (.goto 4, 3) := by decide +kernel
theorem dX7_in_17 : decode cX7_in 17 = .ok (.iconst 0, 1) := by decide +kernel
theorem dX7_in_18 : decode cX7_in 18 = .ok (.ireturn, 1) := by decide +kernel
theorem dX7_flag_0 : decode cX7_flag 0 = .ok (.iload_n 0, 1) := by decide +kernel
theorem dX7_flag_1 : decode cX7_flag 1 = .ok (.ifCond .eq 7, 3) := by decide +kernel
theorem dX7_flag_4 : decode cX7_flag 4 = .ok (.iconst 1, 1) := by decide +kernel
theorem dX7_flag_5 : decode cX7_flag 5 = .ok (.goto 4, 3) := by decide +kernel
theorem dX7_flag_8 : decode cX7_flag 8 = .ok (.iconst 0, 1) := by decide +kernel
theorem dX7_flag_9 : decode cX7_flag 9 = .ok (.ireturn, 1) := by decide +kernel
theorem dX7_has_0 : decode cX7_has 0 = .ok (.iload_n 0, 1) := by decide +kernel
theorem dX7_has_1 : decode cX7_has 1 = .ok (.iload_n 1, 1) := by decide +kernel
theorem dX7_has_2 : decode cX7_has 2 = .ok (.ishr, 1) := by decide +kernel
theorem dX7_has_3 : decode cX7_has 3 = .ok (.iconst 1, 1) := by decide +kernel
theorem dX7_has_4 : decode cX7_has 4 = .ok (.iand, 1) := by decide +kernel
theorem dX7_has_5 : decode cX7_has 5 = .ok (.iconst 1, 1) := by decide +kernel
theorem dX7_has_6 : decode cX7_has 6 = .ok (.if_icmp .ne 7, 3) := by decide +kernel
theorem dX7_has_9 : decode cX7_has 9 = .ok (.iconst 1, 1) := by decide +kernel
theorem dX7_has_10 : decode cX7_has 10 = .ok (.goto 4, 3) := by decide +kernel
theorem dX7_has_13 : decode cX7_has 13 = .ok (.iconst 0, 1) := by decide +kernel
theorem dX7_has_14 : decode cX7_has 14 = .ok (.ireturn, 1) := by decide +kernel
theorem dX7_sizeOf_0 : decode cX7_sizeOf 0 = .ok (.iconst 0, 1) := by decide +kernel
theorem dX7_sizeOf_1 : decode cX7_sizeOf 1 = .ok (.istore_n 1, 1) := by decide +kernel
theorem dX7_sizeOf_2 : decode cX7_sizeOf 2 = .ok (.iload_n 0, 1) := by decide +kernel
theorem dX7_sizeOf_3 : decode cX7_sizeOf 3 = .ok (.istore_n 2, 1) := by decide +kernel
theorem dX7_sizeOf_4 : decode cX7_sizeOf 4 = .ok (.iload_n 2, 1) := by decide +kernel
theorem dX7_sizeOf_5 : decode cX7_sizeOf 5 = .ok (.ifCond .eq 15, 3) := by decide +kernel
theorem dX7_sizeOf_8 : decode cX7_sizeOf 8 = .ok (.iinc 1 1, 3) := by decide +kernel
theorem dX7_sizeOf_11 : decode cX7_sizeOf 11 = .ok (.iload_n 2, 1) := by decide +kernel
theorem dX7_sizeOf_12 : decode cX7_sizeOf 12 = .ok (.iload_n 2, 1) := by decide +kernel
theorem dX7_sizeOf_13 : decode cX7_sizeOf 13 = .ok (.iconst 1, 1) := by decide +kernel
theorem dX7_sizeOf_14 : decode cX7_sizeOf 14 = .ok (.isub, 1) := by decide +kernel
theorem dX7_sizeOf_15 : decode cX7_sizeOf 15 = .ok (.iand, 1) := by decide +kernel
theorem dX7_sizeOf_16 : decode cX7_sizeOf 16 = .ok (.istore_n 2, 1) := by decide +kernel
theorem dX7_sizeOf_17 : decode cX7_sizeOf 17 = .ok (.goto (-13), 3) := by decide +kernel
theorem dX7_sizeOf_20 : decode cX7_sizeOf 20 = .ok (.iload_n 1, 1) := by decide +kernel
theorem dX7_sizeOf_21 : decode cX7_sizeOf 21 = .ok (.ireturn, 1) := by decide +kernel
theorem dX7_enters_0 : decode cX7_enters 0 = .ok (.aload_n 0, 1) := by decide +kernel
theorem dX7_enters_1 : decode cX7_enters 1 = .ok (.getfield 7, 3) := by decide +kernel
theorem dX7_enters_4 : decode cX7_enters 4 = .ok (.aload_n 0, 1) := by decide +kernel
theorem dX7_enters_5 : decode cX7_enters 5 = .ok (.getfield 11, 3) := by decide +kernel
theorem dX7_enters_8 : decode cX7_enters 8 = .ok (.lload_n 1, 1) := by decide +kernel
theorem dX7_enters_9 : decode cX7_enters 9 = .ok (.lastore, 1) := by decide +kernel
theorem dX7_enters_10 : decode cX7_enters 10 = .ok (.aload_n 0, 1) := by decide +kernel
theorem dX7_enters_11 : decode cX7_enters 11 = .ok (.dup, 1) := by decide +kernel
theorem dX7_enters_12 : decode cX7_enters 12 = .ok (.getfield 11, 3) := by decide +kernel
theorem dX7_enters_15 : decode cX7_enters 15 = .ok (.iconst 1, 1) := by decide +kernel
theorem dX7_enters_16 : decode cX7_enters 16 = .ok (.iadd, 1) := by decide +kernel
theorem dX7_enters_17 : decode cX7_enters 17 = .ok (.putfield 11, 3) := by decide +kernel
theorem dX7_enters_20 : decode cX7_enters 20 = .ok (.return_, 1) := by decide +kernel
theorem dX7_sign_0 : decode cX7_sign 0 = .ok (.aload_n 0, 1) := by decide +kernel
theorem dX7_sign_1 : decode cX7_sign 1 = .ok (.iconst 0, 1) := by decide +kernel
theorem dX7_sign_2 : decode cX7_sign 2 = .ok (.putfield 1, 3) := by decide +kernel
theorem dX7_sign_5 : decode cX7_sign 5 = .ok (.aload_n 0, 1) := by decide +kernel
theorem dX7_sign_6 : decode cX7_sign 6 = .ok (.getfield 14, 3) := by decide +kernel
theorem dX7_sign_9 : decode cX7_sign 9 = .ok (.bipush 76, 2) := by decide +kernel
theorem dX7_sign_11 : decode cX7_sign 11 = .ok (.if_icmp .le 5, 3) := by decide +kernel
theorem dX7_sign_14 : decode cX7_sign 14 = .ok (.iconst (-1), 1) := by decide +kernel
theorem dX7_sign_15 : decode cX7_sign 15 = .ok (.ireturn, 1) := by decide +kernel
theorem dX7_sign_16 : decode cX7_sign 16 = .ok (.iconst 0, 1) := by decide +kernel
theorem dX7_sign_17 : decode cX7_sign 17 = .ok (.istore_n 2, 1) := by decide +kernel
theorem dX7_sign_18 : decode cX7_sign 18 = .ok (.iload_n 2, 1) := by decide +kernel
theorem dX7_sign_19 : decode cX7_sign 19 = .ok (.iconst 4, 1) := by decide +kernel
theorem dX7_sign_20 : decode cX7_sign 20 = .ok (.if_icmp .ge 33, 3) := by decide +kernel
theorem dX7_sign_23 : decode cX7_sign 23 = .ok (.aload_n 0, 1) := by decide +kernel
theorem dX7_sign_24 : decode cX7_sign 24 = .ok (.getfield 17, 3) := by decide +kernel
theorem dX7_sign_27 : decode cX7_sign 27 = .ok (.aload_n 0, 1) := by decide +kernel
theorem dX7_sign_28 : decode cX7_sign 28 = .ok (.getfield 14, 3) := by decide +kernel
theorem dX7_sign_31 : decode cX7_sign 31 = .ok (.iload_n 2, 1) := by decide +kernel
theorem dX7_sign_32 : decode cX7_sign 32 = .ok (.iadd, 1) := by decide +kernel
theorem dX7_sign_33 : decode cX7_sign 33 = .ok (.iload_n 1, 1) := by decide +kernel
theorem dX7_sign_34 : decode cX7_sign 34 = .ok (.bipush 24, 2) := by decide +kernel
theorem dX7_sign_36 : decode cX7_sign 36 = .ok (.bipush 8, 2) := by decide +kernel
theorem dX7_sign_38 : decode cX7_sign 38 = .ok (.iload_n 2, 1) := by decide +kernel
theorem dX7_sign_39 : decode cX7_sign 39 = .ok (.imul, 1) := by decide +kernel
theorem dX7_sign_40 : decode cX7_sign 40 = .ok (.isub, 1) := by decide +kernel
theorem dX7_sign_41 : decode cX7_sign 41 = .ok (.ishr, 1) := by decide +kernel
theorem dX7_sign_42 : decode cX7_sign 42 = .ok (.sipush 255, 3) := by decide +kernel
theorem dX7_sign_45 : decode cX7_sign 45 = .ok (.iand, 1) := by decide +kernel
theorem dX7_sign_46 : decode cX7_sign 46 = .ok (.iastore, 1) := by decide +kernel
theorem dX7_sign_47 : decode cX7_sign 47 = .ok (.iinc 2 1, 3) := by decide +kernel
theorem dX7_sign_50 : decode cX7_sign 50 = .ok (.goto (-32), 3) := by decide +kernel
theorem dX7_sign_53 : decode cX7_sign 53 = .ok (.aload_n 0, 1) := by decide +kernel
theorem dX7_sign_54 : decode cX7_sign 54 = .ok (.dup, 1) := by decide +kernel
theorem dX7_sign_55 : decode cX7_sign 55 = .ok (.getfield 14, 3) := by decide +kernel
theorem dX7_sign_58 : decode cX7_sign 58 = .ok (.iconst 4, 1) := by decide +kernel
theorem dX7_sign_59 : decode cX7_sign 59 = .ok (.iadd, 1) := by decide +kernel
theorem dX7_sign_60 : decode cX7_sign 60 = .ok (.putfield 14, 3) := by decide +kernel
theorem dX7_sign_63 : decode cX7_sign 63 = .ok (.aload_n 0, 1) := by decide +kernel
theorem dX7_sign_64 : decode cX7_sign 64 = .ok (.getfield 14, 3) := by decide +kernel
theorem dX7_sign_67 : decode cX7_sign 67 = .ok (.ireturn, 1) := by decide +kernel
theorem dX7_end_0 : decode cX7_end 0 = .ok (.aload_n 0, 1) := by decide +kernel
theorem dX7_end_1 : decode cX7_end 1 = .ok (.iconst 0, 1) := by decide +kernel
theorem dX7_end_2 : decode cX7_end 2 = .ok (.putfield 1, 3) := by decide +kernel
theorem dX7_end_5 : decode cX7_end 5 = .ok (.iload_n 1, 1) := by decide +kernel
theorem dX7_end_6 : decode cX7_end 6 = .ok (.i2l, 1) := by decide +kernel
theorem dX7_end_7 : decode cX7_end 7 = .ok (.lconst 0, 1) := by decide +kernel
theorem dX7_end_8 : decode cX7_end 8 = .ok (.aload_n 0, 1) := by decide +kernel
theorem dX7_end_9 : decode cX7_end 9 = .ok (.getfield 14, 3) := by decide +kernel
theorem dX7_end_12 : decode cX7_end 12 = .ok (.i2l, 1) := by decide +kernel
theorem dX7_end_13 : decode cX7_end 13 = .ok (.invokestatic 21, 3) := by decide +kernel
theorem dX7_end_16 : decode cX7_end 16 = .ok (.ifCond .ne 5, 3) := by decide +kernel
theorem dX7_end_19 : decode cX7_end 19 = .ok (.iconst 0, 1) := by decide +kernel
theorem dX7_end_20 : decode cX7_end 20 = .ok (.ireturn, 1) := by decide +kernel
theorem dX7_end_21 : decode cX7_end 21 = .ok (.aload_n 0, 1) := by decide +kernel
theorem dX7_end_22 : decode cX7_end 22 = .ok (.iload_n 1, 1) := by decide +kernel
theorem dX7_end_23 : decode cX7_end 23 = .ok (.putfield 14, 3) := by decide +kernel
theorem dX7_end_26 : decode cX7_end 26 = .ok (.iconst 1, 1) := by decide +kernel
theorem dX7_end_27 : decode cX7_end 27 = .ok (.ireturn, 1) := by decide +kernel
theorem dX7_reads_0 : decode cX7_reads 0 = .ok (.aload_n 0, 1) := by decide +kernel
theorem dX7_reads_1 : decode cX7_reads 1 = .ok (.aload_n 0, 1) := by decide +kernel
theorem dX7_reads_2 : decode cX7_reads 2 = .ok (.getfield 14, 3) := by decide +kernel
theorem dX7_reads_5 : decode cX7_reads 5 = .ok (.putfield 25, 3) := by decide +kernel
theorem dX7_reads_8 : decode cX7_reads 8 = .ok (.aload_n 0, 1) := by decide +kernel
theorem dX7_reads_9 : decode cX7_reads 9 = .ok (.iconst 0, 1) := by decide +kernel
theorem dX7_reads_10 : decode cX7_reads 10 = .ok (.putfield 14, 3) := by decide +kernel
theorem dX7_reads_13 : decode cX7_reads 13 = .ok (.aload_n 0, 1) := by decide +kernel
theorem dX7_reads_14 : decode cX7_reads 14 = .ok (.iconst 0, 1) := by decide +kernel
theorem dX7_reads_15 : decode cX7_reads 15 = .ok (.putfield 28, 3) := by decide +kernel
theorem dX7_reads_18 : decode cX7_reads 18 = .ok (.return_, 1) := by decide +kernel
theorem dX7_takesOf_0 : decode cX7_takesOf 0 = .ok (.iconst 0, 1) := by decide +kernel
theorem dX7_takesOf_1 : decode cX7_takesOf 1 = .ok (.istore_n 2, 1) := by decide +kernel
theorem dX7_takesOf_2 : decode cX7_takesOf 2 = .ok (.iload_n 2, 1) := by decide +kernel
theorem dX7_takesOf_3 : decode cX7_takesOf 3 = .ok (.aload_n 1, 1) := by decide +kernel
theorem dX7_takesOf_4 : decode cX7_takesOf 4 = .ok (.invokevirtual 31, 3) := by decide +kernel
theorem dX7_takesOf_7 : decode cX7_takesOf 7 = .ok (.if_icmp .ge 49, 3) := by decide +kernel
theorem dX7_takesOf_10 : decode cX7_takesOf 10 = .ok (.aload_n 0, 1) := by decide +kernel
theorem dX7_takesOf_11 : decode cX7_takesOf 11 = .ok (.getfield 28, 3) := by decide +kernel
theorem dX7_takesOf_14 : decode cX7_takesOf 14 = .ok (.aload_n 0, 1) := by decide +kernel
theorem dX7_takesOf_15 : decode cX7_takesOf 15 = .ok (.getfield 25, 3) := by decide +kernel
theorem dX7_takesOf_18 : decode cX7_takesOf 18 = .ok (.if_icmp .ge 38, 3) := by decide +kernel
theorem dX7_takesOf_21 : decode cX7_takesOf 21 = .ok (.aload_n 1, 1) := by decide +kernel
theorem dX7_takesOf_22 : decode cX7_takesOf 22 = .ok (.iload_n 2, 1) := by decide +kernel
theorem dX7_takesOf_23 : decode cX7_takesOf 23 = .ok (.invokevirtual 37, 3) := by decide +kernel
theorem dX7_takesOf_26 : decode cX7_takesOf 26 = .ok (.aload_n 0, 1) := by decide +kernel
theorem dX7_takesOf_27 : decode cX7_takesOf 27 = .ok (.getfield 17, 3) := by decide +kernel
theorem dX7_takesOf_30 : decode cX7_takesOf 30 = .ok (.aload_n 0, 1) := by decide +kernel
theorem dX7_takesOf_31 : decode cX7_takesOf 31 = .ok (.getfield 28, 3) := by decide +kernel
theorem dX7_takesOf_34 : decode cX7_takesOf 34 = .ok (.iaload, 1) := by decide +kernel
theorem dX7_takesOf_35 : decode cX7_takesOf 35 = .ok (.if_icmp .ne 15, 3) := by decide +kernel
theorem dX7_takesOf_38 : decode cX7_takesOf 38 = .ok (.aload_n 0, 1) := by decide +kernel
theorem dX7_takesOf_39 : decode cX7_takesOf 39 = .ok (.dup, 1) := by decide +kernel
theorem dX7_takesOf_40 : decode cX7_takesOf 40 = .ok (.getfield 28, 3) := by decide +kernel
theorem dX7_takesOf_43 : decode cX7_takesOf 43 = .ok (.iconst 1, 1) := by decide +kernel
theorem dX7_takesOf_44 : decode cX7_takesOf 44 = .ok (.iadd, 1) := by decide +kernel
theorem dX7_takesOf_45 : decode cX7_takesOf 45 = .ok (.putfield 28, 3) := by decide +kernel
theorem dX7_takesOf_48 : decode cX7_takesOf 48 = .ok (.iload_n 2, 1) := by decide +kernel
theorem dX7_takesOf_49 : decode cX7_takesOf 49 = .ok (.ireturn, 1) := by decide +kernel
theorem dX7_takesOf_50 : decode cX7_takesOf 50 = .ok (.iinc 2 1, 3) := by decide +kernel
theorem dX7_takesOf_53 : decode cX7_takesOf 53 = .ok (.goto (-51), 3) := by decide +kernel
theorem dX7_takesOf_56 : decode cX7_takesOf 56 = .ok (.iconst (-1), 1) := by decide +kernel
theorem dX7_takesOf_57 : decode cX7_takesOf 57 = .ok (.ireturn, 1) := by decide +kernel
theorem dX7_isHere_0 : decode cX7_isHere 0 = .ok (.aload_n 0, 1) := by decide +kernel
theorem dX7_isHere_1 : decode cX7_isHere 1 = .ok (.getfield 28, 3) := by decide +kernel
theorem dX7_isHere_4 : decode cX7_isHere 4 = .ok (.aload_n 0, 1) := by decide +kernel
theorem dX7_isHere_5 : decode cX7_isHere 5 = .ok (.getfield 25, 3) := by decide +kernel
theorem dX7_isHere_8 : decode cX7_isHere 8 = .ok (.if_icmp .ge 20, 3) := by decide +kernel
theorem dX7_isHere_11 : decode cX7_isHere 11 = .ok (.aload_n 0, 1) := by decide +kernel
theorem dX7_isHere_12 : decode cX7_isHere 12 = .ok (.getfield 17, 3) := by decide +kernel
theorem dX7_isHere_15 : decode cX7_isHere 15 = .ok (.aload_n 0, 1) := by decide +kernel
theorem dX7_isHere_16 : decode cX7_isHere 16 = .ok (.getfield 28, 3) := by decide +kernel
theorem dX7_isHere_19 : decode cX7_isHere 19 = .ok (.iaload, 1) := by decide +kernel
theorem dX7_isHere_20 : decode cX7_isHere 20 = .ok (.iload_n 1, 1) := by decide +kernel
theorem dX7_isHere_21 : decode cX7_isHere 21 = .ok (.if_icmp .ne 7, 3) := by decide +kernel
theorem dX7_isHere_24 : decode cX7_isHere 24 = .ok (.iconst 1, 1) := by decide +kernel
theorem dX7_isHere_25 : decode cX7_isHere 25 = .ok (.goto 4, 3) := by decide +kernel
theorem dX7_isHere_28 : decode cX7_isHere 28 = .ok (.iconst 0, 1) := by decide +kernel
theorem dX7_isHere_29 : decode cX7_isHere 29 = .ok (.ireturn, 1) := by decide +kernel
theorem dX7_takes_0 : decode cX7_takes 0 = .ok (.aload_n 0, 1) := by decide +kernel
theorem dX7_takes_1 : decode cX7_takes 1 = .ok (.iload_n 1, 1) := by decide +kernel
theorem dX7_takes_2 : decode cX7_takes 2 = .ok (.invokevirtual 41, 3) := by decide +kernel
theorem dX7_takes_5 : decode cX7_takes 5 = .ok (.istore_n 2, 1) := by decide +kernel
theorem dX7_takes_6 : decode cX7_takes 6 = .ok (.aload_n 0, 1) := by decide +kernel
theorem dX7_takes_7 : decode cX7_takes 7 = .ok (.dup, 1) := by decide +kernel
theorem dX7_takes_8 : decode cX7_takes 8 = .ok (.getfield 28, 3) := by decide +kernel
theorem dX7_takes_11 : decode cX7_takes 11 = .ok (.iload_n 2, 1) := by decide +kernel
theorem dX7_takes_12 : decode cX7_takes 12 = .ok (.invokestatic 45, 3) := by decide +kernel
theorem dX7_takes_15 : decode cX7_takes 15 = .ok (.iadd, 1) := by decide +kernel
theorem dX7_takes_16 : decode cX7_takes 16 = .ok (.putfield 28, 3) := by decide +kernel
theorem dX7_takes_19 : decode cX7_takes 19 = .ok (.iload_n 2, 1) := by decide +kernel
theorem dX7_takes_20 : decode cX7_takes 20 = .ok (.ireturn, 1) := by decide +kernel
theorem dX7_digit_0 : decode cX7_digit 0 = .ok (.aload_n 0, 1) := by decide +kernel
theorem dX7_digit_1 : decode cX7_digit 1 = .ok (.ldc 49, 2) := by decide +kernel
theorem dX7_digit_3 : decode cX7_digit 3 = .ok (.invokevirtual 51, 3) := by decide +kernel
theorem dX7_digit_6 : decode cX7_digit 6 = .ok (.ireturn, 1) := by decide +kernel
theorem dX7_two_0 : decode cX7_two 0 = .ok (.aload_n 0, 1) := by decide +kernel
theorem dX7_two_1 : decode cX7_two 1 = .ok (.invokevirtual 55, 3) := by decide +kernel
theorem dX7_two_4 : decode cX7_two 4 = .ok (.istore_n 1, 1) := by decide +kernel
theorem dX7_two_5 : decode cX7_two 5 = .ok (.iload_n 1, 1) := by decide +kernel
theorem dX7_two_6 : decode cX7_two 6 = .ok (.ifCond .ge 7, 3) := by decide +kernel
theorem dX7_two_9 : decode cX7_two 9 = .ok (.iconst (-1), 1) := by decide +kernel
theorem dX7_two_10 : decode cX7_two 10 = .ok (.goto 7, 3) := by decide +kernel
theorem dX7_two_13 : decode cX7_two 13 = .ok (.aload_n 0, 1) := by decide +kernel
theorem dX7_two_14 : decode cX7_two 14 = .ok (.invokevirtual 55, 3) := by decide +kernel
theorem dX7_two_17 : decode cX7_two 17 = .ok (.istore_n 2, 1) := by decide +kernel
theorem dX7_two_18 : decode cX7_two 18 = .ok (.iload_n 2, 1) := by decide +kernel
theorem dX7_two_19 : decode cX7_two 19 = .ok (.ifCond .ge 7, 3) := by decide +kernel
theorem dX7_two_22 : decode cX7_two 22 = .ok (.iconst (-1), 1) := by decide +kernel
theorem dX7_two_23 : decode cX7_two 23 = .ok (.goto 9, 3) := by decide +kernel
theorem dX7_two_26 : decode cX7_two 26 = .ok (.bipush 10, 2) := by decide +kernel
theorem dX7_two_28 : decode cX7_two 28 = .ok (.iload_n 1, 1) := by decide +kernel
theorem dX7_two_29 : decode cX7_two 29 = .ok (.imul, 1) := by decide +kernel
theorem dX7_two_30 : decode cX7_two 30 = .ok (.iload_n 2, 1) := by decide +kernel
theorem dX7_two_31 : decode cX7_two 31 = .ok (.iadd, 1) := by decide +kernel
theorem dX7_two_32 : decode cX7_two 32 = .ok (.ireturn, 1) := by decide +kernel
theorem dX7_letter_0 : decode cX7_letter 0 = .ok (.aload_n 0, 1) := by decide +kernel
theorem dX7_letter_1 : decode cX7_letter 1 = .ok (.getfield 28, 3) := by decide +kernel
theorem dX7_letter_4 : decode cX7_letter 4 = .ok (.aload_n 0, 1) := by decide +kernel
theorem dX7_letter_5 : decode cX7_letter 5 = .ok (.getfield 25, 3) := by decide +kernel
theorem dX7_letter_8 : decode cX7_letter 8 = .ok (.if_icmp .ge 29, 3) := by decide +kernel
theorem dX7_letter_11 : decode cX7_letter 11 = .ok (.aload_n 0, 1) := by decide +kernel
theorem dX7_letter_12 : decode cX7_letter 12 = .ok (.getfield 17, 3) := by decide +kernel
theorem dX7_letter_15 : decode cX7_letter 15 = .ok (.aload_n 0, 1) := by decide +kernel
theorem dX7_letter_16 : decode cX7_letter 16 = .ok (.getfield 28, 3) := by decide +kernel
theorem dX7_letter_19 : decode cX7_letter 19 = .ok (.iaload, 1) := by decide +kernel
theorem dX7_letter_20 : decode cX7_letter 20 = .ok (.i2l, 1) := by decide +kernel
theorem dX7_letter_21 : decode cX7_letter 21 = .ok (.ldc2_w 58, 3) := by decide +kernel
theorem dX7_letter_24 : decode cX7_letter 24 = .ok (.ldc2_w 60, 3) := by decide +kernel
theorem dX7_letter_27 : decode cX7_letter 27 = .ok (.invokestatic 21, 3) := by decide +kernel
theorem dX7_letter_30 : decode cX7_letter 30 = .ok (.ifCond .eq 7, 3) := by decide +kernel
theorem dX7_letter_33 : decode cX7_letter 33 = .ok (.iconst 1, 1) := by decide +kernel
theorem dX7_letter_34 : decode cX7_letter 34 = .ok (.goto 4, 3) := by decide +kernel
theorem dX7_letter_37 : decode cX7_letter 37 = .ok (.iconst 0, 1) := by decide +kernel
theorem dX7_letter_38 : decode cX7_letter 38 = .ok (.istore_n 1, 1) := by decide +kernel
theorem dX7_letter_39 : decode cX7_letter 39 = .ok (.aload_n 0, 1) := by decide +kernel
theorem dX7_letter_40 : decode cX7_letter 40 = .ok (.dup, 1) := by decide +kernel
theorem dX7_letter_41 : decode cX7_letter 41 = .ok (.getfield 28, 3) := by decide +kernel
theorem dX7_letter_44 : decode cX7_letter 44 = .ok (.iload_n 1, 1) := by decide +kernel
theorem dX7_letter_45 : decode cX7_letter 45 = .ok (.invokestatic 45, 3) := by decide +kernel
theorem dX7_letter_48 : decode cX7_letter 48 = .ok (.iadd, 1) := by decide +kernel
theorem dX7_letter_49 : decode cX7_letter 49 = .ok (.putfield 28, 3) := by decide +kernel
theorem dX7_letter_52 : decode cX7_letter 52 = .ok (.iload_n 1, 1) := by decide +kernel
theorem dX7_letter_53 : decode cX7_letter 53 = .ok (.ifCond .eq 22, 3) := by decide +kernel
theorem dX7_letter_56 : decode cX7_letter 56 = .ok (.aload_n 0, 1) := by decide +kernel
theorem dX7_letter_57 : decode cX7_letter 57 = .ok (.getfield 17, 3) := by decide +kernel
theorem dX7_letter_60 : decode cX7_letter 60 = .ok (.aload_n 0, 1) := by decide +kernel
theorem dX7_letter_61 : decode cX7_letter 61 = .ok (.getfield 28, 3) := by decide +kernel
theorem dX7_letter_64 : decode cX7_letter 64 = .ok (.iconst 1, 1) := by decide +kernel
theorem dX7_letter_65 : decode cX7_letter 65 = .ok (.isub, 1) := by decide +kernel
theorem dX7_letter_66 : decode cX7_letter 66 = .ok (.iaload, 1) := by decide +kernel
theorem dX7_letter_67 : decode cX7_letter 67 = .ok (.bipush 97, 2) := by decide +kernel
theorem dX7_letter_69 : decode cX7_letter 69 = .ok (.isub, 1) := by decide +kernel
theorem dX7_letter_70 : decode cX7_letter 70 = .ok (.iconst 1, 1) := by decide +kernel
theorem dX7_letter_71 : decode cX7_letter 71 = .ok (.iadd, 1) := by decide +kernel
theorem dX7_letter_72 : decode cX7_letter 72 = .ok (.goto 4, 3) := by decide +kernel
theorem dX7_letter_75 : decode cX7_letter 75 = .ok (.iconst 0, 1) := by decide +kernel
theorem dX7_letter_76 : decode cX7_letter 76 = .ok (.ireturn, 1) := by decide +kernel
theorem dX7_readsLabel_0 : decode cX7_readsLabel 0 = .ok (.aload_n 0, 1) := by decide +kernel
theorem dX7_readsLabel_1 : decode cX7_readsLabel 1 = .ok (.invokevirtual 62, 3) := by decide +kernel
theorem dX7_readsLabel_4 : decode cX7_readsLabel 4 = .ok (.istore_n 1, 1) := by decide +kernel
theorem dX7_readsLabel_5 : decode cX7_readsLabel 5 = .ok (.iload_n 1, 1) := by decide +kernel
theorem dX7_readsLabel_6 : decode cX7_readsLabel 6 = .ok (.ifCond .ne 7, 3) := by decide +kernel
theorem dX7_readsLabel_9 : decode cX7_readsLabel 9 = .ok (.iconst 0, 1) := by decide +kernel
theorem dX7_readsLabel_10 : decode cX7_readsLabel 10 = .ok (.goto 12, 3) := by decide +kernel
theorem dX7_readsLabel_13 : decode cX7_readsLabel 13 = .ok (.bipush 32, 2) := by decide +kernel
theorem dX7_readsLabel_15 : decode cX7_readsLabel 15 = .ok (.iload_n 1, 1) := by decide +kernel
theorem dX7_readsLabel_16 : decode cX7_readsLabel 16 = .ok (.imul, 1) := by decide +kernel
theorem dX7_readsLabel_17 : decode cX7_readsLabel 17 = .ok (.aload_n 0, 1) := by decide +kernel
theorem dX7_readsLabel_18 : decode cX7_readsLabel 18 = .ok (.invokevirtual 62, 3) := by decide +kernel
theorem dX7_readsLabel_21 : decode cX7_readsLabel 21 = .ok (.iadd, 1) := by decide +kernel
theorem dX7_readsLabel_22 : decode cX7_readsLabel 22 = .ok (.ireturn, 1) := by decide +kernel
theorem dX7_init_0 : decode cX7_init 0 = .ok (.aload_n 0, 1) := by decide +kernel
theorem dX7_init_1 : decode cX7_init 1 = .ok (.invokespecial 65, 3) := by decide +kernel
theorem dX7_init_4 : decode cX7_init 4 = .ok (.aload_n 0, 1) := by decide +kernel
theorem dX7_init_5 : decode cX7_init 5 = .ok (.sipush 300, 3) := by decide +kernel
theorem dX7_init_8 : decode cX7_init 8 = .ok (.newarray .long, 2) := by decide +kernel
theorem dX7_init_10 : decode cX7_init 10 = .ok (.putfield 7, 3) := by decide +kernel
theorem dX7_init_13 : decode cX7_init 13 = .ok (.aload_n 0, 1) := by decide +kernel
theorem dX7_init_14 : decode cX7_init 14 = .ok (.bipush 80, 2) := by decide +kernel
theorem dX7_init_16 : decode cX7_init 16 = .ok (.newarray .int, 2) := by decide +kernel
theorem dX7_init_18 : decode cX7_init 18 = .ok (.putfield 17, 3) := by decide +kernel
theorem dX7_init_21 : decode cX7_init 21 = .ok (.aload_n 0, 1) := by decide +kernel
theorem dX7_init_22 : decode cX7_init 22 = .ok (.sipush 2327, 3) := by decide +kernel
theorem dX7_init_25 : decode cX7_init 25 = .ok (.newarray .int, 2) := by decide +kernel
theorem dX7_init_27 : decode cX7_init 27 = .ok (.putfield 71, 3) := by decide +kernel
theorem dX7_init_30 : decode cX7_init 30 = .ok (.aload_n 0, 1) := by decide +kernel
theorem dX7_init_31 : decode cX7_init 31 = .ok (.bipush 24, 2) := by decide +kernel
theorem dX7_init_33 : decode cX7_init 33 = .ok (.newarray .int, 2) := by decide +kernel
theorem dX7_init_35 : decode cX7_init 35 = .ok (.putfield 74, 3) := by decide +kernel
theorem dX7_init_38 : decode cX7_init 38 = .ok (.aload_n 0, 1) := by decide +kernel
theorem dX7_init_39 : decode cX7_init 39 = .ok (.bipush 24, 2) := by decide +kernel
theorem dX7_init_41 : decode cX7_init 41 = .ok (.newarray .int, 2) := by decide +kernel
theorem dX7_init_43 : decode cX7_init 43 = .ok (.putfield 77, 3) := by decide +kernel
theorem dX7_init_46 : decode cX7_init 46 = .ok (.aload_n 0, 1) := by decide +kernel
theorem dX7_init_47 : decode cX7_init 47 = .ok (.bipush 24, 2) := by decide +kernel
theorem dX7_init_49 : decode cX7_init 49 = .ok (.newarray .int, 2) := by decide +kernel
theorem dX7_init_51 : decode cX7_init 51 = .ok (.putfield 80, 3) := by decide +kernel
theorem dX7_init_54 : decode cX7_init 54 = .ok (.aload_n 0, 1) := by decide +kernel
theorem dX7_init_55 : decode cX7_init 55 = .ok (.bipush 24, 2) := by decide +kernel
theorem dX7_init_57 : decode cX7_init 57 = .ok (.newarray .int, 2) := by decide +kernel
theorem dX7_init_59 : decode cX7_init 59 = .ok (.putfield 83, 3) := by decide +kernel
theorem dX7_init_62 : decode cX7_init 62 = .ok (.aload_n 0, 1) := by decide +kernel
theorem dX7_init_63 : decode cX7_init 63 = .ok (.bipush 40, 2) := by decide +kernel
theorem dX7_init_65 : decode cX7_init 65 = .ok (.newarray .int, 2) := by decide +kernel
theorem dX7_init_67 : decode cX7_init 67 = .ok (.putfield 86, 3) := by decide +kernel
theorem dX7_init_70 : decode cX7_init 70 = .ok (.aload_n 0, 1) := by decide +kernel
theorem dX7_init_71 : decode cX7_init 71 = .ok (.bipush 40, 2) := by decide +kernel
theorem dX7_init_73 : decode cX7_init 73 = .ok (.newarray .int, 2) := by decide +kernel
theorem dX7_init_75 : decode cX7_init 75 = .ok (.putfield 89, 3) := by decide +kernel
theorem dX7_init_78 : decode cX7_init 78 = .ok (.aload_n 0, 1) := by decide +kernel
theorem dX7_init_79 : decode cX7_init 79 = .ok (.bipush 24, 2) := by decide +kernel
theorem dX7_init_81 : decode cX7_init 81 = .ok (.newarray .int, 2) := by decide +kernel
theorem dX7_init_83 : decode cX7_init 83 = .ok (.putfield 92, 3) := by decide +kernel
theorem dX7_init_86 : decode cX7_init 86 = .ok (.aload_n 0, 1) := by decide +kernel
theorem dX7_init_87 : decode cX7_init 87 = .ok (.bipush 24, 2) := by decide +kernel
theorem dX7_init_89 : decode cX7_init 89 = .ok (.newarray .long, 2) := by decide +kernel
theorem dX7_init_91 : decode cX7_init 91 = .ok (.putfield 95, 3) := by decide +kernel
theorem dX7_init_94 : decode cX7_init 94 = .ok (.aload_n 0, 1) := by decide +kernel
theorem dX7_init_95 : decode cX7_init 95 = .ok (.bipush 24, 2) := by decide +kernel
theorem dX7_init_97 : decode cX7_init 97 = .ok (.newarray .int, 2) := by decide +kernel
theorem dX7_init_99 : decode cX7_init 99 = .ok (.putfield 98, 3) := by decide +kernel
theorem dX7_init_102 : decode cX7_init 102 = .ok (.aload_n 0, 1) := by decide +kernel
theorem dX7_init_103 : decode cX7_init 103 = .ok (.bipush 24, 2) := by decide +kernel
theorem dX7_init_105 : decode cX7_init 105 = .ok (.newarray .int, 2) := by decide +kernel
theorem dX7_init_107 : decode cX7_init 107 = .ok (.putfield 101, 3) := by decide +kernel
theorem dX7_init_110 : decode cX7_init 110 = .ok (.aload_n 0, 1) := by decide +kernel
theorem dX7_init_111 : decode cX7_init 111 = .ok (.bipush 80, 2) := by decide +kernel
theorem dX7_init_113 : decode cX7_init 113 = .ok (.newarray .int, 2) := by decide +kernel
theorem dX7_init_115 : decode cX7_init 115 = .ok (.putfield 104, 3) := by decide +kernel
theorem dX7_init_118 : decode cX7_init 118 = .ok (.aload_n 0, 1) := by decide +kernel
theorem dX7_init_119 : decode cX7_init 119 = .ok (.bipush 80, 2) := by decide +kernel
theorem dX7_init_121 : decode cX7_init 121 = .ok (.newarray .int, 2) := by decide +kernel
theorem dX7_init_123 : decode cX7_init 123 = .ok (.putfield 107, 3) := by decide +kernel
theorem dX7_init_126 : decode cX7_init 126 = .ok (.aload_n 0, 1) := by decide +kernel
theorem dX7_init_127 : decode cX7_init 127 = .ok (.bipush 80, 2) := by decide +kernel
theorem dX7_init_129 : decode cX7_init 129 = .ok (.newarray .int, 2) := by decide +kernel
theorem dX7_init_131 : decode cX7_init 131 = .ok (.putfield 110, 3) := by decide +kernel
theorem dX7_init_134 : decode cX7_init 134 = .ok (.aload_n 0, 1) := by decide +kernel
theorem dX7_init_135 : decode cX7_init 135 = .ok (.iconst 2, 1) := by decide +kernel
theorem dX7_init_136 : decode cX7_init 136 = .ok (.newarray .boolean, 2) := by decide +kernel
theorem dX7_init_138 : decode cX7_init 138 = .ok (.putfield 113, 3) := by decide +kernel
theorem dX7_init_141 : decode cX7_init 141 = .ok (.aload_n 0, 1) := by decide +kernel
theorem dX7_init_142 : decode cX7_init 142 = .ok (.iconst 0, 1) := by decide +kernel
theorem dX7_init_143 : decode cX7_init 143 = .ok (.putfield 117, 3) := by decide +kernel
theorem dX7_init_146 : decode cX7_init 146 = .ok (.return_, 1) := by decide +kernel
theorem dX7_copies_0 : decode cX7_copies 0 = .ok (.iconst 0, 1) := by decide +kernel
theorem dX7_copies_1 : decode cX7_copies 1 = .ok (.istore_n 3, 1) := by decide +kernel
theorem dX7_copies_2 : decode cX7_copies 2 = .ok (.iload_n 3, 1) := by decide +kernel
theorem dX7_copies_3 : decode cX7_copies 3 = .ok (.sipush 179, 3) := by decide +kernel
theorem dX7_copies_6 : decode cX7_copies 6 = .ok (.if_icmp .ge 33, 3) := by decide +kernel
theorem dX7_copies_9 : decode cX7_copies 9 = .ok (.aload_n 0, 1) := by decide +kernel
theorem dX7_copies_10 : decode cX7_copies 10 = .ok (.getfield 71, 3) := by decide +kernel
theorem dX7_copies_13 : decode cX7_copies 13 = .ok (.iload_n 2, 1) := by decide +kernel
theorem dX7_copies_14 : decode cX7_copies 14 = .ok (.sipush 179, 3) := by decide +kernel
theorem dX7_copies_17 : decode cX7_copies 17 = .ok (.imul, 1) := by decide +kernel
theorem dX7_copies_18 : decode cX7_copies 18 = .ok (.iload_n 3, 1) := by decide +kernel
theorem dX7_copies_19 : decode cX7_copies 19 = .ok (.iadd, 1) := by decide +kernel
theorem dX7_copies_20 : decode cX7_copies 20 = .ok (.aload_n 0, 1) := by decide +kernel
theorem dX7_copies_21 : decode cX7_copies 21 = .ok (.getfield 71, 3) := by decide +kernel
theorem dX7_copies_24 : decode cX7_copies 24 = .ok (.iload_n 1, 1) := by decide +kernel
theorem dX7_copies_25 : decode cX7_copies 25 = .ok (.sipush 179, 3) := by decide +kernel
theorem dX7_copies_28 : decode cX7_copies 28 = .ok (.imul, 1) := by decide +kernel
theorem dX7_copies_29 : decode cX7_copies 29 = .ok (.iload_n 3, 1) := by decide +kernel
theorem dX7_copies_30 : decode cX7_copies 30 = .ok (.iadd, 1) := by decide +kernel
theorem dX7_copies_31 : decode cX7_copies 31 = .ok (.iaload, 1) := by decide +kernel
theorem dX7_copies_32 : decode cX7_copies 32 = .ok (.iastore, 1) := by decide +kernel
theorem dX7_copies_33 : decode cX7_copies 33 = .ok (.iinc 3 1, 3) := by decide +kernel
theorem dX7_copies_36 : decode cX7_copies 36 = .ok (.goto (-34), 3) := by decide +kernel
theorem dX7_copies_39 : decode cX7_copies 39 = .ok (.return_, 1) := by decide +kernel
theorem dX7_lays_0 : decode cX7_lays 0 = .ok (.aload_n 0, 1) := by decide +kernel
theorem dX7_lays_1 : decode cX7_lays 1 = .ok (.getfield 117, 3) := by decide +kernel
theorem dX7_lays_4 : decode cX7_lays 4 = .ok (.bipush 8, 2) := by decide +kernel
theorem dX7_lays_6 : decode cX7_lays 6 = .ok (.if_icmp .ne 41, 3) := by decide +kernel
theorem dX7_lays_9 : decode cX7_lays 9 = .ok (.iconst 0, 1) := by decide +kernel
theorem dX7_lays_10 : decode cX7_lays 10 = .ok (.istore_n 1, 1) := by decide +kernel
theorem dX7_lays_11 : decode cX7_lays 11 = .ok (.iload_n 1, 1) := by decide +kernel
theorem dX7_lays_12 : decode cX7_lays 12 = .ok (.iconst 1, 1) := by decide +kernel
theorem dX7_lays_13 : decode cX7_lays 13 = .ok (.iadd, 1) := by decide +kernel
theorem dX7_lays_14 : decode cX7_lays 14 = .ok (.bipush 8, 2) := by decide +kernel
theorem dX7_lays_16 : decode cX7_lays 16 = .ok (.if_icmp .ge 21, 3) := by decide +kernel
theorem dX7_lays_19 : decode cX7_lays 19 = .ok (.aload_n 0, 1) := by decide +kernel
theorem dX7_lays_20 : decode cX7_lays 20 = .ok (.iconst 5, 1) := by decide +kernel
theorem dX7_lays_21 : decode cX7_lays 21 = .ok (.iload_n 1, 1) := by decide +kernel
theorem dX7_lays_22 : decode cX7_lays 22 = .ok (.iadd, 1) := by decide +kernel
theorem dX7_lays_23 : decode cX7_lays 23 = .ok (.iconst 1, 1) := by decide +kernel
theorem dX7_lays_24 : decode cX7_lays 24 = .ok (.iadd, 1) := by decide +kernel
theorem dX7_lays_25 : decode cX7_lays 25 = .ok (.iconst 5, 1) := by decide +kernel
theorem dX7_lays_26 : decode cX7_lays 26 = .ok (.iload_n 1, 1) := by decide +kernel
theorem dX7_lays_27 : decode cX7_lays 27 = .ok (.iadd, 1) := by decide +kernel
theorem dX7_lays_28 : decode cX7_lays 28 = .ok (.invokevirtual 120, 3) := by decide +kernel
theorem dX7_lays_31 : decode cX7_lays 31 = .ok (.iinc 1 1, 3) := by decide +kernel
theorem dX7_lays_34 : decode cX7_lays 34 = .ok (.goto (-23), 3) := by decide +kernel
theorem dX7_lays_37 : decode cX7_lays 37 = .ok (.aload_n 0, 1) := by decide +kernel
theorem dX7_lays_38 : decode cX7_lays 38 = .ok (.dup, 1) := by decide +kernel
theorem dX7_lays_39 : decode cX7_lays 39 = .ok (.getfield 117, 3) := by decide +kernel
theorem dX7_lays_42 : decode cX7_lays 42 = .ok (.iconst 1, 1) := by decide +kernel
theorem dX7_lays_43 : decode cX7_lays 43 = .ok (.isub, 1) := by decide +kernel
theorem dX7_lays_44 : decode cX7_lays 44 = .ok (.putfield 117, 3) := by decide +kernel
theorem dX7_lays_47 : decode cX7_lays 47 = .ok (.aload_n 0, 1) := by decide +kernel
theorem dX7_lays_48 : decode cX7_lays 48 = .ok (.iconst 3, 1) := by decide +kernel
theorem dX7_lays_49 : decode cX7_lays 49 = .ok (.iconst 5, 1) := by decide +kernel
theorem dX7_lays_50 : decode cX7_lays 50 = .ok (.aload_n 0, 1) := by decide +kernel
theorem dX7_lays_51 : decode cX7_lays 51 = .ok (.getfield 117, 3) := by decide +kernel
theorem dX7_lays_54 : decode cX7_lays 54 = .ok (.iadd, 1) := by decide +kernel
theorem dX7_lays_55 : decode cX7_lays 55 = .ok (.invokevirtual 120, 3) := by decide +kernel
theorem dX7_lays_58 : decode cX7_lays 58 = .ok (.aload_n 0, 1) := by decide +kernel
theorem dX7_lays_59 : decode cX7_lays 59 = .ok (.dup, 1) := by decide +kernel
theorem dX7_lays_60 : decode cX7_lays 60 = .ok (.getfield 117, 3) := by decide +kernel
theorem dX7_lays_63 : decode cX7_lays 63 = .ok (.iconst 1, 1) := by decide +kernel
theorem dX7_lays_64 : decode cX7_lays 64 = .ok (.iadd, 1) := by decide +kernel
theorem dX7_lays_65 : decode cX7_lays 65 = .ok (.putfield 117, 3) := by decide +kernel
theorem dX7_lays_68 : decode cX7_lays 68 = .ok (.return_, 1) := by decide +kernel
theorem dX7_done_0 : decode cX7_done 0 = .ok (.iload_n 1, 1) := by decide +kernel
theorem dX7_done_1 : decode cX7_done 1 = .ok (.ifCond .lt 7, 3) := by decide +kernel
theorem dX7_done_4 : decode cX7_done 4 = .ok (.aload_n 0, 1) := by decide +kernel
theorem dX7_done_5 : decode cX7_done 5 = .ok (.invokevirtual 124, 3) := by decide +kernel
theorem dX7_done_8 : decode cX7_done 8 = .ok (.iload_n 1, 1) := by decide +kernel
theorem dX7_done_9 : decode cX7_done 9 = .ok (.ireturn, 1) := by decide +kernel
theorem dX7_undo_0 : decode cX7_undo 0 = .ok (.aload_n 0, 1) := by decide +kernel
theorem dX7_undo_1 : decode cX7_undo 1 = .ok (.iconst 0, 1) := by decide +kernel
theorem dX7_undo_2 : decode cX7_undo 2 = .ok (.putfield 1, 3) := by decide +kernel
theorem dX7_undo_5 : decode cX7_undo 5 = .ok (.aload_n 0, 1) := by decide +kernel
theorem dX7_undo_6 : decode cX7_undo 6 = .ok (.getfield 117, 3) := by decide +kernel
theorem dX7_undo_9 : decode cX7_undo 9 = .ok (.ifCond .ne 5, 3) := by decide +kernel
theorem dX7_undo_12 : decode cX7_undo 12 = .ok (.iconst (-1), 1) := by decide +kernel
theorem dX7_undo_13 : decode cX7_undo 13 = .ok (.ireturn, 1) := by decide +kernel
theorem dX7_undo_14 : decode cX7_undo 14 = .ok (.aload_n 0, 1) := by decide +kernel
theorem dX7_undo_15 : decode cX7_undo 15 = .ok (.dup, 1) := by decide +kernel
theorem dX7_undo_16 : decode cX7_undo 16 = .ok (.getfield 117, 3) := by decide +kernel
theorem dX7_undo_19 : decode cX7_undo 19 = .ok (.iconst 1, 1) := by decide +kernel
theorem dX7_undo_20 : decode cX7_undo 20 = .ok (.isub, 1) := by decide +kernel
theorem dX7_undo_21 : decode cX7_undo 21 = .ok (.putfield 117, 3) := by decide +kernel
theorem dX7_undo_24 : decode cX7_undo 24 = .ok (.aload_n 0, 1) := by decide +kernel
theorem dX7_undo_25 : decode cX7_undo 25 = .ok (.iconst 5, 1) := by decide +kernel
theorem dX7_undo_26 : decode cX7_undo 26 = .ok (.aload_n 0, 1) := by decide +kernel
theorem dX7_undo_27 : decode cX7_undo 27 = .ok (.getfield 117, 3) := by decide +kernel
theorem dX7_undo_30 : decode cX7_undo 30 = .ok (.iadd, 1) := by decide +kernel
theorem dX7_undo_31 : decode cX7_undo 31 = .ok (.iconst 0, 1) := by decide +kernel
theorem dX7_undo_32 : decode cX7_undo 32 = .ok (.invokevirtual 120, 3) := by decide +kernel
theorem dX7_undo_35 : decode cX7_undo 35 = .ok (.aload_n 0, 1) := by decide +kernel
theorem dX7_undo_36 : decode cX7_undo 36 = .ok (.getfield 117, 3) := by decide +kernel
theorem dX7_undo_39 : decode cX7_undo 39 = .ok (.ireturn, 1) := by decide +kernel
theorem dX7_there_0 : decode cX7_there 0 = .ok (.aload_n 0, 1) := by decide +kernel
theorem dX7_there_1 : decode cX7_there 1 = .ok (.getfield 71, 3) := by decide +kernel
theorem dX7_there_4 : decode cX7_there 4 = .ok (.iload_n 1, 1) := by decide +kernel
theorem dX7_there_5 : decode cX7_there 5 = .ok (.sipush 179, 3) := by decide +kernel
theorem dX7_there_8 : decode cX7_there 8 = .ok (.imul, 1) := by decide +kernel
theorem dX7_there_9 : decode cX7_there 9 = .ok (.iconst 0, 1) := by decide +kernel
theorem dX7_there_10 : decode cX7_there 10 = .ok (.iadd, 1) := by decide +kernel
theorem dX7_there_11 : decode cX7_there 11 = .ok (.iaload, 1) := by decide +kernel
theorem dX7_there_12 : decode cX7_there 12 = .ok (.ireturn, 1) := by decide +kernel
theorem dX7_isTerm_0 : decode cX7_isTerm 0 = .ok (.iload_n 1, 1) := by decide +kernel
theorem dX7_isTerm_1 : decode cX7_isTerm 1 = .ok (.i2l, 1) := by decide +kernel
theorem dX7_isTerm_2 : decode cX7_isTerm 2 = .ok (.lconst 0, 1) := by decide +kernel
theorem dX7_isTerm_3 : decode cX7_isTerm 3 = .ok (.ldc2_w 127, 3) := by decide +kernel
theorem dX7_isTerm_6 : decode cX7_isTerm 6 = .ok (.invokestatic 21, 3) := by decide +kernel
theorem dX7_isTerm_9 : decode cX7_isTerm 9 = .ok (.ifCond .eq 19, 3) := by decide +kernel
theorem dX7_isTerm_12 : decode cX7_isTerm 12 = .ok (.aload_n 0, 1) := by decide +kernel
theorem dX7_isTerm_13 : decode cX7_isTerm 13 = .ok (.iconst 0, 1) := by decide +kernel
theorem dX7_isTerm_14 : decode cX7_isTerm 14 = .ok (.invokevirtual 129, 3) := by decide +kernel
theorem dX7_isTerm_17 : decode cX7_isTerm 17 = .ok (.iload_n 1, 1) := by decide +kernel
theorem dX7_isTerm_18 : decode cX7_isTerm 18 = .ok (.invokestatic 133, 3) := by decide +kernel
theorem dX7_isTerm_21 : decode cX7_isTerm 21 = .ok (.ifCond .eq 7, 3) := by decide +kernel
theorem dX7_isTerm_24 : decode cX7_isTerm 24 = .ok (.iconst 1, 1) := by decide +kernel
theorem dX7_isTerm_25 : decode cX7_isTerm 25 = .ok (.goto 4, 3) := by decide +kernel
theorem dX7_isTerm_28 : decode cX7_isTerm 28 = .ok (.iconst 0, 1) := by decide +kernel
theorem dX7_isTerm_29 : decode cX7_isTerm 29 = .ok (.ireturn, 1) := by decide +kernel
theorem dX7_isIn_0 : decode cX7_isIn 0 = .ok (.iload_n 2, 1) := by decide +kernel
theorem dX7_isIn_1 : decode cX7_isIn 1 = .ok (.i2l, 1) := by decide +kernel
theorem dX7_isIn_2 : decode cX7_isIn 2 = .ok (.lconst 0, 1) := by decide +kernel
theorem dX7_isIn_3 : decode cX7_isIn 3 = .ok (.ldc2_w 127, 3) := by decide +kernel
theorem dX7_isIn_6 : decode cX7_isIn 6 = .ok (.invokestatic 21, 3) := by decide +kernel
theorem dX7_isIn_9 : decode cX7_isIn 9 = .ok (.ifCond .eq 19, 3) := by decide +kernel
theorem dX7_isIn_12 : decode cX7_isIn 12 = .ok (.aload_n 0, 1) := by decide +kernel
theorem dX7_isIn_13 : decode cX7_isIn 13 = .ok (.iload_n 1, 1) := by decide +kernel
theorem dX7_isIn_14 : decode cX7_isIn 14 = .ok (.invokevirtual 129, 3) := by decide +kernel
theorem dX7_isIn_17 : decode cX7_isIn 17 = .ok (.iload_n 2, 1) := by decide +kernel
theorem dX7_isIn_18 : decode cX7_isIn 18 = .ok (.invokestatic 133, 3) := by decide +kernel
theorem dX7_isIn_21 : decode cX7_isIn 21 = .ok (.ifCond .eq 7, 3) := by decide +kernel
theorem dX7_isIn_24 : decode cX7_isIn 24 = .ok (.iconst 1, 1) := by decide +kernel
theorem dX7_isIn_25 : decode cX7_isIn 25 = .ok (.goto 4, 3) := by decide +kernel
theorem dX7_isIn_28 : decode cX7_isIn 28 = .ok (.iconst 0, 1) := by decide +kernel
theorem dX7_isIn_29 : decode cX7_isIn 29 = .ok (.ireturn, 1) := by decide +kernel
theorem dX7_areTwo_0 : decode cX7_areTwo 0 = .ok (.aload_n 0, 1) := by decide +kernel
theorem dX7_areTwo_1 : decode cX7_areTwo 1 = .ok (.iload_n 1, 1) := by decide +kernel
theorem dX7_areTwo_2 : decode cX7_areTwo 2 = .ok (.invokevirtual 137, 3) := by decide +kernel
theorem dX7_areTwo_5 : decode cX7_areTwo 5 = .ok (.ifCond .eq 20, 3) := by decide +kernel
theorem dX7_areTwo_8 : decode cX7_areTwo 8 = .ok (.aload_n 0, 1) := by decide +kernel
theorem dX7_areTwo_9 : decode cX7_areTwo 9 = .ok (.iload_n 2, 1) := by decide +kernel
theorem dX7_areTwo_10 : decode cX7_areTwo 10 = .ok (.invokevirtual 137, 3) := by decide +kernel
theorem dX7_areTwo_13 : decode cX7_areTwo 13 = .ok (.ifCond .eq 12, 3) := by decide +kernel
theorem dX7_areTwo_16 : decode cX7_areTwo 16 = .ok (.iload_n 1, 1) := by decide +kernel
theorem dX7_areTwo_17 : decode cX7_areTwo 17 = .ok (.iload_n 2, 1) := by decide +kernel
theorem dX7_areTwo_18 : decode cX7_areTwo 18 = .ok (.if_icmp .eq 7, 3) := by decide +kernel
theorem dX7_areTwo_21 : decode cX7_areTwo 21 = .ok (.iconst 1, 1) := by decide +kernel
theorem dX7_areTwo_22 : decode cX7_areTwo 22 = .ok (.goto 4, 3) := by decide +kernel
theorem dX7_areTwo_25 : decode cX7_areTwo 25 = .ok (.iconst 0, 1) := by decide +kernel
theorem dX7_areTwo_26 : decode cX7_areTwo 26 = .ok (.ireturn, 1) := by decide +kernel
theorem dX7_narrower_0 : decode cX7_narrower 0 = .ok (.aload_n 0, 1) := by decide +kernel
theorem dX7_narrower_1 : decode cX7_narrower 1 = .ok (.getfield 71, 3) := by decide +kernel
theorem dX7_narrower_4 : decode cX7_narrower 4 = .ok (.iload_n 1, 1) := by decide +kernel
theorem dX7_narrower_5 : decode cX7_narrower 5 = .ok (.sipush 179, 3) := by decide +kernel
theorem dX7_narrower_8 : decode cX7_narrower 8 = .ok (.imul, 1) := by decide +kernel
theorem dX7_narrower_9 : decode cX7_narrower 9 = .ok (.bipush 107, 2) := by decide +kernel
theorem dX7_narrower_11 : decode cX7_narrower 11 = .ok (.iadd, 1) := by decide +kernel
theorem dX7_narrower_12 : decode cX7_narrower 12 = .ok (.iload_n 2, 1) := by decide +kernel
theorem dX7_narrower_13 : decode cX7_narrower 13 = .ok (.iadd, 1) := by decide +kernel
theorem dX7_narrower_14 : decode cX7_narrower 14 = .ok (.iaload, 1) := by decide +kernel
theorem dX7_narrower_15 : decode cX7_narrower 15 = .ok (.ireturn, 1) := by decide +kernel
theorem dX7_broader_0 : decode cX7_broader 0 = .ok (.iconst 0, 1) := by decide +kernel
theorem dX7_broader_1 : decode cX7_broader 1 = .ok (.istore_n 3, 1) := by decide +kernel
theorem dX7_broader_2 : decode cX7_broader 2 = .ok (.iconst 0, 1) := by decide +kernel
theorem dX7_broader_3 : decode cX7_broader 3 = .ok (.istore 4, 2) := by decide +kernel
theorem dX7_broader_5 : decode cX7_broader 5 = .ok (.iload 4, 2) := by decide +kernel
theorem dX7_broader_7 : decode cX7_broader 7 = .ok (.bipush 24, 2) := by decide +kernel
theorem dX7_broader_9 : decode cX7_broader 9 = .ok (.if_icmp .ge 47, 3) := by decide +kernel
theorem dX7_broader_12 : decode cX7_broader 12 = .ok (.iload_n 3, 1) := by decide +kernel
theorem dX7_broader_13 : decode cX7_broader 13 = .ok (.aload_n 0, 1) := by decide +kernel
theorem dX7_broader_14 : decode cX7_broader 14 = .ok (.iload_n 1, 1) := by decide +kernel
theorem dX7_broader_15 : decode cX7_broader 15 = .ok (.iload 4, 2) := by decide +kernel
theorem dX7_broader_17 : decode cX7_broader 17 = .ok (.invokevirtual 140, 3) := by decide +kernel
theorem dX7_broader_20 : decode cX7_broader 20 = .ok (.ifCond .eq 21, 3) := by decide +kernel
theorem dX7_broader_23 : decode cX7_broader 23 = .ok (.aload_n 0, 1) := by decide +kernel
theorem dX7_broader_24 : decode cX7_broader 24 = .ok (.iload_n 1, 1) := by decide +kernel
theorem dX7_broader_25 : decode cX7_broader 25 = .ok (.iload 4, 2) := by decide +kernel
theorem dX7_broader_27 : decode cX7_broader 27 = .ok (.invokevirtual 143, 3) := by decide +kernel
theorem dX7_broader_30 : decode cX7_broader 30 = .ok (.iload_n 2, 1) := by decide +kernel
theorem dX7_broader_31 : decode cX7_broader 31 = .ok (.invokestatic 133, 3) := by decide +kernel
theorem dX7_broader_34 : decode cX7_broader 34 = .ok (.ifCond .eq 7, 3) := by decide +kernel
theorem dX7_broader_37 : decode cX7_broader 37 = .ok (.iconst 1, 1) := by decide +kernel
theorem dX7_broader_38 : decode cX7_broader 38 = .ok (.goto 4, 3) := by decide +kernel
theorem dX7_broader_41 : decode cX7_broader 41 = .ok (.iconst 0, 1) := by decide +kernel
theorem dX7_broader_42 : decode cX7_broader 42 = .ok (.invokestatic 45, 3) := by decide +kernel
theorem dX7_broader_45 : decode cX7_broader 45 = .ok (.iload 4, 2) := by decide +kernel
theorem dX7_broader_47 : decode cX7_broader 47 = .ok (.ishl, 1) := by decide +kernel
theorem dX7_broader_48 : decode cX7_broader 48 = .ok (.ior, 1) := by decide +kernel
theorem dX7_broader_49 : decode cX7_broader 49 = .ok (.istore_n 3, 1) := by decide +kernel
theorem dX7_broader_50 : decode cX7_broader 50 = .ok (.iinc 4 1, 3) := by decide +kernel
theorem dX7_broader_53 : decode cX7_broader 53 = .ok (.goto (-48), 3) := by decide +kernel
theorem dX7_broader_56 : decode cX7_broader 56 = .ok (.iload_n 3, 1) := by decide +kernel
theorem dX7_broader_57 : decode cX7_broader 57 = .ok (.ireturn, 1) := by decide +kernel
theorem dX7_reach_0 : decode cX7_reach 0 = .ok (.iconst 1, 1) := by decide +kernel
theorem dX7_reach_1 : decode cX7_reach 1 = .ok (.iload_n 2, 1) := by decide +kernel
theorem dX7_reach_2 : decode cX7_reach 2 = .ok (.ishl, 1) := by decide +kernel
theorem dX7_reach_3 : decode cX7_reach 3 = .ok (.istore 4, 2) := by decide +kernel
theorem dX7_reach_5 : decode cX7_reach 5 = .ok (.iconst 0, 1) := by decide +kernel
theorem dX7_reach_6 : decode cX7_reach 6 = .ok (.istore 5, 2) := by decide +kernel
theorem dX7_reach_8 : decode cX7_reach 8 = .ok (.iload 4, 2) := by decide +kernel
theorem dX7_reach_10 : decode cX7_reach 10 = .ok (.iload 5, 2) := by decide +kernel
theorem dX7_reach_12 : decode cX7_reach 12 = .ok (.if_icmp .eq 62, 3) := by decide +kernel
theorem dX7_reach_15 : decode cX7_reach 15 = .ok (.iload 4, 2) := by decide +kernel
theorem dX7_reach_17 : decode cX7_reach 17 = .ok (.istore 5, 2) := by decide +kernel
theorem dX7_reach_19 : decode cX7_reach 19 = .ok (.iconst 0, 1) := by decide +kernel
theorem dX7_reach_20 : decode cX7_reach 20 = .ok (.istore 6, 2) := by decide +kernel
theorem dX7_reach_22 : decode cX7_reach 22 = .ok (.iload 6, 2) := by decide +kernel
theorem dX7_reach_24 : decode cX7_reach 24 = .ok (.bipush 24, 2) := by decide +kernel
theorem dX7_reach_26 : decode cX7_reach 26 = .ok (.if_icmp .ge 45, 3) := by decide +kernel
theorem dX7_reach_29 : decode cX7_reach 29 = .ok (.iload 5, 2) := by decide +kernel
theorem dX7_reach_31 : decode cX7_reach 31 = .ok (.iload 6, 2) := by decide +kernel
theorem dX7_reach_33 : decode cX7_reach 33 = .ok (.invokestatic 133, 3) := by decide +kernel
theorem dX7_reach_36 : decode cX7_reach 36 = .ok (.ifCond .eq 29, 3) := by decide +kernel
theorem dX7_reach_39 : decode cX7_reach 39 = .ok (.iload 4, 2) := by decide +kernel
theorem dX7_reach_41 : decode cX7_reach 41 = .ok (.iload_n 3, 1) := by decide +kernel
theorem dX7_reach_42 : decode cX7_reach 42 = .ok (.ifCond .eq 13, 3) := by decide +kernel
theorem dX7_reach_45 : decode cX7_reach 45 = .ok (.aload_n 0, 1) := by decide +kernel
theorem dX7_reach_46 : decode cX7_reach 46 = .ok (.iload_n 1, 1) := by decide +kernel
theorem dX7_reach_47 : decode cX7_reach 47 = .ok (.iload 6, 2) := by decide +kernel
theorem dX7_reach_49 : decode cX7_reach 49 = .ok (.invokevirtual 143, 3) := by decide +kernel
theorem dX7_reach_52 : decode cX7_reach 52 = .ok (.goto 10, 3) := by decide +kernel
theorem dX7_reach_55 : decode cX7_reach 55 = .ok (.aload_n 0, 1) := by decide +kernel
theorem dX7_reach_56 : decode cX7_reach 56 = .ok (.iload_n 1, 1) := by decide +kernel
theorem dX7_reach_57 : decode cX7_reach 57 = .ok (.iload 6, 2) := by decide +kernel
theorem dX7_reach_59 : decode cX7_reach 59 = .ok (.invokevirtual 147, 3) := by decide +kernel
theorem dX7_reach_62 : decode cX7_reach 62 = .ok (.ior, 1) := by decide +kernel
theorem dX7_reach_63 : decode cX7_reach 63 = .ok (.istore 4, 2) := by decide +kernel
theorem dX7_reach_65 : decode cX7_reach 65 = .ok (.iinc 6 1, 3) := by decide +kernel
theorem dX7_reach_68 : decode cX7_reach 68 = .ok (.goto (-46), 3) := by decide +kernel
theorem dX7_reach_71 : decode cX7_reach 71 = .ok (.goto (-63), 3) := by decide +kernel
theorem dX7_reach_74 : decode cX7_reach 74 = .ok (.iload 4, 2) := by decide +kernel
theorem dX7_reach_76 : decode cX7_reach 76 = .ok (.ireturn, 1) := by decide +kernel
theorem dX7_below_0 : decode cX7_below 0 = .ok (.aload_n 0, 1) := by decide +kernel
theorem dX7_below_1 : decode cX7_below 1 = .ok (.iload_n 1, 1) := by decide +kernel
theorem dX7_below_2 : decode cX7_below 2 = .ok (.iload_n 2, 1) := by decide +kernel
theorem dX7_below_3 : decode cX7_below 3 = .ok (.iconst 1, 1) := by decide +kernel
theorem dX7_below_4 : decode cX7_below 4 = .ok (.invokevirtual 150, 3) := by decide +kernel
theorem dX7_below_7 : decode cX7_below 7 = .ok (.ireturn, 1) := by decide +kernel
theorem dX7_above_0 : decode cX7_above 0 = .ok (.aload_n 0, 1) := by decide +kernel
theorem dX7_above_1 : decode cX7_above 1 = .ok (.iload_n 1, 1) := by decide +kernel
theorem dX7_above_2 : decode cX7_above 2 = .ok (.iload_n 2, 1) := by decide +kernel
theorem dX7_above_3 : decode cX7_above 3 = .ok (.iconst 0, 1) := by decide +kernel
theorem dX7_above_4 : decode cX7_above 4 = .ok (.invokevirtual 150, 3) := by decide +kernel
theorem dX7_above_7 : decode cX7_above 7 = .ok (.ireturn, 1) := by decide +kernel
theorem dX7_linkMany_0 : decode cX7_linkMany 0 = .ok (.iconst 0, 1) := by decide +kernel
theorem dX7_linkMany_1 : decode cX7_linkMany 1 = .ok (.istore_n 2, 1) := by decide +kernel
theorem dX7_linkMany_2 : decode cX7_linkMany 2 = .ok (.iconst 0, 1) := by decide +kernel
theorem dX7_linkMany_3 : decode cX7_linkMany 3 = .ok (.istore_n 3, 1) := by decide +kernel
theorem dX7_linkMany_4 : decode cX7_linkMany 4 = .ok (.iload_n 3, 1) := by decide +kernel
theorem dX7_linkMany_5 : decode cX7_linkMany 5 = .ok (.bipush 24, 2) := by decide +kernel
theorem dX7_linkMany_7 : decode cX7_linkMany 7 = .ok (.if_icmp .ge 34, 3) := by decide +kernel
theorem dX7_linkMany_10 : decode cX7_linkMany 10 = .ok (.iload_n 2, 1) := by decide +kernel
theorem dX7_linkMany_11 : decode cX7_linkMany 11 = .ok (.aload_n 0, 1) := by decide +kernel
theorem dX7_linkMany_12 : decode cX7_linkMany 12 = .ok (.iload_n 1, 1) := by decide +kernel
theorem dX7_linkMany_13 : decode cX7_linkMany 13 = .ok (.iload_n 3, 1) := by decide +kernel
theorem dX7_linkMany_14 : decode cX7_linkMany 14 = .ok (.invokevirtual 140, 3) := by decide +kernel
theorem dX7_linkMany_17 : decode cX7_linkMany 17 = .ok (.ifCond .eq 15, 3) := by decide +kernel
theorem dX7_linkMany_20 : decode cX7_linkMany 20 = .ok (.aload_n 0, 1) := by decide +kernel
theorem dX7_linkMany_21 : decode cX7_linkMany 21 = .ok (.iload_n 1, 1) := by decide +kernel
theorem dX7_linkMany_22 : decode cX7_linkMany 22 = .ok (.iload_n 3, 1) := by decide +kernel
theorem dX7_linkMany_23 : decode cX7_linkMany 23 = .ok (.invokevirtual 143, 3) := by decide +kernel
theorem dX7_linkMany_26 : decode cX7_linkMany 26 = .ok (.invokestatic 154, 3) := by decide +kernel
theorem dX7_linkMany_29 : decode cX7_linkMany 29 = .ok (.goto 4, 3) := by decide +kernel
theorem dX7_linkMany_32 : decode cX7_linkMany 32 = .ok (.iconst 0, 1) := by decide +kernel
theorem dX7_linkMany_33 : decode cX7_linkMany 33 = .ok (.iadd, 1) := by decide +kernel
theorem dX7_linkMany_34 : decode cX7_linkMany 34 = .ok (.istore_n 2, 1) := by decide +kernel
theorem dX7_linkMany_35 : decode cX7_linkMany 35 = .ok (.iinc 3 1, 3) := by decide +kernel
theorem dX7_linkMany_38 : decode cX7_linkMany 38 = .ok (.goto (-34), 3) := by decide +kernel
theorem dX7_linkMany_41 : decode cX7_linkMany 41 = .ok (.iload_n 2, 1) := by decide +kernel
theorem dX7_linkMany_42 : decode cX7_linkMany 42 = .ok (.ireturn, 1) := by decide +kernel
