theorem dX7_readsNext_0 : decode cX7_readsNext 0 = .ok (.aload_n 0, 1) := by decide +kernel
theorem dX7_readsNext_1 : decode cX7_readsNext 1 = .ok (.invokevirtual 241, 3) := by decide +kernel
theorem dX7_readsNext_4 : decode cX7_readsNext 4 = .ok (.istore_n 1, 1) := by decide +kernel
theorem dX7_readsNext_5 : decode cX7_readsNext 5 = .ok (.iload_n 1, 1) := by decide +kernel
theorem dX7_readsNext_6 : decode cX7_readsNext 6 = .ok (.ifCond .ge 5, 3) := by decide +kernel
theorem dX7_readsNext_9 : decode cX7_readsNext 9 = .ok (.iconst 0, 1) := by decide +kernel
theorem dX7_readsNext_10 : decode cX7_readsNext 10 = .ok (.ireturn, 1) := by decide +kernel
theorem dX7_readsNext_11 : decode cX7_readsNext 11 = .ok (.aload_n 0, 1) := by decide +kernel
theorem dX7_readsNext_12 : decode cX7_readsNext 12 = .ok (.iload_n 1, 1) := by decide +kernel
theorem dX7_readsNext_13 : decode cX7_readsNext 13 = .ok (.aload_n 0, 1) := by decide +kernel
theorem dX7_readsNext_14 : decode cX7_readsNext 14 = .ok (.bipush 42, 2) := by decide +kernel
theorem dX7_readsNext_16 : decode cX7_readsNext 16 = .ok (.invokevirtual 244, 3) := by decide +kernel
theorem dX7_readsNext_19 : decode cX7_readsNext 19 = .ok (.invokevirtual 295, 3) := by decide +kernel
theorem dX7_readsNext_22 : decode cX7_readsNext 22 = .ok (.iconst 1, 1) := by decide +kernel
theorem dX7_readsNext_23 : decode cX7_readsNext 23 = .ok (.ireturn, 1) := by decide +kernel
theorem dX7_joins_0 : decode cX7_joins 0 = .ok (.iload_n 1, 1) := by decide +kernel
theorem dX7_joins_1 : decode cX7_joins 1 = .ok (.ifCond .ne 32, 3) := by decide +kernel
theorem dX7_joins_4 : decode cX7_joins 4 = .ok (.aload_n 0, 1) := by decide +kernel
theorem dX7_joins_5 : decode cX7_joins 5 = .ok (.dup, 1) := by decide +kernel
theorem dX7_joins_6 : decode cX7_joins 6 = .ok (.getfield 299, 3) := by decide +kernel
theorem dX7_joins_9 : decode cX7_joins 9 = .ok (.aload_n 0, 1) := by decide +kernel
theorem dX7_joins_10 : decode cX7_joins 10 = .ok (.getfield 289, 3) := by decide +kernel
theorem dX7_joins_13 : decode cX7_joins 13 = .ok (.ior, 1) := by decide +kernel
theorem dX7_joins_14 : decode cX7_joins 14 = .ok (.putfield 299, 3) := by decide +kernel
theorem dX7_joins_17 : decode cX7_joins 17 = .ok (.aload_n 0, 1) := by decide +kernel
theorem dX7_joins_18 : decode cX7_joins 18 = .ok (.dup, 1) := by decide +kernel
theorem dX7_joins_19 : decode cX7_joins 19 = .ok (.getfield 302, 3) := by decide +kernel
theorem dX7_joins_22 : decode cX7_joins 22 = .ok (.aload_n 0, 1) := by decide +kernel
theorem dX7_joins_23 : decode cX7_joins 23 = .ok (.getfield 292, 3) := by decide +kernel
theorem dX7_joins_26 : decode cX7_joins 26 = .ok (.ior, 1) := by decide +kernel
theorem dX7_joins_27 : decode cX7_joins 27 = .ok (.putfield 302, 3) := by decide +kernel
theorem dX7_joins_30 : decode cX7_joins 30 = .ok (.goto 67, 3) := by decide +kernel
theorem dX7_joins_33 : decode cX7_joins 33 = .ok (.iload_n 1, 1) := by decide +kernel
theorem dX7_joins_34 : decode cX7_joins 34 = .ok (.iconst 1, 1) := by decide +kernel
theorem dX7_joins_35 : decode cX7_joins 35 = .ok (.if_icmp .ne 32, 3) := by decide +kernel
theorem dX7_joins_38 : decode cX7_joins 38 = .ok (.aload_n 0, 1) := by decide +kernel
theorem dX7_joins_39 : decode cX7_joins 39 = .ok (.dup, 1) := by decide +kernel
theorem dX7_joins_40 : decode cX7_joins 40 = .ok (.getfield 299, 3) := by decide +kernel
theorem dX7_joins_43 : decode cX7_joins 43 = .ok (.aload_n 0, 1) := by decide +kernel
theorem dX7_joins_44 : decode cX7_joins 44 = .ok (.getfield 289, 3) := by decide +kernel
theorem dX7_joins_47 : decode cX7_joins 47 = .ok (.iand, 1) := by decide +kernel
theorem dX7_joins_48 : decode cX7_joins 48 = .ok (.putfield 299, 3) := by decide +kernel
theorem dX7_joins_51 : decode cX7_joins 51 = .ok (.aload_n 0, 1) := by decide +kernel
theorem dX7_joins_52 : decode cX7_joins 52 = .ok (.dup, 1) := by decide +kernel
theorem dX7_joins_53 : decode cX7_joins 53 = .ok (.getfield 302, 3) := by decide +kernel
theorem dX7_joins_56 : decode cX7_joins 56 = .ok (.aload_n 0, 1) := by decide +kernel
theorem dX7_joins_57 : decode cX7_joins 57 = .ok (.getfield 292, 3) := by decide +kernel
theorem dX7_joins_60 : decode cX7_joins 60 = .ok (.iand, 1) := by decide +kernel
theorem dX7_joins_61 : decode cX7_joins 61 = .ok (.putfield 302, 3) := by decide +kernel
theorem dX7_joins_64 : decode cX7_joins 64 = .ok (.goto 33, 3) := by decide +kernel
theorem dX7_joins_67 : decode cX7_joins 67 = .ok (.aload_n 0, 1) := by decide +kernel
theorem dX7_joins_68 : decode cX7_joins 68 = .ok (.dup, 1) := by decide +kernel
theorem dX7_joins_69 : decode cX7_joins 69 = .ok (.getfield 299, 3) := by decide +kernel
theorem dX7_joins_72 : decode cX7_joins 72 = .ok (.aload_n 0, 1) := by decide +kernel
theorem dX7_joins_73 : decode cX7_joins 73 = .ok (.getfield 289, 3) := by decide +kernel
theorem dX7_joins_76 : decode cX7_joins 76 = .ok (.iconst (-1), 1) := by decide +kernel
theorem dX7_joins_77 : decode cX7_joins 77 = .ok (.ixor, 1) := by decide +kernel
theorem dX7_joins_78 : decode cX7_joins 78 = .ok (.iand, 1) := by decide +kernel
theorem dX7_joins_79 : decode cX7_joins 79 = .ok (.putfield 299, 3) := by decide +kernel
theorem dX7_joins_82 : decode cX7_joins 82 = .ok (.aload_n 0, 1) := by decide +kernel
theorem dX7_joins_83 : decode cX7_joins 83 = .ok (.dup, 1) := by decide +kernel
theorem dX7_joins_84 : decode cX7_joins 84 = .ok (.getfield 302, 3) := by decide +kernel
theorem dX7_joins_87 : decode cX7_joins 87 = .ok (.aload_n 0, 1) := by decide +kernel
theorem dX7_joins_88 : decode cX7_joins 88 = .ok (.getfield 292, 3) := by decide +kernel
theorem dX7_joins_91 : decode cX7_joins 91 = .ok (.iconst (-1), 1) := by decide +kernel
theorem dX7_joins_92 : decode cX7_joins 92 = .ok (.ixor, 1) := by decide +kernel
theorem dX7_joins_93 : decode cX7_joins 93 = .ok (.iand, 1) := by decide +kernel
theorem dX7_joins_94 : decode cX7_joins 94 = .ok (.putfield 302, 3) := by decide +kernel
theorem dX7_joins_97 : decode cX7_joins 97 = .ok (.return_, 1) := by decide +kernel
theorem dX7_search_0 : decode cX7_search 0 = .ok (.aload_n 0, 1) := by decide +kernel
theorem dX7_search_1 : decode cX7_search 1 = .ok (.iconst 0, 1) := by decide +kernel
theorem dX7_search_2 : decode cX7_search 2 = .ok (.putfield 1, 3) := by decide +kernel
theorem dX7_search_5 : decode cX7_search 5 = .ok (.aload_n 0, 1) := by decide +kernel
theorem dX7_search_6 : decode cX7_search 6 = .ok (.invokevirtual 198, 3) := by decide +kernel
theorem dX7_search_9 : decode cX7_search 9 = .ok (.aload_n 0, 1) := by decide +kernel
theorem dX7_search_10 : decode cX7_search 10 = .ok (.iconst 0, 1) := by decide +kernel
theorem dX7_search_11 : decode cX7_search 11 = .ok (.putfield 299, 3) := by decide +kernel
theorem dX7_search_14 : decode cX7_search 14 = .ok (.aload_n 0, 1) := by decide +kernel
theorem dX7_search_15 : decode cX7_search 15 = .ok (.iconst 0, 1) := by decide +kernel
theorem dX7_search_16 : decode cX7_search 16 = .ok (.putfield 302, 3) := by decide +kernel
theorem dX7_search_19 : decode cX7_search 19 = .ok (.iconst 0, 1) := by decide +kernel
theorem dX7_search_20 : decode cX7_search 20 = .ok (.istore_n 1, 1) := by decide +kernel
theorem dX7_search_21 : decode cX7_search 21 = .ok (.iconst 1, 1) := by decide +kernel
theorem dX7_search_22 : decode cX7_search 22 = .ok (.istore_n 2, 1) := by decide +kernel
theorem dX7_search_23 : decode cX7_search 23 = .ok (.iload_n 2, 1) := by decide +kernel
theorem dX7_search_24 : decode cX7_search 24 = .ok (.ifCond .eq 43, 3) := by decide +kernel
theorem dX7_search_27 : decode cX7_search 27 = .ok (.aload_n 0, 1) := by decide +kernel
theorem dX7_search_28 : decode cX7_search 28 = .ok (.invokevirtual 305, 3) := by decide +kernel
theorem dX7_search_31 : decode cX7_search 31 = .ok (.ifCond .ne 10, 3) := by decide +kernel
theorem dX7_search_34 : decode cX7_search 34 = .ok (.iconst (-1), 1) := by decide +kernel
theorem dX7_search_35 : decode cX7_search 35 = .ok (.aload_n 0, 1) := by decide +kernel
theorem dX7_search_36 : decode cX7_search 36 = .ok (.getfield 28, 3) := by decide +kernel
theorem dX7_search_39 : decode cX7_search 39 = .ok (.isub, 1) := by decide +kernel
theorem dX7_search_40 : decode cX7_search 40 = .ok (.ireturn, 1) := by decide +kernel
theorem dX7_search_41 : decode cX7_search 41 = .ok (.aload_n 0, 1) := by decide +kernel
theorem dX7_search_42 : decode cX7_search 42 = .ok (.iload_n 1, 1) := by decide +kernel
theorem dX7_search_43 : decode cX7_search 43 = .ok (.invokevirtual 309, 3) := by decide +kernel
theorem dX7_search_46 : decode cX7_search 46 = .ok (.aload_n 0, 1) := by decide +kernel
theorem dX7_search_47 : decode cX7_search 47 = .ok (.ldc_w 312, 3) := by decide +kernel
theorem dX7_search_50 : decode cX7_search 50 = .ok (.invokevirtual 51, 3) := by decide +kernel
theorem dX7_search_53 : decode cX7_search 53 = .ok (.istore_n 1, 1) := by decide +kernel
theorem dX7_search_54 : decode cX7_search 54 = .ok (.iload_n 1, 1) := by decide +kernel
theorem dX7_search_55 : decode cX7_search 55 = .ok (.ifCond .lt 7, 3) := by decide +kernel
theorem dX7_search_58 : decode cX7_search 58 = .ok (.iconst 1, 1) := by decide +kernel
theorem dX7_search_59 : decode cX7_search 59 = .ok (.goto 4, 3) := by decide +kernel
theorem dX7_search_62 : decode cX7_search 62 = .ok (.iconst 0, 1) := by decide +kernel
theorem dX7_search_63 : decode cX7_search 63 = .ok (.istore_n 2, 1) := by decide +kernel
theorem dX7_search_64 : decode cX7_search 64 = .ok (.goto (-41), 3) := by decide +kernel
theorem dX7_search_67 : decode cX7_search 67 = .ok (.aload_n 0, 1) := by decide +kernel
theorem dX7_search_68 : decode cX7_search 68 = .ok (.getfield 28, 3) := by decide +kernel
theorem dX7_search_71 : decode cX7_search 71 = .ok (.aload_n 0, 1) := by decide +kernel
theorem dX7_search_72 : decode cX7_search 72 = .ok (.getfield 25, 3) := by decide +kernel
theorem dX7_search_75 : decode cX7_search 75 = .ok (.if_icmp .ge 10, 3) := by decide +kernel
theorem dX7_search_78 : decode cX7_search 78 = .ok (.iconst (-1), 1) := by decide +kernel
theorem dX7_search_79 : decode cX7_search 79 = .ok (.aload_n 0, 1) := by decide +kernel
theorem dX7_search_80 : decode cX7_search 80 = .ok (.getfield 28, 3) := by decide +kernel
theorem dX7_search_83 : decode cX7_search 83 = .ok (.isub, 1) := by decide +kernel
theorem dX7_search_84 : decode cX7_search 84 = .ok (.ireturn, 1) := by decide +kernel
theorem dX7_search_85 : decode cX7_search 85 = .ok (.aload_n 0, 1) := by decide +kernel
theorem dX7_search_86 : decode cX7_search 86 = .ok (.iconst 0, 1) := by decide +kernel
theorem dX7_search_87 : decode cX7_search 87 = .ok (.putfield 11, 3) := by decide +kernel
theorem dX7_search_90 : decode cX7_search 90 = .ok (.iconst 0, 1) := by decide +kernel
theorem dX7_search_91 : decode cX7_search 91 = .ok (.istore_n 3, 1) := by decide +kernel
theorem dX7_search_92 : decode cX7_search 92 = .ok (.iload_n 3, 1) := by decide +kernel
theorem dX7_search_93 : decode cX7_search 93 = .ok (.bipush 40, 2) := by decide +kernel
theorem dX7_search_95 : decode cX7_search 95 = .ok (.if_icmp .ge 42, 3) := by decide +kernel
theorem dX7_search_98 : decode cX7_search 98 = .ok (.iload_n 3, 1) := by decide +kernel
theorem dX7_search_99 : decode cX7_search 99 = .ok (.bipush 20, 2) := by decide +kernel
theorem dX7_search_101 : decode cX7_search 101 = .ok (.if_icmp .ge 10, 3) := by decide +kernel
theorem dX7_search_104 : decode cX7_search 104 = .ok (.aload_n 0, 1) := by decide +kernel
theorem dX7_search_105 : decode cX7_search 105 = .ok (.getfield 299, 3) := by decide +kernel
theorem dX7_search_108 : decode cX7_search 108 = .ok (.goto 7, 3) := by decide +kernel
theorem dX7_search_111 : decode cX7_search 111 = .ok (.aload_n 0, 1) := by decide +kernel
theorem dX7_search_112 : decode cX7_search 112 = .ok (.getfield 302, 3) := by decide +kernel
theorem dX7_search_115 : decode cX7_search 115 = .ok (.iload_n 3, 1) := by decide +kernel
theorem dX7_search_116 : decode cX7_search 116 = .ok (.bipush 20, 2) := by decide +kernel
theorem dX7_search_118 : decode cX7_search 118 = .ok (.irem, 1) := by decide +kernel
theorem dX7_search_119 : decode cX7_search 119 = .ok (.invokestatic 133, 3) := by decide +kernel
theorem dX7_search_122 : decode cX7_search 122 = .ok (.ifCond .eq 9, 3) := by decide +kernel
theorem dX7_search_125 : decode cX7_search 125 = .ok (.aload_n 0, 1) := by decide +kernel
theorem dX7_search_126 : decode cX7_search 126 = .ok (.iload_n 3, 1) := by decide +kernel
theorem dX7_search_127 : decode cX7_search 127 = .ok (.i2l, 1) := by decide +kernel
theorem dX7_search_128 : decode cX7_search 128 = .ok (.invokevirtual 191, 3) := by decide +kernel
theorem dX7_search_131 : decode cX7_search 131 = .ok (.iinc 3 1, 3) := by decide +kernel
theorem dX7_search_134 : decode cX7_search 134 = .ok (.goto (-42), 3) := by decide +kernel
theorem dX7_search_137 : decode cX7_search 137 = .ok (.aload_n 0, 1) := by decide +kernel
theorem dX7_search_138 : decode cX7_search 138 = .ok (.getfield 11, 3) := by decide +kernel
theorem dX7_search_141 : decode cX7_search 141 = .ok (.ireturn, 1) := by decide +kernel
theorem dX7_posted_0 : decode cX7_posted 0 = .ok (.aload_n 0, 1) := by decide +kernel
theorem dX7_posted_1 : decode cX7_posted 1 = .ok (.iconst 0, 1) := by decide +kernel
theorem dX7_posted_2 : decode cX7_posted 2 = .ok (.putfield 1, 3) := by decide +kernel
theorem dX7_posted_5 : decode cX7_posted 5 = .ok (.iload_n 1, 1) := by decide +kernel
theorem dX7_posted_6 : decode cX7_posted 6 = .ok (.invokestatic 277, 3) := by decide +kernel
theorem dX7_posted_9 : decode cX7_posted 9 = .ok (.ifCond .ne 5, 3) := by decide +kernel
theorem dX7_posted_12 : decode cX7_posted 12 = .ok (.iconst (-1), 1) := by decide +kernel
theorem dX7_posted_13 : decode cX7_posted 13 = .ok (.ireturn, 1) := by decide +kernel
theorem dX7_posted_14 : decode cX7_posted 14 = .ok (.iconst 0, 1) := by decide +kernel
theorem dX7_posted_15 : decode cX7_posted 15 = .ok (.istore_n 2, 1) := by decide +kernel
theorem dX7_posted_16 : decode cX7_posted 16 = .ok (.iconst 0, 1) := by decide +kernel
theorem dX7_posted_17 : decode cX7_posted 17 = .ok (.istore_n 3, 1) := by decide +kernel
theorem dX7_posted_18 : decode cX7_posted 18 = .ok (.iload_n 3, 1) := by decide +kernel
theorem dX7_posted_19 : decode cX7_posted 19 = .ok (.bipush 24, 2) := by decide +kernel
theorem dX7_posted_21 : decode cX7_posted 21 = .ok (.if_icmp .ge 39, 3) := by decide +kernel
theorem dX7_posted_24 : decode cX7_posted 24 = .ok (.iload_n 2, 1) := by decide +kernel
theorem dX7_posted_25 : decode cX7_posted 25 = .ok (.aload_n 0, 1) := by decide +kernel
theorem dX7_posted_26 : decode cX7_posted 26 = .ok (.iload_n 3, 1) := by decide +kernel
theorem dX7_posted_27 : decode cX7_posted 27 = .ok (.invokevirtual 137, 3) := by decide +kernel
theorem dX7_posted_30 : decode cX7_posted 30 = .ok (.ifCond .eq 16, 3) := by decide +kernel
theorem dX7_posted_33 : decode cX7_posted 33 = .ok (.aload_n 0, 1) := by decide +kernel
theorem dX7_posted_34 : decode cX7_posted 34 = .ok (.iload_n 1, 1) := by decide +kernel
theorem dX7_posted_35 : decode cX7_posted 35 = .ok (.iload_n 3, 1) := by decide +kernel
theorem dX7_posted_36 : decode cX7_posted 36 = .ok (.invokevirtual 280, 3) := by decide +kernel
theorem dX7_posted_39 : decode cX7_posted 39 = .ok (.ifCond .eq 7, 3) := by decide +kernel
theorem dX7_posted_42 : decode cX7_posted 42 = .ok (.iconst 1, 1) := by decide +kernel
theorem dX7_posted_43 : decode cX7_posted 43 = .ok (.goto 4, 3) := by decide +kernel
theorem dX7_posted_46 : decode cX7_posted 46 = .ok (.iconst 0, 1) := by decide +kernel
theorem dX7_posted_47 : decode cX7_posted 47 = .ok (.invokestatic 45, 3) := by decide +kernel
theorem dX7_posted_50 : decode cX7_posted 50 = .ok (.iload_n 3, 1) := by decide +kernel
theorem dX7_posted_51 : decode cX7_posted 51 = .ok (.ishl, 1) := by decide +kernel
theorem dX7_posted_52 : decode cX7_posted 52 = .ok (.ior, 1) := by decide +kernel
theorem dX7_posted_53 : decode cX7_posted 53 = .ok (.istore_n 2, 1) := by decide +kernel
theorem dX7_posted_54 : decode cX7_posted 54 = .ok (.iinc 3 1, 3) := by decide +kernel
theorem dX7_posted_57 : decode cX7_posted 57 = .ok (.goto (-39), 3) := by decide +kernel
theorem dX7_posted_60 : decode cX7_posted 60 = .ok (.iconst 0, 1) := by decide +kernel
theorem dX7_posted_61 : decode cX7_posted 61 = .ok (.istore_n 3, 1) := by decide +kernel
theorem dX7_posted_62 : decode cX7_posted 62 = .ok (.iconst 0, 1) := by decide +kernel
theorem dX7_posted_63 : decode cX7_posted 63 = .ok (.istore 4, 2) := by decide +kernel
theorem dX7_posted_65 : decode cX7_posted 65 = .ok (.iload 4, 2) := by decide +kernel
theorem dX7_posted_67 : decode cX7_posted 67 = .ok (.bipush 24, 2) := by decide +kernel
theorem dX7_posted_69 : decode cX7_posted 69 = .ok (.if_icmp .ge 48, 3) := by decide +kernel
theorem dX7_posted_72 : decode cX7_posted 72 = .ok (.iload_n 3, 1) := by decide +kernel
theorem dX7_posted_73 : decode cX7_posted 73 = .ok (.iload_n 2, 1) := by decide +kernel
theorem dX7_posted_74 : decode cX7_posted 74 = .ok (.iload 4, 2) := by decide +kernel
theorem dX7_posted_76 : decode cX7_posted 76 = .ok (.invokestatic 133, 3) := by decide +kernel
theorem dX7_posted_79 : decode cX7_posted 79 = .ok (.ifCond .eq 23, 3) := by decide +kernel
theorem dX7_posted_82 : decode cX7_posted 82 = .ok (.aload_n 0, 1) := by decide +kernel
theorem dX7_posted_83 : decode cX7_posted 83 = .ok (.iconst 0, 1) := by decide +kernel
theorem dX7_posted_84 : decode cX7_posted 84 = .ok (.iload 4, 2) := by decide +kernel
theorem dX7_posted_86 : decode cX7_posted 86 = .ok (.invokevirtual 166, 3) := by decide +kernel
theorem dX7_posted_89 : decode cX7_posted 89 = .ok (.iload_n 2, 1) := by decide +kernel
theorem dX7_posted_90 : decode cX7_posted 90 = .ok (.iand, 1) := by decide +kernel
theorem dX7_posted_91 : decode cX7_posted 91 = .ok (.invokestatic 154, 3) := by decide +kernel
theorem dX7_posted_94 : decode cX7_posted 94 = .ok (.iconst 1, 1) := by decide +kernel
theorem dX7_posted_95 : decode cX7_posted 95 = .ok (.if_icmp .le 7, 3) := by decide +kernel
theorem dX7_posted_98 : decode cX7_posted 98 = .ok (.iconst 1, 1) := by decide +kernel
theorem dX7_posted_99 : decode cX7_posted 99 = .ok (.goto 4, 3) := by decide +kernel
theorem dX7_posted_102 : decode cX7_posted 102 = .ok (.iconst 0, 1) := by decide +kernel
theorem dX7_posted_103 : decode cX7_posted 103 = .ok (.invokestatic 45, 3) := by decide +kernel
theorem dX7_posted_106 : decode cX7_posted 106 = .ok (.iload 4, 2) := by decide +kernel
theorem dX7_posted_108 : decode cX7_posted 108 = .ok (.ishl, 1) := by decide +kernel
theorem dX7_posted_109 : decode cX7_posted 109 = .ok (.ior, 1) := by decide +kernel
theorem dX7_posted_110 : decode cX7_posted 110 = .ok (.istore_n 3, 1) := by decide +kernel
theorem dX7_posted_111 : decode cX7_posted 111 = .ok (.iinc 4 1, 3) := by decide +kernel
theorem dX7_posted_114 : decode cX7_posted 114 = .ok (.goto (-49), 3) := by decide +kernel
theorem dX7_posted_117 : decode cX7_posted 117 = .ok (.aload_n 0, 1) := by decide +kernel
theorem dX7_posted_118 : decode cX7_posted 118 = .ok (.iconst 0, 1) := by decide +kernel
theorem dX7_posted_119 : decode cX7_posted 119 = .ok (.putfield 11, 3) := by decide +kernel
theorem dX7_posted_122 : decode cX7_posted 122 = .ok (.aload_n 0, 1) := by decide +kernel
theorem dX7_posted_123 : decode cX7_posted 123 = .ok (.iload_n 3, 1) := by decide +kernel
theorem dX7_posted_124 : decode cX7_posted 124 = .ok (.i2l, 1) := by decide +kernel
theorem dX7_posted_125 : decode cX7_posted 125 = .ok (.invokevirtual 191, 3) := by decide +kernel
theorem dX7_posted_128 : decode cX7_posted 128 = .ok (.iload_n 2, 1) := by decide +kernel
theorem dX7_posted_129 : decode cX7_posted 129 = .ok (.ireturn, 1) := by decide +kernel
theorem dX7_leaves_0 : decode cX7_leaves 0 = .ok (.iconst 0, 1) := by decide +kernel
theorem dX7_leaves_1 : decode cX7_leaves 1 = .ok (.istore_n 2, 1) := by decide +kernel
theorem dX7_leaves_2 : decode cX7_leaves 2 = .ok (.iload_n 2, 1) := by decide +kernel
theorem dX7_leaves_3 : decode cX7_leaves 3 = .ok (.bipush 24, 2) := by decide +kernel
theorem dX7_leaves_5 : decode cX7_leaves 5 = .ok (.if_icmp .ge 26, 3) := by decide +kernel
theorem dX7_leaves_8 : decode cX7_leaves 8 = .ok (.aload_n 0, 1) := by decide +kernel
theorem dX7_leaves_9 : decode cX7_leaves 9 = .ok (.getfield 71, 3) := by decide +kernel
theorem dX7_leaves_12 : decode cX7_leaves 12 = .ok (.bipush 107, 2) := by decide +kernel
theorem dX7_leaves_14 : decode cX7_leaves 14 = .ok (.iload_n 2, 1) := by decide +kernel
theorem dX7_leaves_15 : decode cX7_leaves 15 = .ok (.iadd, 1) := by decide +kernel
theorem dX7_leaves_16 : decode cX7_leaves 16 = .ok (.dup2, 1) := by decide +kernel
theorem dX7_leaves_17 : decode cX7_leaves 17 = .ok (.iaload, 1) := by decide +kernel
theorem dX7_leaves_18 : decode cX7_leaves 18 = .ok (.iconst 1, 1) := by decide +kernel
theorem dX7_leaves_19 : decode cX7_leaves 19 = .ok (.iload_n 1, 1) := by decide +kernel
theorem dX7_leaves_20 : decode cX7_leaves 20 = .ok (.ishl, 1) := by decide +kernel
theorem dX7_leaves_21 : decode cX7_leaves 21 = .ok (.iconst (-1), 1) := by decide +kernel
theorem dX7_leaves_22 : decode cX7_leaves 22 = .ok (.ixor, 1) := by decide +kernel
theorem dX7_leaves_23 : decode cX7_leaves 23 = .ok (.iand, 1) := by decide +kernel
theorem dX7_leaves_24 : decode cX7_leaves 24 = .ok (.iastore, 1) := by decide +kernel
theorem dX7_leaves_25 : decode cX7_leaves 25 = .ok (.iinc 2 1, 3) := by decide +kernel
theorem dX7_leaves_28 : decode cX7_leaves 28 = .ok (.goto (-26), 3) := by decide +kernel
theorem dX7_leaves_31 : decode cX7_leaves 31 = .ok (.aload_n 0, 1) := by decide +kernel
theorem dX7_leaves_32 : decode cX7_leaves 32 = .ok (.getfield 71, 3) := by decide +kernel
theorem dX7_leaves_35 : decode cX7_leaves 35 = .ok (.bipush 107, 2) := by decide +kernel
theorem dX7_leaves_37 : decode cX7_leaves 37 = .ok (.iload_n 1, 1) := by decide +kernel
theorem dX7_leaves_38 : decode cX7_leaves 38 = .ok (.iadd, 1) := by decide +kernel
theorem dX7_leaves_39 : decode cX7_leaves 39 = .ok (.iconst 0, 1) := by decide +kernel
theorem dX7_leaves_40 : decode cX7_leaves 40 = .ok (.iastore, 1) := by decide +kernel
theorem dX7_leaves_41 : decode cX7_leaves 41 = .ok (.aload_n 0, 1) := by decide +kernel
theorem dX7_leaves_42 : decode cX7_leaves 42 = .ok (.iconst 0, 1) := by decide +kernel
theorem dX7_leaves_43 : decode cX7_leaves 43 = .ok (.iload_n 1, 1) := by decide +kernel
theorem dX7_leaves_44 : decode cX7_leaves 44 = .ok (.invokevirtual 160, 3) := by decide +kernel
theorem dX7_leaves_47 : decode cX7_leaves 47 = .ok (.istore_n 2, 1) := by decide +kernel
theorem dX7_leaves_48 : decode cX7_leaves 48 = .ok (.aload_n 0, 1) := by decide +kernel
theorem dX7_leaves_49 : decode cX7_leaves 49 = .ok (.getfield 71, 3) := by decide +kernel
theorem dX7_leaves_52 : decode cX7_leaves 52 = .ok (.iconst 1, 1) := by decide +kernel
theorem dX7_leaves_53 : decode cX7_leaves 53 = .ok (.dup2, 1) := by decide +kernel
theorem dX7_leaves_54 : decode cX7_leaves 54 = .ok (.iaload, 1) := by decide +kernel
theorem dX7_leaves_55 : decode cX7_leaves 55 = .ok (.iconst 1, 1) := by decide +kernel
theorem dX7_leaves_56 : decode cX7_leaves 56 = .ok (.isub, 1) := by decide +kernel
theorem dX7_leaves_57 : decode cX7_leaves 57 = .ok (.iastore, 1) := by decide +kernel
theorem dX7_leaves_58 : decode cX7_leaves 58 = .ok (.iload_n 2, 1) := by decide +kernel
theorem dX7_leaves_59 : decode cX7_leaves 59 = .ok (.istore_n 3, 1) := by decide +kernel
theorem dX7_leaves_60 : decode cX7_leaves 60 = .ok (.iload_n 3, 1) := by decide +kernel
theorem dX7_leaves_61 : decode cX7_leaves 61 = .ok (.aload_n 0, 1) := by decide +kernel
theorem dX7_leaves_62 : decode cX7_leaves 62 = .ok (.iconst 0, 1) := by decide +kernel
theorem dX7_leaves_63 : decode cX7_leaves 63 = .ok (.invokevirtual 169, 3) := by decide +kernel
theorem dX7_leaves_66 : decode cX7_leaves 66 = .ok (.if_icmp .ge 27, 3) := by decide +kernel
theorem dX7_leaves_69 : decode cX7_leaves 69 = .ok (.aload_n 0, 1) := by decide +kernel
theorem dX7_leaves_70 : decode cX7_leaves 70 = .ok (.getfield 71, 3) := by decide +kernel
theorem dX7_leaves_73 : decode cX7_leaves 73 = .ok (.iconst 3, 1) := by decide +kernel
theorem dX7_leaves_74 : decode cX7_leaves 74 = .ok (.iload_n 3, 1) := by decide +kernel
theorem dX7_leaves_75 : decode cX7_leaves 75 = .ok (.iadd, 1) := by decide +kernel
theorem dX7_leaves_76 : decode cX7_leaves 76 = .ok (.aload_n 0, 1) := by decide +kernel
theorem dX7_leaves_77 : decode cX7_leaves 77 = .ok (.getfield 71, 3) := by decide +kernel
theorem dX7_leaves_80 : decode cX7_leaves 80 = .ok (.iconst 3, 1) := by decide +kernel
theorem dX7_leaves_81 : decode cX7_leaves 81 = .ok (.iload_n 3, 1) := by decide +kernel
theorem dX7_leaves_82 : decode cX7_leaves 82 = .ok (.iadd, 1) := by decide +kernel
theorem dX7_leaves_83 : decode cX7_leaves 83 = .ok (.iconst 1, 1) := by decide +kernel
theorem dX7_leaves_84 : decode cX7_leaves 84 = .ok (.iadd, 1) := by decide +kernel
theorem dX7_leaves_85 : decode cX7_leaves 85 = .ok (.iaload, 1) := by decide +kernel
theorem dX7_leaves_86 : decode cX7_leaves 86 = .ok (.iastore, 1) := by decide +kernel
theorem dX7_leaves_87 : decode cX7_leaves 87 = .ok (.iinc 3 1, 3) := by decide +kernel
theorem dX7_leaves_90 : decode cX7_leaves 90 = .ok (.goto (-30), 3) := by decide +kernel
theorem dX7_leaves_93 : decode cX7_leaves 93 = .ok (.aload_n 0, 1) := by decide +kernel
theorem dX7_leaves_94 : decode cX7_leaves 94 = .ok (.getfield 71, 3) := by decide +kernel
theorem dX7_leaves_97 : decode cX7_leaves 97 = .ok (.iconst 0, 1) := by decide +kernel
theorem dX7_leaves_98 : decode cX7_leaves 98 = .ok (.dup2, 1) := by decide +kernel
theorem dX7_leaves_99 : decode cX7_leaves 99 = .ok (.iaload, 1) := by decide +kernel
theorem dX7_leaves_100 : decode cX7_leaves 100 = .ok (.iconst 1, 1) := by decide +kernel
theorem dX7_leaves_101 : decode cX7_leaves 101 = .ok (.iload_n 1, 1) := by decide +kernel
theorem dX7_leaves_102 : decode cX7_leaves 102 = .ok (.ishl, 1) := by decide +kernel
theorem dX7_leaves_103 : decode cX7_leaves 103 = .ok (.iconst (-1), 1) := by decide +kernel
theorem dX7_leaves_104 : decode cX7_leaves 104 = .ok (.ixor, 1) := by decide +kernel
theorem dX7_leaves_105 : decode cX7_leaves 105 = .ok (.iand, 1) := by decide +kernel
theorem dX7_leaves_106 : decode cX7_leaves 106 = .ok (.iastore, 1) := by decide +kernel
theorem dX7_leaves_107 : decode cX7_leaves 107 = .ok (.aload_n 0, 1) := by decide +kernel
theorem dX7_leaves_108 : decode cX7_leaves 108 = .ok (.getfield 71, 3) := by decide +kernel
theorem dX7_leaves_111 : decode cX7_leaves 111 = .ok (.sipush 131, 3) := by decide +kernel
theorem dX7_leaves_114 : decode cX7_leaves 114 = .ok (.iload_n 1, 1) := by decide +kernel
theorem dX7_leaves_115 : decode cX7_leaves 115 = .ok (.iadd, 1) := by decide +kernel
theorem dX7_leaves_116 : decode cX7_leaves 116 = .ok (.iconst 0, 1) := by decide +kernel
theorem dX7_leaves_117 : decode cX7_leaves 117 = .ok (.iastore, 1) := by decide +kernel
theorem dX7_leaves_118 : decode cX7_leaves 118 = .ok (.aload_n 0, 1) := by decide +kernel
theorem dX7_leaves_119 : decode cX7_leaves 119 = .ok (.getfield 71, 3) := by decide +kernel
theorem dX7_leaves_122 : decode cX7_leaves 122 = .ok (.sipush 155, 3) := by decide +kernel
theorem dX7_leaves_125 : decode cX7_leaves 125 = .ok (.iload_n 1, 1) := by decide +kernel
theorem dX7_leaves_126 : decode cX7_leaves 126 = .ok (.iadd, 1) := by decide +kernel
theorem dX7_leaves_127 : decode cX7_leaves 127 = .ok (.iconst 0, 1) := by decide +kernel
theorem dX7_leaves_128 : decode cX7_leaves 128 = .ok (.iastore, 1) := by decide +kernel
theorem dX7_leaves_129 : decode cX7_leaves 129 = .ok (.return_, 1) := by decide +kernel
theorem dX7_inherits_0 : decode cX7_inherits 0 = .ok (.aload_n 0, 1) := by decide +kernel
theorem dX7_inherits_1 : decode cX7_inherits 1 = .ok (.iconst 0, 1) := by decide +kernel
theorem dX7_inherits_2 : decode cX7_inherits 2 = .ok (.iload_n 1, 1) := by decide +kernel
theorem dX7_inherits_3 : decode cX7_inherits 3 = .ok (.invokevirtual 147, 3) := by decide +kernel
theorem dX7_inherits_6 : decode cX7_inherits 6 = .ok (.istore_n 2, 1) := by decide +kernel
theorem dX7_inherits_7 : decode cX7_inherits 7 = .ok (.aload_n 0, 1) := by decide +kernel
theorem dX7_inherits_8 : decode cX7_inherits 8 = .ok (.iconst 0, 1) := by decide +kernel
theorem dX7_inherits_9 : decode cX7_inherits 9 = .ok (.iload_n 1, 1) := by decide +kernel
theorem dX7_inherits_10 : decode cX7_inherits 10 = .ok (.invokevirtual 143, 3) := by decide +kernel
theorem dX7_inherits_13 : decode cX7_inherits 13 = .ok (.istore_n 3, 1) := by decide +kernel
theorem dX7_inherits_14 : decode cX7_inherits 14 = .ok (.iconst 0, 1) := by decide +kernel
theorem dX7_inherits_15 : decode cX7_inherits 15 = .ok (.istore 4, 2) := by decide +kernel
theorem dX7_inherits_17 : decode cX7_inherits 17 = .ok (.iload 4, 2) := by decide +kernel
theorem dX7_inherits_19 : decode cX7_inherits 19 = .ok (.bipush 24, 2) := by decide +kernel
theorem dX7_inherits_21 : decode cX7_inherits 21 = .ok (.if_icmp .ge 104, 3) := by decide +kernel
theorem dX7_inherits_24 : decode cX7_inherits 24 = .ok (.iload_n 2, 1) := by decide +kernel
theorem dX7_inherits_25 : decode cX7_inherits 25 = .ok (.iload 4, 2) := by decide +kernel
theorem dX7_inherits_27 : decode cX7_inherits 27 = .ok (.invokestatic 133, 3) := by decide +kernel
theorem dX7_inherits_30 : decode cX7_inherits 30 = .ok (.ifCond .ne 6, 3) := by decide +kernel
theorem dX7_inherits_33 : decode cX7_inherits 33 = .ok (.goto 86, 3) := by decide +kernel
theorem dX7_inherits_36 : decode cX7_inherits 36 = .ok (.aload_n 0, 1) := by decide +kernel
theorem dX7_inherits_37 : decode cX7_inherits 37 = .ok (.getfield 71, 3) := by decide +kernel
theorem dX7_inherits_40 : decode cX7_inherits 40 = .ok (.sipush 131, 3) := by decide +kernel
theorem dX7_inherits_43 : decode cX7_inherits 43 = .ok (.iload 4, 2) := by decide +kernel
theorem dX7_inherits_45 : decode cX7_inherits 45 = .ok (.iadd, 1) := by decide +kernel
theorem dX7_inherits_46 : decode cX7_inherits 46 = .ok (.dup2, 1) := by decide +kernel
theorem dX7_inherits_47 : decode cX7_inherits 47 = .ok (.iaload, 1) := by decide +kernel
theorem dX7_inherits_48 : decode cX7_inherits 48 = .ok (.aload_n 0, 1) := by decide +kernel
theorem dX7_inherits_49 : decode cX7_inherits 49 = .ok (.getfield 71, 3) := by decide +kernel
theorem dX7_inherits_52 : decode cX7_inherits 52 = .ok (.sipush 131, 3) := by decide +kernel
theorem dX7_inherits_55 : decode cX7_inherits 55 = .ok (.iload_n 1, 1) := by decide +kernel
theorem dX7_inherits_56 : decode cX7_inherits 56 = .ok (.iadd, 1) := by decide +kernel
theorem dX7_inherits_57 : decode cX7_inherits 57 = .ok (.iaload, 1) := by decide +kernel
theorem dX7_inherits_58 : decode cX7_inherits 58 = .ok (.ior, 1) := by decide +kernel
theorem dX7_inherits_59 : decode cX7_inherits 59 = .ok (.iastore, 1) := by decide +kernel
theorem dX7_inherits_60 : decode cX7_inherits 60 = .ok (.aload_n 0, 1) := by decide +kernel
theorem dX7_inherits_61 : decode cX7_inherits 61 = .ok (.getfield 71, 3) := by decide +kernel
theorem dX7_inherits_64 : decode cX7_inherits 64 = .ok (.sipush 155, 3) := by decide +kernel
theorem dX7_inherits_67 : decode cX7_inherits 67 = .ok (.iload 4, 2) := by decide +kernel
theorem dX7_inherits_69 : decode cX7_inherits 69 = .ok (.iadd, 1) := by decide +kernel
theorem dX7_inherits_70 : decode cX7_inherits 70 = .ok (.dup2, 1) := by decide +kernel
theorem dX7_inherits_71 : decode cX7_inherits 71 = .ok (.iaload, 1) := by decide +kernel
theorem dX7_inherits_72 : decode cX7_inherits 72 = .ok (.aload_n 0, 1) := by decide +kernel
theorem dX7_inherits_73 : decode cX7_inherits 73 = .ok (.getfield 71, 3) := by decide +kernel
theorem dX7_inherits_76 : decode cX7_inherits 76 = .ok (.sipush 155, 3) := by decide +kernel
theorem dX7_inherits_79 : decode cX7_inherits 79 = .ok (.iload_n 1, 1) := by decide +kernel
theorem dX7_inherits_80 : decode cX7_inherits 80 = .ok (.iadd, 1) := by decide +kernel
theorem dX7_inherits_81 : decode cX7_inherits 81 = .ok (.iaload, 1) := by decide +kernel
theorem dX7_inherits_82 : decode cX7_inherits 82 = .ok (.ior, 1) := by decide +kernel
theorem dX7_inherits_83 : decode cX7_inherits 83 = .ok (.iastore, 1) := by decide +kernel
theorem dX7_inherits_84 : decode cX7_inherits 84 = .ok (.iconst 0, 1) := by decide +kernel
theorem dX7_inherits_85 : decode cX7_inherits 85 = .ok (.istore 5, 2) := by decide +kernel
theorem dX7_inherits_87 : decode cX7_inherits 87 = .ok (.iload 5, 2) := by decide +kernel
theorem dX7_inherits_89 : decode cX7_inherits 89 = .ok (.bipush 24, 2) := by decide +kernel
theorem dX7_inherits_91 : decode cX7_inherits 91 = .ok (.if_icmp .ge 28, 3) := by decide +kernel
theorem dX7_inherits_94 : decode cX7_inherits 94 = .ok (.iload_n 3, 1) := by decide +kernel
theorem dX7_inherits_95 : decode cX7_inherits 95 = .ok (.iload 5, 2) := by decide +kernel
theorem dX7_inherits_97 : decode cX7_inherits 97 = .ok (.invokestatic 133, 3) := by decide +kernel
theorem dX7_inherits_100 : decode cX7_inherits 100 = .ok (.ifCond .eq 13, 3) := by decide +kernel
theorem dX7_inherits_103 : decode cX7_inherits 103 = .ok (.aload_n 0, 1) := by decide +kernel
theorem dX7_inherits_104 : decode cX7_inherits 104 = .ok (.iconst 0, 1) := by decide +kernel
theorem dX7_inherits_105 : decode cX7_inherits 105 = .ok (.iload 4, 2) := by decide +kernel
theorem dX7_inherits_107 : decode cX7_inherits 107 = .ok (.iload 5, 2) := by decide +kernel
theorem dX7_inherits_109 : decode cX7_inherits 109 = .ok (.invokevirtual 222, 3) := by decide +kernel
theorem dX7_inherits_112 : decode cX7_inherits 112 = .ok (.pop, 1) := by decide +kernel
theorem dX7_inherits_113 : decode cX7_inherits 113 = .ok (.iinc 5 1, 3) := by decide +kernel
theorem dX7_inherits_116 : decode cX7_inherits 116 = .ok (.goto (-29), 3) := by decide +kernel
theorem dX7_inherits_119 : decode cX7_inherits 119 = .ok (.iinc 4 1, 3) := by decide +kernel
theorem dX7_inherits_122 : decode cX7_inherits 122 = .ok (.goto (-105), 3) := by decide +kernel
theorem dX7_inherits_125 : decode cX7_inherits 125 = .ok (.return_, 1) := by decide +kernel
theorem dX7_goesOne_0 : decode cX7_goesOne 0 = .ok (.aload_n 0, 1) := by decide +kernel
theorem dX7_goesOne_1 : decode cX7_goesOne 1 = .ok (.iload_n 1, 1) := by decide +kernel
theorem dX7_goesOne_2 : decode cX7_goesOne 2 = .ok (.invokevirtual 137, 3) := by decide +kernel
theorem dX7_goesOne_5 : decode cX7_goesOne 5 = .ok (.ifCond .eq 13, 3) := by decide +kernel
theorem dX7_goesOne_8 : decode cX7_goesOne 8 = .ok (.iload_n 2, 1) := by decide +kernel
theorem dX7_goesOne_9 : decode cX7_goesOne 9 = .ok (.i2l, 1) := by decide +kernel
theorem dX7_goesOne_10 : decode cX7_goesOne 10 = .ok (.lconst 0, 1) := by decide +kernel
theorem dX7_goesOne_11 : decode cX7_goesOne 11 = .ok (.lconst 1, 1) := by decide +kernel
theorem dX7_goesOne_12 : decode cX7_goesOne 12 = .ok (.invokestatic 21, 3) := by decide +kernel
theorem dX7_goesOne_15 : decode cX7_goesOne 15 = .ok (.ifCond .ne 5, 3) := by decide +kernel
theorem dX7_goesOne_18 : decode cX7_goesOne 18 = .ok (.iconst (-1), 1) := by decide +kernel
theorem dX7_goesOne_19 : decode cX7_goesOne 19 = .ok (.ireturn, 1) := by decide +kernel
theorem dX7_goesOne_20 : decode cX7_goesOne 20 = .ok (.iload_n 2, 1) := by decide +kernel
theorem dX7_goesOne_21 : decode cX7_goesOne 21 = .ok (.iconst 1, 1) := by decide +kernel
theorem dX7_goesOne_22 : decode cX7_goesOne 22 = .ok (.if_icmp .ne 8, 3) := by decide +kernel
theorem dX7_goesOne_25 : decode cX7_goesOne 25 = .ok (.aload_n 0, 1) := by decide +kernel
theorem dX7_goesOne_26 : decode cX7_goesOne 26 = .ok (.iload_n 1, 1) := by decide +kernel
theorem dX7_goesOne_27 : decode cX7_goesOne 27 = .ok (.invokevirtual 314, 3) := by decide +kernel
theorem dX7_goesOne_30 : decode cX7_goesOne 30 = .ok (.aload_n 0, 1) := by decide +kernel
theorem dX7_goesOne_31 : decode cX7_goesOne 31 = .ok (.iconst 0, 1) := by decide +kernel
theorem dX7_goesOne_32 : decode cX7_goesOne 32 = .ok (.invokevirtual 195, 3) := by decide +kernel
theorem dX7_goesOne_35 : decode cX7_goesOne 35 = .ok (.iconst 1, 1) := by decide +kernel
theorem dX7_goesOne_36 : decode cX7_goesOne 36 = .ok (.isub, 1) := by decide +kernel
theorem dX7_goesOne_37 : decode cX7_goesOne 37 = .ok (.istore_n 3, 1) := by decide +kernel
theorem dX7_goesOne_38 : decode cX7_goesOne 38 = .ok (.iload_n 3, 1) := by decide +kernel
theorem dX7_goesOne_39 : decode cX7_goesOne 39 = .ok (.ifCond .lt 27, 3) := by decide +kernel
theorem dX7_goesOne_42 : decode cX7_goesOne 42 = .ok (.aload_n 0, 1) := by decide +kernel
theorem dX7_goesOne_43 : decode cX7_goesOne 43 = .ok (.getfield 71, 3) := by decide +kernel
theorem dX7_goesOne_46 : decode cX7_goesOne 46 = .ok (.bipush 27, 2) := by decide +kernel
theorem dX7_goesOne_48 : decode cX7_goesOne 48 = .ok (.iload_n 3, 1) := by decide +kernel
theorem dX7_goesOne_49 : decode cX7_goesOne 49 = .ok (.iadd, 1) := by decide +kernel
theorem dX7_goesOne_50 : decode cX7_goesOne 50 = .ok (.iaload, 1) := by decide +kernel
theorem dX7_goesOne_51 : decode cX7_goesOne 51 = .ok (.iload_n 1, 1) := by decide +kernel
theorem dX7_goesOne_52 : decode cX7_goesOne 52 = .ok (.if_icmp .ne 8, 3) := by decide +kernel
theorem dX7_goesOne_55 : decode cX7_goesOne 55 = .ok (.aload_n 0, 1) := by decide +kernel
theorem dX7_goesOne_56 : decode cX7_goesOne 56 = .ok (.iload_n 3, 1) := by decide +kernel
theorem dX7_goesOne_57 : decode cX7_goesOne 57 = .ok (.invokevirtual 317, 3) := by decide +kernel
theorem dX7_goesOne_60 : decode cX7_goesOne 60 = .ok (.iinc 3 (-1), 3) := by decide +kernel
theorem dX7_goesOne_63 : decode cX7_goesOne 63 = .ok (.goto (-25), 3) := by decide +kernel
theorem dX7_goesOne_66 : decode cX7_goesOne 66 = .ok (.aload_n 0, 1) := by decide +kernel
theorem dX7_goesOne_67 : decode cX7_goesOne 67 = .ok (.iload_n 1, 1) := by decide +kernel
theorem dX7_goesOne_68 : decode cX7_goesOne 68 = .ok (.invokevirtual 320, 3) := by decide +kernel
theorem dX7_goesOne_71 : decode cX7_goesOne 71 = .ok (.aload_n 0, 1) := by decide +kernel
theorem dX7_goesOne_72 : decode cX7_goesOne 72 = .ok (.iconst 0, 1) := by decide +kernel
theorem dX7_goesOne_73 : decode cX7_goesOne 73 = .ok (.invokevirtual 129, 3) := by decide +kernel
theorem dX7_goesOne_76 : decode cX7_goesOne 76 = .ok (.invokestatic 154, 3) := by decide +kernel
theorem dX7_goesOne_79 : decode cX7_goesOne 79 = .ok (.ireturn, 1) := by decide +kernel
theorem dX7_goes_0 : decode cX7_goes 0 = .ok (.aload_n 0, 1) := by decide +kernel
theorem dX7_goes_1 : decode cX7_goes 1 = .ok (.iconst 0, 1) := by decide +kernel
theorem dX7_goes_2 : decode cX7_goes 2 = .ok (.putfield 1, 3) := by decide +kernel
theorem dX7_goes_5 : decode cX7_goes 5 = .ok (.aload_n 0, 1) := by decide +kernel
theorem dX7_goes_6 : decode cX7_goes 6 = .ok (.iconst 0, 1) := by decide +kernel
theorem dX7_goes_7 : decode cX7_goes 7 = .ok (.iconst 3, 1) := by decide +kernel
theorem dX7_goes_8 : decode cX7_goes 8 = .ok (.invokevirtual 120, 3) := by decide +kernel
theorem dX7_goes_11 : decode cX7_goes 11 = .ok (.aload_n 0, 1) := by decide +kernel
theorem dX7_goes_12 : decode cX7_goes 12 = .ok (.aload_n 0, 1) := by decide +kernel
theorem dX7_goes_13 : decode cX7_goes 13 = .ok (.iload_n 1, 1) := by decide +kernel
theorem dX7_goes_14 : decode cX7_goes 14 = .ok (.iload_n 2, 1) := by decide +kernel
theorem dX7_goes_15 : decode cX7_goes 15 = .ok (.invokevirtual 323, 3) := by decide +kernel
theorem dX7_goes_18 : decode cX7_goes 18 = .ok (.invokevirtual 213, 3) := by decide +kernel
theorem dX7_goes_21 : decode cX7_goes 21 = .ok (.ireturn, 1) := by decide +kernel
theorem dX7_findsOver_0 : decode cX7_findsOver 0 = .ok (.aload_n 0, 1) := by decide +kernel
theorem dX7_findsOver_1 : decode cX7_findsOver 1 = .ok (.iconst 0, 1) := by decide +kernel
theorem dX7_findsOver_2 : decode cX7_findsOver 2 = .ok (.iload_n 1, 1) := by decide +kernel
theorem dX7_findsOver_3 : decode cX7_findsOver 3 = .ok (.iload_n 2, 1) := by decide +kernel
theorem dX7_findsOver_4 : decode cX7_findsOver 4 = .ok (.iconst 1, 1) := by decide +kernel
theorem dX7_findsOver_5 : decode cX7_findsOver 5 = .ok (.invokevirtual 228, 3) := by decide +kernel
theorem dX7_findsOver_8 : decode cX7_findsOver 8 = .ok (.ifCond .ne 14, 3) := by decide +kernel
theorem dX7_findsOver_11 : decode cX7_findsOver 11 = .ok (.aload_n 0, 1) := by decide +kernel
theorem dX7_findsOver_12 : decode cX7_findsOver 12 = .ok (.iconst 0, 1) := by decide +kernel
theorem dX7_findsOver_13 : decode cX7_findsOver 13 = .ok (.iload_n 2, 1) := by decide +kernel
theorem dX7_findsOver_14 : decode cX7_findsOver 14 = .ok (.iload_n 1, 1) := by decide +kernel
theorem dX7_findsOver_15 : decode cX7_findsOver 15 = .ok (.iconst 1, 1) := by decide +kernel
theorem dX7_findsOver_16 : decode cX7_findsOver 16 = .ok (.invokevirtual 228, 3) := by decide +kernel
theorem dX7_findsOver_19 : decode cX7_findsOver 19 = .ok (.ifCond .eq 7, 3) := by decide +kernel
theorem dX7_findsOver_22 : decode cX7_findsOver 22 = .ok (.iconst 1, 1) := by decide +kernel
theorem dX7_findsOver_23 : decode cX7_findsOver 23 = .ok (.goto 4, 3) := by decide +kernel
theorem dX7_findsOver_26 : decode cX7_findsOver 26 = .ok (.iconst 0, 1) := by decide +kernel
theorem dX7_findsOver_27 : decode cX7_findsOver 27 = .ok (.ireturn, 1) := by decide +kernel
theorem dX7_takesLabels_0 : decode cX7_takesLabels 0 = .ok (.aload_n 0, 1) := by decide +kernel
theorem dX7_takesLabels_1 : decode cX7_takesLabels 1 = .ok (.iload_n 2, 1) := by decide +kernel
theorem dX7_takesLabels_2 : decode cX7_takesLabels 2 = .ok (.invokevirtual 216, 3) := by decide +kernel
theorem dX7_takesLabels_5 : decode cX7_takesLabels 5 = .ok (.istore_n 3, 1) := by decide +kernel
theorem dX7_takesLabels_6 : decode cX7_takesLabels 6 = .ok (.iconst 0, 1) := by decide +kernel
theorem dX7_takesLabels_7 : decode cX7_takesLabels 7 = .ok (.istore 4, 2) := by decide +kernel
theorem dX7_takesLabels_9 : decode cX7_takesLabels 9 = .ok (.iload_n 3, 1) := by decide +kernel
theorem dX7_takesLabels_10 : decode cX7_takesLabels 10 = .ok (.ifCond .le 54, 3) := by decide +kernel
theorem dX7_takesLabels_13 : decode cX7_takesLabels 13 = .ok (.aload_n 0, 1) := by decide +kernel
theorem dX7_takesLabels_14 : decode cX7_takesLabels 14 = .ok (.getfield 71, 3) := by decide +kernel
theorem dX7_takesLabels_17 : decode cX7_takesLabels 17 = .ok (.bipush 27, 2) := by decide +kernel
theorem dX7_takesLabels_19 : decode cX7_takesLabels 19 = .ok (.iload 4, 2) := by decide +kernel
theorem dX7_takesLabels_21 : decode cX7_takesLabels 21 = .ok (.iadd, 1) := by decide +kernel
theorem dX7_takesLabels_22 : decode cX7_takesLabels 22 = .ok (.iaload, 1) := by decide +kernel
theorem dX7_takesLabels_23 : decode cX7_takesLabels 23 = .ok (.iload_n 2, 1) := by decide +kernel
theorem dX7_takesLabels_24 : decode cX7_takesLabels 24 = .ok (.if_icmp .eq 9, 3) := by decide +kernel
theorem dX7_takesLabels_27 : decode cX7_takesLabels 27 = .ok (.iinc 4 1, 3) := by decide +kernel
theorem dX7_takesLabels_30 : decode cX7_takesLabels 30 = .ok (.goto (-21), 3) := by decide +kernel
theorem dX7_takesLabels_33 : decode cX7_takesLabels 33 = .ok (.aload_n 0, 1) := by decide +kernel
theorem dX7_takesLabels_34 : decode cX7_takesLabels 34 = .ok (.getfield 71, 3) := by decide +kernel
theorem dX7_takesLabels_37 : decode cX7_takesLabels 37 = .ok (.bipush 67, 2) := by decide +kernel
theorem dX7_takesLabels_39 : decode cX7_takesLabels 39 = .ok (.iload 4, 2) := by decide +kernel
theorem dX7_takesLabels_41 : decode cX7_takesLabels 41 = .ok (.iadd, 1) := by decide +kernel
theorem dX7_takesLabels_42 : decode cX7_takesLabels 42 = .ok (.iaload, 1) := by decide +kernel
theorem dX7_takesLabels_43 : decode cX7_takesLabels 43 = .ok (.istore 5, 2) := by decide +kernel
theorem dX7_takesLabels_45 : decode cX7_takesLabels 45 = .ok (.aload_n 0, 1) := by decide +kernel
theorem dX7_takesLabels_46 : decode cX7_takesLabels 46 = .ok (.iload 4, 2) := by decide +kernel
theorem dX7_takesLabels_48 : decode cX7_takesLabels 48 = .ok (.invokevirtual 317, 3) := by decide +kernel
theorem dX7_takesLabels_51 : decode cX7_takesLabels 51 = .ok (.aload_n 0, 1) := by decide +kernel
theorem dX7_takesLabels_52 : decode cX7_takesLabels 52 = .ok (.iload_n 1, 1) := by decide +kernel
theorem dX7_takesLabels_53 : decode cX7_takesLabels 53 = .ok (.iload 5, 2) := by decide +kernel
theorem dX7_takesLabels_55 : decode cX7_takesLabels 55 = .ok (.invokevirtual 210, 3) := by decide +kernel
theorem dX7_takesLabels_58 : decode cX7_takesLabels 58 = .ok (.iinc 3 (-1), 3) := by decide +kernel
theorem dX7_takesLabels_61 : decode cX7_takesLabels 61 = .ok (.goto (-52), 3) := by decide +kernel
theorem dX7_takesLabels_64 : decode cX7_takesLabels 64 = .ok (.return_, 1) := by decide +kernel
theorem dX7_mergesOne_0 : decode cX7_mergesOne 0 = .ok (.aload_n 0, 1) := by decide +kernel
theorem dX7_mergesOne_1 : decode cX7_mergesOne 1 = .ok (.iload_n 1, 1) := by decide +kernel
theorem dX7_mergesOne_2 : decode cX7_mergesOne 2 = .ok (.iload_n 2, 1) := by decide +kernel
theorem dX7_mergesOne_3 : decode cX7_mergesOne 3 = .ok (.invokevirtual 219, 3) := by decide +kernel
theorem dX7_mergesOne_6 : decode cX7_mergesOne 6 = .ok (.ifCond .ne 5, 3) := by decide +kernel
theorem dX7_mergesOne_9 : decode cX7_mergesOne 9 = .ok (.iconst (-1), 1) := by decide +kernel
theorem dX7_mergesOne_10 : decode cX7_mergesOne 10 = .ok (.ireturn, 1) := by decide +kernel
theorem dX7_mergesOne_11 : decode cX7_mergesOne 11 = .ok (.aload_n 0, 1) := by decide +kernel
theorem dX7_mergesOne_12 : decode cX7_mergesOne 12 = .ok (.iload_n 1, 1) := by decide +kernel
theorem dX7_mergesOne_13 : decode cX7_mergesOne 13 = .ok (.iload_n 2, 1) := by decide +kernel
theorem dX7_mergesOne_14 : decode cX7_mergesOne 14 = .ok (.invokevirtual 326, 3) := by decide +kernel
theorem dX7_mergesOne_17 : decode cX7_mergesOne 17 = .ok (.ifCond .eq 6, 3) := by decide +kernel
theorem dX7_mergesOne_20 : decode cX7_mergesOne 20 = .ok (.bipush (-4), 2) := by decide +kernel
theorem dX7_mergesOne_22 : decode cX7_mergesOne 22 = .ok (.ireturn, 1) := by decide +kernel
theorem dX7_mergesOne_23 : decode cX7_mergesOne 23 = .ok (.aload_n 0, 1) := by decide +kernel
theorem dX7_mergesOne_24 : decode cX7_mergesOne 24 = .ok (.iconst 0, 1) := by decide +kernel
theorem dX7_mergesOne_25 : decode cX7_mergesOne 25 = .ok (.iload_n 2, 1) := by decide +kernel
theorem dX7_mergesOne_26 : decode cX7_mergesOne 26 = .ok (.invokevirtual 143, 3) := by decide +kernel
theorem dX7_mergesOne_29 : decode cX7_mergesOne 29 = .ok (.iconst 1, 1) := by decide +kernel
theorem dX7_mergesOne_30 : decode cX7_mergesOne 30 = .ok (.iload_n 1, 1) := by decide +kernel
theorem dX7_mergesOne_31 : decode cX7_mergesOne 31 = .ok (.ishl, 1) := by decide +kernel
theorem dX7_mergesOne_32 : decode cX7_mergesOne 32 = .ok (.iconst (-1), 1) := by decide +kernel
theorem dX7_mergesOne_33 : decode cX7_mergesOne 33 = .ok (.ixor, 1) := by decide +kernel
theorem dX7_mergesOne_34 : decode cX7_mergesOne 34 = .ok (.iand, 1) := by decide +kernel
theorem dX7_mergesOne_35 : decode cX7_mergesOne 35 = .ok (.istore_n 3, 1) := by decide +kernel
theorem dX7_mergesOne_36 : decode cX7_mergesOne 36 = .ok (.aload_n 0, 1) := by decide +kernel
theorem dX7_mergesOne_37 : decode cX7_mergesOne 37 = .ok (.iconst 0, 1) := by decide +kernel
theorem dX7_mergesOne_38 : decode cX7_mergesOne 38 = .ok (.iload_n 2, 1) := by decide +kernel
theorem dX7_mergesOne_39 : decode cX7_mergesOne 39 = .ok (.invokevirtual 147, 3) := by decide +kernel
theorem dX7_mergesOne_42 : decode cX7_mergesOne 42 = .ok (.iconst 1, 1) := by decide +kernel
theorem dX7_mergesOne_43 : decode cX7_mergesOne 43 = .ok (.iload_n 1, 1) := by decide +kernel
theorem dX7_mergesOne_44 : decode cX7_mergesOne 44 = .ok (.ishl, 1) := by decide +kernel
theorem dX7_mergesOne_45 : decode cX7_mergesOne 45 = .ok (.iconst (-1), 1) := by decide +kernel
theorem dX7_mergesOne_46 : decode cX7_mergesOne 46 = .ok (.ixor, 1) := by decide +kernel
theorem dX7_mergesOne_47 : decode cX7_mergesOne 47 = .ok (.iand, 1) := by decide +kernel
theorem dX7_mergesOne_48 : decode cX7_mergesOne 48 = .ok (.istore 4, 2) := by decide +kernel
theorem dX7_mergesOne_50 : decode cX7_mergesOne 50 = .ok (.aload_n 0, 1) := by decide +kernel
theorem dX7_mergesOne_51 : decode cX7_mergesOne 51 = .ok (.getfield 71, 3) := by decide +kernel
theorem dX7_mergesOne_54 : decode cX7_mergesOne 54 = .ok (.sipush 131, 3) := by decide +kernel
theorem dX7_mergesOne_57 : decode cX7_mergesOne 57 = .ok (.iload_n 1, 1) := by decide +kernel
theorem dX7_mergesOne_58 : decode cX7_mergesOne 58 = .ok (.iadd, 1) := by decide +kernel
theorem dX7_mergesOne_59 : decode cX7_mergesOne 59 = .ok (.dup2, 1) := by decide +kernel
theorem dX7_mergesOne_60 : decode cX7_mergesOne 60 = .ok (.iaload, 1) := by decide +kernel
theorem dX7_mergesOne_61 : decode cX7_mergesOne 61 = .ok (.aload_n 0, 1) := by decide +kernel
theorem dX7_mergesOne_62 : decode cX7_mergesOne 62 = .ok (.getfield 71, 3) := by decide +kernel
theorem dX7_mergesOne_65 : decode cX7_mergesOne 65 = .ok (.sipush 131, 3) := by decide +kernel
theorem dX7_mergesOne_68 : decode cX7_mergesOne 68 = .ok (.iload_n 2, 1) := by decide +kernel
theorem dX7_mergesOne_69 : decode cX7_mergesOne 69 = .ok (.iadd, 1) := by decide +kernel
theorem dX7_mergesOne_70 : decode cX7_mergesOne 70 = .ok (.iaload, 1) := by decide +kernel
theorem dX7_mergesOne_71 : decode cX7_mergesOne 71 = .ok (.ior, 1) := by decide +kernel
theorem dX7_mergesOne_72 : decode cX7_mergesOne 72 = .ok (.iastore, 1) := by decide +kernel
theorem dX7_mergesOne_73 : decode cX7_mergesOne 73 = .ok (.aload_n 0, 1) := by decide +kernel
theorem dX7_mergesOne_74 : decode cX7_mergesOne 74 = .ok (.getfield 71, 3) := by decide +kernel
theorem dX7_mergesOne_77 : decode cX7_mergesOne 77 = .ok (.sipush 155, 3) := by decide +kernel
theorem dX7_mergesOne_80 : decode cX7_mergesOne 80 = .ok (.iload_n 1, 1) := by decide +kernel
theorem dX7_mergesOne_81 : decode cX7_mergesOne 81 = .ok (.iadd, 1) := by decide +kernel
theorem dX7_mergesOne_82 : decode cX7_mergesOne 82 = .ok (.dup2, 1) := by decide +kernel
theorem dX7_mergesOne_83 : decode cX7_mergesOne 83 = .ok (.iaload, 1) := by decide +kernel
theorem dX7_mergesOne_84 : decode cX7_mergesOne 84 = .ok (.aload_n 0, 1) := by decide +kernel
theorem dX7_mergesOne_85 : decode cX7_mergesOne 85 = .ok (.getfield 71, 3) := by decide +kernel
theorem dX7_mergesOne_88 : decode cX7_mergesOne 88 = .ok (.sipush 155, 3) := by decide +kernel
theorem dX7_mergesOne_91 : decode cX7_mergesOne 91 = .ok (.iload_n 2, 1) := by decide +kernel
theorem dX7_mergesOne_92 : decode cX7_mergesOne 92 = .ok (.iadd, 1) := by decide +kernel
theorem dX7_mergesOne_93 : decode cX7_mergesOne 93 = .ok (.iaload, 1) := by decide +kernel
theorem dX7_mergesOne_94 : decode cX7_mergesOne 94 = .ok (.ior, 1) := by decide +kernel
theorem dX7_mergesOne_95 : decode cX7_mergesOne 95 = .ok (.iastore, 1) := by decide +kernel
theorem dX7_mergesOne_96 : decode cX7_mergesOne 96 = .ok (.aload_n 0, 1) := by decide +kernel
theorem dX7_mergesOne_97 : decode cX7_mergesOne 97 = .ok (.iload_n 1, 1) := by decide +kernel
theorem dX7_mergesOne_98 : decode cX7_mergesOne 98 = .ok (.iload_n 2, 1) := by decide +kernel
theorem dX7_mergesOne_99 : decode cX7_mergesOne 99 = .ok (.invokevirtual 329, 3) := by decide +kernel
theorem dX7_mergesOne_102 : decode cX7_mergesOne 102 = .ok (.aload_n 0, 1) := by decide +kernel
theorem dX7_mergesOne_103 : decode cX7_mergesOne 103 = .ok (.iload_n 2, 1) := by decide +kernel
theorem dX7_mergesOne_104 : decode cX7_mergesOne 104 = .ok (.invokevirtual 320, 3) := by decide +kernel
theorem dX7_mergesOne_107 : decode cX7_mergesOne 107 = .ok (.iconst 0, 1) := by decide +kernel
theorem dX7_mergesOne_108 : decode cX7_mergesOne 108 = .ok (.istore 5, 2) := by decide +kernel
theorem dX7_mergesOne_110 : decode cX7_mergesOne 110 = .ok (.iload 5, 2) := by decide +kernel
theorem dX7_mergesOne_112 : decode cX7_mergesOne 112 = .ok (.bipush 24, 2) := by decide +kernel
theorem dX7_mergesOne_114 : decode cX7_mergesOne 114 = .ok (.if_icmp .ge 27, 3) := by decide +kernel
theorem dX7_mergesOne_117 : decode cX7_mergesOne 117 = .ok (.iload_n 3, 1) := by decide +kernel
theorem dX7_mergesOne_118 : decode cX7_mergesOne 118 = .ok (.iload 5, 2) := by decide +kernel
theorem dX7_mergesOne_120 : decode cX7_mergesOne 120 = .ok (.invokestatic 133, 3) := by decide +kernel
theorem dX7_mergesOne_123 : decode cX7_mergesOne 123 = .ok (.ifCond .eq 12, 3) := by decide +kernel
theorem dX7_mergesOne_126 : decode cX7_mergesOne 126 = .ok (.aload_n 0, 1) := by decide +kernel
theorem dX7_mergesOne_127 : decode cX7_mergesOne 127 = .ok (.iconst 0, 1) := by decide +kernel
theorem dX7_mergesOne_128 : decode cX7_mergesOne 128 = .ok (.iload_n 1, 1) := by decide +kernel
theorem dX7_mergesOne_129 : decode cX7_mergesOne 129 = .ok (.iload 5, 2) := by decide +kernel
theorem dX7_mergesOne_131 : decode cX7_mergesOne 131 = .ok (.invokevirtual 222, 3) := by decide +kernel
theorem dX7_mergesOne_134 : decode cX7_mergesOne 134 = .ok (.pop, 1) := by decide +kernel
theorem dX7_mergesOne_135 : decode cX7_mergesOne 135 = .ok (.iinc 5 1, 3) := by decide +kernel
theorem dX7_mergesOne_138 : decode cX7_mergesOne 138 = .ok (.goto (-28), 3) := by decide +kernel
theorem dX7_mergesOne_141 : decode cX7_mergesOne 141 = .ok (.iconst 0, 1) := by decide +kernel
theorem dX7_mergesOne_142 : decode cX7_mergesOne 142 = .ok (.istore 5, 2) := by decide +kernel
theorem dX7_mergesOne_144 : decode cX7_mergesOne 144 = .ok (.iload 5, 2) := by decide +kernel
theorem dX7_mergesOne_146 : decode cX7_mergesOne 146 = .ok (.bipush 24, 2) := by decide +kernel
theorem dX7_mergesOne_148 : decode cX7_mergesOne 148 = .ok (.if_icmp .ge 28, 3) := by decide +kernel
theorem dX7_mergesOne_151 : decode cX7_mergesOne 151 = .ok (.iload 4, 2) := by decide +kernel
theorem dX7_mergesOne_153 : decode cX7_mergesOne 153 = .ok (.iload 5, 2) := by decide +kernel
theorem dX7_mergesOne_155 : decode cX7_mergesOne 155 = .ok (.invokestatic 133, 3) := by decide +kernel
theorem dX7_mergesOne_158 : decode cX7_mergesOne 158 = .ok (.ifCond .eq 12, 3) := by decide +kernel
theorem dX7_mergesOne_161 : decode cX7_mergesOne 161 = .ok (.aload_n 0, 1) := by decide +kernel
theorem dX7_mergesOne_162 : decode cX7_mergesOne 162 = .ok (.iconst 0, 1) := by decide +kernel
theorem dX7_mergesOne_163 : decode cX7_mergesOne 163 = .ok (.iload 5, 2) := by decide +kernel
theorem dX7_mergesOne_165 : decode cX7_mergesOne 165 = .ok (.iload_n 1, 1) := by decide +kernel
theorem dX7_mergesOne_166 : decode cX7_mergesOne 166 = .ok (.invokevirtual 222, 3) := by decide +kernel
theorem dX7_mergesOne_169 : decode cX7_mergesOne 169 = .ok (.pop, 1) := by decide +kernel
theorem dX7_mergesOne_170 : decode cX7_mergesOne 170 = .ok (.iinc 5 1, 3) := by decide +kernel
theorem dX7_mergesOne_173 : decode cX7_mergesOne 173 = .ok (.goto (-29), 3) := by decide +kernel
theorem dX7_mergesOne_176 : decode cX7_mergesOne 176 = .ok (.aload_n 0, 1) := by decide +kernel
theorem dX7_mergesOne_177 : decode cX7_mergesOne 177 = .ok (.iconst 0, 1) := by decide +kernel
theorem dX7_mergesOne_178 : decode cX7_mergesOne 178 = .ok (.invokevirtual 129, 3) := by decide +kernel
theorem dX7_mergesOne_181 : decode cX7_mergesOne 181 = .ok (.invokestatic 154, 3) := by decide +kernel
theorem dX7_mergesOne_184 : decode cX7_mergesOne 184 = .ok (.ireturn, 1) := by decide +kernel
theorem dX7_merges_0 : decode cX7_merges 0 = .ok (.aload_n 0, 1) := by decide +kernel
theorem dX7_merges_1 : decode cX7_merges 1 = .ok (.iconst 0, 1) := by decide +kernel
theorem dX7_merges_2 : decode cX7_merges 2 = .ok (.putfield 1, 3) := by decide +kernel
theorem dX7_merges_5 : decode cX7_merges 5 = .ok (.aload_n 0, 1) := by decide +kernel
theorem dX7_merges_6 : decode cX7_merges 6 = .ok (.iconst 0, 1) := by decide +kernel
theorem dX7_merges_7 : decode cX7_merges 7 = .ok (.iconst 3, 1) := by decide +kernel
theorem dX7_merges_8 : decode cX7_merges 8 = .ok (.invokevirtual 120, 3) := by decide +kernel
theorem dX7_merges_11 : decode cX7_merges 11 = .ok (.aload_n 0, 1) := by decide +kernel
theorem dX7_merges_12 : decode cX7_merges 12 = .ok (.iload_n 1, 1) := by decide +kernel
theorem dX7_merges_13 : decode cX7_merges 13 = .ok (.iload_n 2, 1) := by decide +kernel
theorem dX7_merges_14 : decode cX7_merges 14 = .ok (.invokevirtual 332, 3) := by decide +kernel
theorem dX7_merges_17 : decode cX7_merges 17 = .ok (.istore_n 3, 1) := by decide +kernel
theorem dX7_merges_18 : decode cX7_merges 18 = .ok (.iload_n 3, 1) := by decide +kernel
theorem dX7_merges_19 : decode cX7_merges 19 = .ok (.bipush (-4), 2) := by decide +kernel
theorem dX7_merges_21 : decode cX7_merges 21 = .ok (.if_icmp .ne 7, 3) := by decide +kernel
theorem dX7_merges_24 : decode cX7_merges 24 = .ok (.aload_n 0, 1) := by decide +kernel
theorem dX7_merges_25 : decode cX7_merges 25 = .ok (.invokevirtual 232, 3) := by decide +kernel
theorem dX7_merges_28 : decode cX7_merges 28 = .ok (.aload_n 0, 1) := by decide +kernel
theorem dX7_merges_29 : decode cX7_merges 29 = .ok (.iload_n 3, 1) := by decide +kernel
theorem dX7_merges_30 : decode cX7_merges 30 = .ok (.invokevirtual 213, 3) := by decide +kernel
theorem dX7_merges_33 : decode cX7_merges 33 = .ok (.ireturn, 1) := by decide +kernel
theorem dX7_thinsOne_0 : decode cX7_thinsOne 0 = .ok (.aload_n 0, 1) := by decide +kernel
theorem dX7_thinsOne_1 : decode cX7_thinsOne 1 = .ok (.invokevirtual 266, 3) := by decide +kernel
theorem dX7_thinsOne_4 : decode cX7_thinsOne 4 = .ok (.istore_n 1, 1) := by decide +kernel
theorem dX7_thinsOne_5 : decode cX7_thinsOne 5 = .ok (.iconst 0, 1) := by decide +kernel
theorem dX7_thinsOne_6 : decode cX7_thinsOne 6 = .ok (.istore_n 2, 1) := by decide +kernel
theorem dX7_thinsOne_7 : decode cX7_thinsOne 7 = .ok (.iload_n 2, 1) := by decide +kernel
theorem dX7_thinsOne_8 : decode cX7_thinsOne 8 = .ok (.bipush 24, 2) := by decide +kernel
theorem dX7_thinsOne_10 : decode cX7_thinsOne 10 = .ok (.if_icmp .ge 29, 3) := by decide +kernel
theorem dX7_thinsOne_13 : decode cX7_thinsOne 13 = .ok (.aload_n 0, 1) := by decide +kernel
theorem dX7_thinsOne_14 : decode cX7_thinsOne 14 = .ok (.getfield 71, 3) := by decide +kernel
theorem dX7_thinsOne_17 : decode cX7_thinsOne 17 = .ok (.bipush 107, 2) := by decide +kernel
theorem dX7_thinsOne_19 : decode cX7_thinsOne 19 = .ok (.iload_n 2, 1) := by decide +kernel
theorem dX7_thinsOne_20 : decode cX7_thinsOne 20 = .ok (.iadd, 1) := by decide +kernel
theorem dX7_thinsOne_21 : decode cX7_thinsOne 21 = .ok (.dup2, 1) := by decide +kernel
theorem dX7_thinsOne_22 : decode cX7_thinsOne 22 = .ok (.iaload, 1) := by decide +kernel
theorem dX7_thinsOne_23 : decode cX7_thinsOne 23 = .ok (.aload_n 0, 1) := by decide +kernel
theorem dX7_thinsOne_24 : decode cX7_thinsOne 24 = .ok (.getfield 98, 3) := by decide +kernel
theorem dX7_thinsOne_27 : decode cX7_thinsOne 27 = .ok (.iload_n 2, 1) := by decide +kernel
theorem dX7_thinsOne_28 : decode cX7_thinsOne 28 = .ok (.iaload, 1) := by decide +kernel
theorem dX7_thinsOne_29 : decode cX7_thinsOne 29 = .ok (.iconst (-1), 1) := by decide +kernel
theorem dX7_thinsOne_30 : decode cX7_thinsOne 30 = .ok (.ixor, 1) := by decide +kernel
theorem dX7_thinsOne_31 : decode cX7_thinsOne 31 = .ok (.iand, 1) := by decide +kernel
theorem dX7_thinsOne_32 : decode cX7_thinsOne 32 = .ok (.iastore, 1) := by decide +kernel
theorem dX7_thinsOne_33 : decode cX7_thinsOne 33 = .ok (.iinc 2 1, 3) := by decide +kernel
theorem dX7_thinsOne_36 : decode cX7_thinsOne 36 = .ok (.goto (-29), 3) := by decide +kernel
theorem dX7_thinsOne_39 : decode cX7_thinsOne 39 = .ok (.iload_n 1, 1) := by decide +kernel
theorem dX7_thinsOne_40 : decode cX7_thinsOne 40 = .ok (.ifCond .ne 8, 3) := by decide +kernel
theorem dX7_thinsOne_43 : decode cX7_thinsOne 43 = .ok (.bipush (-2), 2) := by decide +kernel
theorem dX7_thinsOne_45 : decode cX7_thinsOne 45 = .ok (.goto 4, 3) := by decide +kernel
theorem dX7_thinsOne_48 : decode cX7_thinsOne 48 = .ok (.iload_n 1, 1) := by decide +kernel
theorem dX7_thinsOne_49 : decode cX7_thinsOne 49 = .ok (.ireturn, 1) := by decide +kernel
theorem dX7_thins_0 : decode cX7_thins 0 = .ok (.aload_n 0, 1) := by decide +kernel
theorem dX7_thins_1 : decode cX7_thins 1 = .ok (.iconst 0, 1) := by decide +kernel
theorem dX7_thins_2 : decode cX7_thins 2 = .ok (.putfield 1, 3) := by decide +kernel
theorem dX7_thins_5 : decode cX7_thins 5 = .ok (.aload_n 0, 1) := by decide +kernel
theorem dX7_thins_6 : decode cX7_thins 6 = .ok (.iconst 0, 1) := by decide +kernel
theorem dX7_thins_7 : decode cX7_thins 7 = .ok (.iconst 3, 1) := by decide +kernel
theorem dX7_thins_8 : decode cX7_thins 8 = .ok (.invokevirtual 120, 3) := by decide +kernel
theorem dX7_thins_11 : decode cX7_thins 11 = .ok (.aload_n 0, 1) := by decide +kernel
theorem dX7_thins_12 : decode cX7_thins 12 = .ok (.aload_n 0, 1) := by decide +kernel
theorem dX7_thins_13 : decode cX7_thins 13 = .ok (.invokevirtual 335, 3) := by decide +kernel
theorem dX7_thins_16 : decode cX7_thins 16 = .ok (.invokevirtual 213, 3) := by decide +kernel
theorem dX7_thins_19 : decode cX7_thins 19 = .ok (.ireturn, 1) := by decide +kernel
theorem dX7_readsAct_0 : decode cX7_readsAct 0 = .ok (.aload_n 0, 1) := by decide +kernel
theorem dX7_readsAct_1 : decode cX7_readsAct 1 = .ok (.getfield 104, 3) := by decide +kernel
theorem dX7_readsAct_4 : decode cX7_readsAct 4 = .ok (.iload_n 1, 1) := by decide +kernel
theorem dX7_readsAct_5 : decode cX7_readsAct 5 = .ok (.aload_n 0, 1) := by decide +kernel
theorem dX7_readsAct_6 : decode cX7_readsAct 6 = .ok (.ldc_w 338, 3) := by decide +kernel
theorem dX7_readsAct_9 : decode cX7_readsAct 9 = .ok (.invokevirtual 51, 3) := by decide +kernel
theorem dX7_readsAct_12 : decode cX7_readsAct 12 = .ok (.iastore, 1) := by decide +kernel
theorem dX7_readsAct_13 : decode cX7_readsAct 13 = .ok (.aload_n 0, 1) := by decide +kernel
theorem dX7_readsAct_14 : decode cX7_readsAct 14 = .ok (.getfield 107, 3) := by decide +kernel
theorem dX7_readsAct_17 : decode cX7_readsAct 17 = .ok (.iload_n 1, 1) := by decide +kernel
theorem dX7_readsAct_18 : decode cX7_readsAct 18 = .ok (.aload_n 0, 1) := by decide +kernel
theorem dX7_readsAct_19 : decode cX7_readsAct 19 = .ok (.getfield 104, 3) := by decide +kernel
theorem dX7_readsAct_22 : decode cX7_readsAct 22 = .ok (.iload_n 1, 1) := by decide +kernel
theorem dX7_readsAct_23 : decode cX7_readsAct 23 = .ok (.iaload, 1) := by decide +kernel
theorem dX7_readsAct_24 : decode cX7_readsAct 24 = .ok (.ifCond .ge 7, 3) := by decide +kernel
theorem dX7_readsAct_27 : decode cX7_readsAct 27 = .ok (.iconst (-1), 1) := by decide +kernel
theorem dX7_readsAct_28 : decode cX7_readsAct 28 = .ok (.goto 21, 3) := by decide +kernel
theorem dX7_readsAct_31 : decode cX7_readsAct 31 = .ok (.aload_n 0, 1) := by decide +kernel
theorem dX7_readsAct_32 : decode cX7_readsAct 32 = .ok (.getfield 104, 3) := by decide +kernel
theorem dX7_readsAct_35 : decode cX7_readsAct 35 = .ok (.iload_n 1, 1) := by decide +kernel
theorem dX7_readsAct_36 : decode cX7_readsAct 36 = .ok (.iaload, 1) := by decide +kernel
theorem dX7_readsAct_37 : decode cX7_readsAct 37 = .ok (.iconst 5, 1) := by decide +kernel
theorem dX7_readsAct_38 : decode cX7_readsAct 38 = .ok (.if_icmp .ne 7, 3) := by decide +kernel
theorem dX7_readsAct_41 : decode cX7_readsAct 41 = .ok (.iconst 0, 1) := by decide +kernel
theorem dX7_readsAct_42 : decode cX7_readsAct 42 = .ok (.goto 7, 3) := by decide +kernel
theorem dX7_readsAct_45 : decode cX7_readsAct 45 = .ok (.aload_n 0, 1) := by decide +kernel
theorem dX7_readsAct_46 : decode cX7_readsAct 46 = .ok (.invokevirtual 340, 3) := by decide +kernel
theorem dX7_readsAct_49 : decode cX7_readsAct 49 = .ok (.iastore, 1) := by decide +kernel
theorem dX7_readsAct_50 : decode cX7_readsAct 50 = .ok (.aload_n 0, 1) := by decide +kernel
theorem dX7_readsAct_51 : decode cX7_readsAct 51 = .ok (.getfield 110, 3) := by decide +kernel
theorem dX7_readsAct_54 : decode cX7_readsAct 54 = .ok (.iload_n 1, 1) := by decide +kernel
theorem dX7_readsAct_55 : decode cX7_readsAct 55 = .ok (.aload_n 0, 1) := by decide +kernel
theorem dX7_readsAct_56 : decode cX7_readsAct 56 = .ok (.getfield 107, 3) := by decide +kernel
theorem dX7_readsAct_59 : decode cX7_readsAct 59 = .ok (.iload_n 1, 1) := by decide +kernel
theorem dX7_readsAct_60 : decode cX7_readsAct 60 = .ok (.iaload, 1) := by decide +kernel
theorem dX7_readsAct_61 : decode cX7_readsAct 61 = .ok (.ifCond .ge 7, 3) := by decide +kernel
theorem dX7_readsAct_64 : decode cX7_readsAct 64 = .ok (.iconst (-1), 1) := by decide +kernel
theorem dX7_readsAct_65 : decode cX7_readsAct 65 = .ok (.goto 38, 3) := by decide +kernel
theorem dX7_readsAct_68 : decode cX7_readsAct 68 = .ok (.aload_n 0, 1) := by decide +kernel
theorem dX7_readsAct_69 : decode cX7_readsAct 69 = .ok (.getfield 104, 3) := by decide +kernel
theorem dX7_readsAct_72 : decode cX7_readsAct 72 = .ok (.iload_n 1, 1) := by decide +kernel
theorem dX7_readsAct_73 : decode cX7_readsAct 73 = .ok (.iaload, 1) := by decide +kernel
theorem dX7_readsAct_74 : decode cX7_readsAct 74 = .ok (.iconst 5, 1) := by decide +kernel
theorem dX7_readsAct_75 : decode cX7_readsAct 75 = .ok (.if_icmp .ne 7, 3) := by decide +kernel
theorem dX7_readsAct_78 : decode cX7_readsAct 78 = .ok (.iconst 0, 1) := by decide +kernel
theorem dX7_readsAct_79 : decode cX7_readsAct 79 = .ok (.goto 24, 3) := by decide +kernel
theorem dX7_readsAct_82 : decode cX7_readsAct 82 = .ok (.aload_n 0, 1) := by decide +kernel
theorem dX7_readsAct_83 : decode cX7_readsAct 83 = .ok (.getfield 104, 3) := by decide +kernel
theorem dX7_readsAct_86 : decode cX7_readsAct 86 = .ok (.iload_n 1, 1) := by decide +kernel
theorem dX7_readsAct_87 : decode cX7_readsAct 87 = .ok (.iaload, 1) := by decide +kernel
theorem dX7_readsAct_88 : decode cX7_readsAct 88 = .ok (.iconst 3, 1) := by decide +kernel
theorem dX7_readsAct_89 : decode cX7_readsAct 89 = .ok (.if_icmp .ne 10, 3) := by decide +kernel
theorem dX7_readsAct_92 : decode cX7_readsAct 92 = .ok (.aload_n 0, 1) := by decide +kernel
theorem dX7_readsAct_93 : decode cX7_readsAct 93 = .ok (.invokevirtual 55, 3) := by decide +kernel
theorem dX7_readsAct_96 : decode cX7_readsAct 96 = .ok (.goto 7, 3) := by decide +kernel
theorem dX7_readsAct_99 : decode cX7_readsAct 99 = .ok (.aload_n 0, 1) := by decide +kernel
theorem dX7_readsAct_100 : decode cX7_readsAct 100 = .ok (.invokevirtual 340, 3) := by decide +kernel
theorem dX7_readsAct_103 : decode cX7_readsAct 103 = .ok (.iastore, 1) := by decide +kernel
theorem dX7_readsAct_104 : decode cX7_readsAct 104 = .ok (.aload_n 0, 1) := by decide +kernel
theorem dX7_readsAct_105 : decode cX7_readsAct 105 = .ok (.getfield 110, 3) := by decide +kernel
theorem dX7_readsAct_108 : decode cX7_readsAct 108 = .ok (.iload_n 1, 1) := by decide +kernel
theorem dX7_readsAct_109 : decode cX7_readsAct 109 = .ok (.iaload, 1) := by decide +kernel
theorem dX7_readsAct_110 : decode cX7_readsAct 110 = .ok (.ifCond .lt 7, 3) := by decide +kernel
theorem dX7_readsAct_113 : decode cX7_readsAct 113 = .ok (.iconst 1, 1) := by decide +kernel
theorem dX7_readsAct_114 : decode cX7_readsAct 114 = .ok (.goto 4, 3) := by decide +kernel
theorem dX7_readsAct_117 : decode cX7_readsAct 117 = .ok (.iconst 0, 1) := by decide +kernel
theorem dX7_readsAct_118 : decode cX7_readsAct 118 = .ok (.ireturn, 1) := by decide +kernel
theorem dX7_doesAct_0 : decode cX7_doesAct 0 = .ok (.aload_n 0, 1) := by decide +kernel
theorem dX7_doesAct_1 : decode cX7_doesAct 1 = .ok (.getfield 104, 3) := by decide +kernel
theorem dX7_doesAct_4 : decode cX7_doesAct 4 = .ok (.iload_n 1, 1) := by decide +kernel
theorem dX7_doesAct_5 : decode cX7_doesAct 5 = .ok (.iaload, 1) := by decide +kernel
theorem dX7_doesAct_6 : decode cX7_doesAct 6 = .ok (.tableswitch 119 0 4 #[34, 51, 68, 85, 102], 34) := by decide +kernel
theorem dX7_doesAct_40 : decode cX7_doesAct 40 = .ok (.aload_n 0, 1) := by decide +kernel
theorem dX7_doesAct_41 : decode cX7_doesAct 41 = .ok (.aload_n 0, 1) := by decide +kernel
theorem dX7_doesAct_42 : decode cX7_doesAct 42 = .ok (.getfield 107, 3) := by decide +kernel
theorem dX7_doesAct_45 : decode cX7_doesAct 45 = .ok (.iload_n 1, 1) := by decide +kernel
theorem dX7_doesAct_46 : decode cX7_doesAct 46 = .ok (.iaload, 1) := by decide +kernel
theorem dX7_doesAct_47 : decode cX7_doesAct 47 = .ok (.aload_n 0, 1) := by decide +kernel
theorem dX7_doesAct_48 : decode cX7_doesAct 48 = .ok (.getfield 110, 3) := by decide +kernel
theorem dX7_doesAct_51 : decode cX7_doesAct 51 = .ok (.iload_n 1, 1) := by decide +kernel
theorem dX7_doesAct_52 : decode cX7_doesAct 52 = .ok (.iaload, 1) := by decide +kernel
theorem dX7_doesAct_53 : decode cX7_doesAct 53 = .ok (.invokevirtual 225, 3) := by decide +kernel
theorem dX7_doesAct_56 : decode cX7_doesAct 56 = .ok (.ireturn, 1) := by decide +kernel
theorem dX7_doesAct_57 : decode cX7_doesAct 57 = .ok (.aload_n 0, 1) := by decide +kernel
theorem dX7_doesAct_58 : decode cX7_doesAct 58 = .ok (.aload_n 0, 1) := by decide +kernel
theorem dX7_doesAct_59 : decode cX7_doesAct 59 = .ok (.getfield 107, 3) := by decide +kernel
theorem dX7_doesAct_62 : decode cX7_doesAct 62 = .ok (.iload_n 1, 1) := by decide +kernel
theorem dX7_doesAct_63 : decode cX7_doesAct 63 = .ok (.iaload, 1) := by decide +kernel
theorem dX7_doesAct_64 : decode cX7_doesAct 64 = .ok (.aload_n 0, 1) := by decide +kernel
theorem dX7_doesAct_65 : decode cX7_doesAct 65 = .ok (.getfield 110, 3) := by decide +kernel
theorem dX7_doesAct_68 : decode cX7_doesAct 68 = .ok (.iload_n 1, 1) := by decide +kernel
theorem dX7_doesAct_69 : decode cX7_doesAct 69 = .ok (.iaload, 1) := by decide +kernel
theorem dX7_doesAct_70 : decode cX7_doesAct 70 = .ok (.invokevirtual 238, 3) := by decide +kernel
theorem dX7_doesAct_73 : decode cX7_doesAct 73 = .ok (.ireturn, 1) := by decide +kernel
theorem dX7_doesAct_74 : decode cX7_doesAct 74 = .ok (.aload_n 0, 1) := by decide +kernel
theorem dX7_doesAct_75 : decode cX7_doesAct 75 = .ok (.aload_n 0, 1) := by decide +kernel
theorem dX7_doesAct_76 : decode cX7_doesAct 76 = .ok (.getfield 107, 3) := by decide +kernel
theorem dX7_doesAct_79 : decode cX7_doesAct 79 = .ok (.iload_n 1, 1) := by decide +kernel
theorem dX7_doesAct_80 : decode cX7_doesAct 80 = .ok (.iaload, 1) := by decide +kernel
theorem dX7_doesAct_81 : decode cX7_doesAct 81 = .ok (.aload_n 0, 1) := by decide +kernel
theorem dX7_doesAct_82 : decode cX7_doesAct 82 = .ok (.getfield 110, 3) := by decide +kernel
theorem dX7_doesAct_85 : decode cX7_doesAct 85 = .ok (.iload_n 1, 1) := by decide +kernel
theorem dX7_doesAct_86 : decode cX7_doesAct 86 = .ok (.iaload, 1) := by decide +kernel
theorem dX7_doesAct_87 : decode cX7_doesAct 87 = .ok (.invokevirtual 332, 3) := by decide +kernel
theorem dX7_doesAct_90 : decode cX7_doesAct 90 = .ok (.ireturn, 1) := by decide +kernel
theorem dX7_doesAct_91 : decode cX7_doesAct 91 = .ok (.aload_n 0, 1) := by decide +kernel
theorem dX7_doesAct_92 : decode cX7_doesAct 92 = .ok (.aload_n 0, 1) := by decide +kernel
theorem dX7_doesAct_93 : decode cX7_doesAct 93 = .ok (.getfield 107, 3) := by decide +kernel
theorem dX7_doesAct_96 : decode cX7_doesAct 96 = .ok (.iload_n 1, 1) := by decide +kernel
theorem dX7_doesAct_97 : decode cX7_doesAct 97 = .ok (.iaload, 1) := by decide +kernel
theorem dX7_doesAct_98 : decode cX7_doesAct 98 = .ok (.aload_n 0, 1) := by decide +kernel
theorem dX7_doesAct_99 : decode cX7_doesAct 99 = .ok (.getfield 110, 3) := by decide +kernel
theorem dX7_doesAct_102 : decode cX7_doesAct 102 = .ok (.iload_n 1, 1) := by decide +kernel
theorem dX7_doesAct_103 : decode cX7_doesAct 103 = .ok (.iaload, 1) := by decide +kernel
theorem dX7_doesAct_104 : decode cX7_doesAct 104 = .ok (.invokevirtual 323, 3) := by decide +kernel
theorem dX7_doesAct_107 : decode cX7_doesAct 107 = .ok (.ireturn, 1) := by decide +kernel
theorem dX7_doesAct_108 : decode cX7_doesAct 108 = .ok (.aload_n 0, 1) := by decide +kernel
theorem dX7_doesAct_109 : decode cX7_doesAct 109 = .ok (.aload_n 0, 1) := by decide +kernel
theorem dX7_doesAct_110 : decode cX7_doesAct 110 = .ok (.getfield 107, 3) := by decide +kernel
theorem dX7_doesAct_113 : decode cX7_doesAct 113 = .ok (.iload_n 1, 1) := by decide +kernel
theorem dX7_doesAct_114 : decode cX7_doesAct 114 = .ok (.iaload, 1) := by decide +kernel
theorem dX7_doesAct_115 : decode cX7_doesAct 115 = .ok (.aload_n 0, 1) := by decide +kernel
theorem dX7_doesAct_116 : decode cX7_doesAct 116 = .ok (.getfield 110, 3) := by decide +kernel
theorem dX7_doesAct_119 : decode cX7_doesAct 119 = .ok (.iload_n 1, 1) := by decide +kernel
theorem dX7_doesAct_120 : decode cX7_doesAct 120 = .ok (.iaload, 1) := by decide +kernel
theorem dX7_doesAct_121 : decode cX7_doesAct 121 = .ok (.invokevirtual 286, 3) := by decide +kernel
theorem dX7_doesAct_124 : decode cX7_doesAct 124 = .ok (.ireturn, 1) := by decide +kernel
theorem dX7_doesAct_125 : decode cX7_doesAct 125 = .ok (.aload_n 0, 1) := by decide +kernel
theorem dX7_doesAct_126 : decode cX7_doesAct 126 = .ok (.invokevirtual 335, 3) := by decide +kernel
theorem dX7_doesAct_129 : decode cX7_doesAct 129 = .ok (.ireturn, 1) := by decide +kernel
theorem dX7_day_0 : decode cX7_day 0 = .ok (.aload_n 0, 1) := by decide +kernel
theorem dX7_day_1 : decode cX7_day 1 = .ok (.iconst 0, 1) := by decide +kernel
theorem dX7_day_2 : decode cX7_day 2 = .ok (.putfield 1, 3) := by decide +kernel
theorem dX7_day_5 : decode cX7_day 5 = .ok (.aload_n 0, 1) := by decide +kernel
theorem dX7_day_6 : decode cX7_day 6 = .ok (.invokevirtual 198, 3) := by decide +kernel
theorem dX7_day_9 : decode cX7_day 9 = .ok (.iconst 0, 1) := by decide +kernel
theorem dX7_day_10 : decode cX7_day 10 = .ok (.istore_n 1, 1) := by decide +kernel
theorem dX7_day_11 : decode cX7_day 11 = .ok (.aload_n 0, 1) := by decide +kernel
theorem dX7_day_12 : decode cX7_day 12 = .ok (.getfield 28, 3) := by decide +kernel
theorem dX7_day_15 : decode cX7_day 15 = .ok (.aload_n 0, 1) := by decide +kernel
theorem dX7_day_16 : decode cX7_day 16 = .ok (.getfield 25, 3) := by decide +kernel
theorem dX7_day_19 : decode cX7_day 19 = .ok (.if_icmp .ge 24, 3) := by decide +kernel
theorem dX7_day_22 : decode cX7_day 22 = .ok (.aload_n 0, 1) := by decide +kernel
theorem dX7_day_23 : decode cX7_day 23 = .ok (.iload_n 1, 1) := by decide +kernel
theorem dX7_day_24 : decode cX7_day 24 = .ok (.invokevirtual 343, 3) := by decide +kernel
theorem dX7_day_27 : decode cX7_day 27 = .ok (.ifCond .ne 10, 3) := by decide +kernel
theorem dX7_day_30 : decode cX7_day 30 = .ok (.iconst (-1), 1) := by decide +kernel
theorem dX7_day_31 : decode cX7_day 31 = .ok (.aload_n 0, 1) := by decide +kernel
theorem dX7_day_32 : decode cX7_day 32 = .ok (.getfield 28, 3) := by decide +kernel
theorem dX7_day_35 : decode cX7_day 35 = .ok (.isub, 1) := by decide +kernel
theorem dX7_day_36 : decode cX7_day 36 = .ok (.ireturn, 1) := by decide +kernel
theorem dX7_day_37 : decode cX7_day 37 = .ok (.iinc 1 1, 3) := by decide +kernel
theorem dX7_day_40 : decode cX7_day 40 = .ok (.goto (-29), 3) := by decide +kernel
theorem dX7_day_43 : decode cX7_day 43 = .ok (.aload_n 0, 1) := by decide +kernel
theorem dX7_day_44 : decode cX7_day 44 = .ok (.iconst 0, 1) := by decide +kernel
theorem dX7_day_45 : decode cX7_day 45 = .ok (.iconst 3, 1) := by decide +kernel
theorem dX7_day_46 : decode cX7_day 46 = .ok (.invokevirtual 120, 3) := by decide +kernel
theorem dX7_day_49 : decode cX7_day 49 = .ok (.iconst 0, 1) := by decide +kernel
theorem dX7_day_50 : decode cX7_day 50 = .ok (.istore_n 2, 1) := by decide +kernel
theorem dX7_day_51 : decode cX7_day 51 = .ok (.iload_n 2, 1) := by decide +kernel
theorem dX7_day_52 : decode cX7_day 52 = .ok (.iload_n 1, 1) := by decide +kernel
theorem dX7_day_53 : decode cX7_day 53 = .ok (.if_icmp .ge 17, 3) := by decide +kernel
theorem dX7_day_56 : decode cX7_day 56 = .ok (.aload_n 0, 1) := by decide +kernel
theorem dX7_day_57 : decode cX7_day 57 = .ok (.iload_n 2, 1) := by decide +kernel
theorem dX7_day_58 : decode cX7_day 58 = .ok (.invokevirtual 346, 3) := by decide +kernel
theorem dX7_day_61 : decode cX7_day 61 = .ok (.ifCond .lt 9, 3) := by decide +kernel
theorem dX7_day_64 : decode cX7_day 64 = .ok (.iinc 2 1, 3) := by decide +kernel
theorem dX7_day_67 : decode cX7_day 67 = .ok (.goto (-16), 3) := by decide +kernel
theorem dX7_day_70 : decode cX7_day 70 = .ok (.iload_n 2, 1) := by decide +kernel
theorem dX7_day_71 : decode cX7_day 71 = .ok (.ifCond .le 7, 3) := by decide +kernel
theorem dX7_day_74 : decode cX7_day 74 = .ok (.aload_n 0, 1) := by decide +kernel
theorem dX7_day_75 : decode cX7_day 75 = .ok (.invokevirtual 124, 3) := by decide +kernel
theorem dX7_day_78 : decode cX7_day 78 = .ok (.aload_n 0, 1) := by decide +kernel
theorem dX7_day_79 : decode cX7_day 79 = .ok (.iconst 0, 1) := by decide +kernel
theorem dX7_day_80 : decode cX7_day 80 = .ok (.putfield 11, 3) := by decide +kernel
theorem dX7_day_83 : decode cX7_day 83 = .ok (.aload_n 0, 1) := by decide +kernel
theorem dX7_day_84 : decode cX7_day 84 = .ok (.iload_n 2, 1) := by decide +kernel
theorem dX7_day_85 : decode cX7_day 85 = .ok (.iload_n 1, 1) := by decide +kernel
theorem dX7_day_86 : decode cX7_day 86 = .ok (.if_icmp .ge 7, 3) := by decide +kernel
theorem dX7_day_89 : decode cX7_day 89 = .ok (.iconst 1, 1) := by decide +kernel
theorem dX7_day_90 : decode cX7_day 90 = .ok (.goto 4, 3) := by decide +kernel
theorem dX7_day_93 : decode cX7_day 93 = .ok (.iconst 0, 1) := by decide +kernel
theorem dX7_day_94 : decode cX7_day 94 = .ok (.invokestatic 45, 3) := by decide +kernel
theorem dX7_day_97 : decode cX7_day 97 = .ok (.i2l, 1) := by decide +kernel
theorem dX7_day_98 : decode cX7_day 98 = .ok (.invokevirtual 191, 3) := by decide +kernel
theorem dX7_day_101 : decode cX7_day 101 = .ok (.aload_n 0, 1) := by decide +kernel
theorem dX7_day_102 : decode cX7_day 102 = .ok (.aload_n 0, 1) := by decide +kernel
theorem dX7_day_103 : decode cX7_day 103 = .ok (.iconst 0, 1) := by decide +kernel
theorem dX7_day_104 : decode cX7_day 104 = .ok (.invokevirtual 235, 3) := by decide +kernel
theorem dX7_day_107 : decode cX7_day 107 = .ok (.i2l, 1) := by decide +kernel
theorem dX7_day_108 : decode cX7_day 108 = .ok (.invokevirtual 191, 3) := by decide +kernel
theorem dX7_day_111 : decode cX7_day 111 = .ok (.iload_n 2, 1) := by decide +kernel
theorem dX7_day_112 : decode cX7_day 112 = .ok (.ireturn, 1) := by decide +kernel
theorem dX7_draws_0 : decode cX7_draws 0 = .ok (.aload_n 0, 1) := by decide +kernel
theorem dX7_draws_1 : decode cX7_draws 1 = .ok (.aload_n 0, 1) := by decide +kernel
theorem dX7_draws_2 : decode cX7_draws 2 = .ok (.getfield 349, 3) := by decide +kernel
theorem dX7_draws_5 : decode cX7_draws 5 = .ok (.ldc_w 352, 3) := by decide +kernel
theorem dX7_draws_8 : decode cX7_draws 8 = .ok (.imul, 1) := by decide +kernel
theorem dX7_draws_9 : decode cX7_draws 9 = .ok (.sipush 12345, 3) := by decide +kernel
theorem dX7_draws_12 : decode cX7_draws 12 = .ok (.iadd, 1) := by decide +kernel
theorem dX7_draws_13 : decode cX7_draws 13 = .ok (.putfield 349, 3) := by decide +kernel
theorem dX7_draws_16 : decode cX7_draws 16 = .ok (.aload_n 0, 1) := by decide +kernel
theorem dX7_draws_17 : decode cX7_draws 17 = .ok (.getfield 349, 3) := by decide +kernel
theorem dX7_draws_20 : decode cX7_draws 20 = .ok (.bipush 16, 2) := by decide +kernel
theorem dX7_draws_22 : decode cX7_draws 22 = .ok (.iushr, 1) := by decide +kernel
theorem dX7_draws_23 : decode cX7_draws 23 = .ok (.iload_n 1, 1) := by decide +kernel
theorem dX7_draws_24 : decode cX7_draws 24 = .ok (.irem, 1) := by decide +kernel
theorem dX7_draws_25 : decode cX7_draws 25 = .ok (.ireturn, 1) := by decide +kernel
theorem dX7_years_0 : decode cX7_years 0 = .ok (.aload_n 0, 1) := by decide +kernel
theorem dX7_years_1 : decode cX7_years 1 = .ok (.iconst 0, 1) := by decide +kernel
theorem dX7_years_2 : decode cX7_years 2 = .ok (.putfield 1, 3) := by decide +kernel
theorem dX7_years_5 : decode cX7_years 5 = .ok (.iload_n 2, 1) := by decide +kernel
theorem dX7_years_6 : decode cX7_years 6 = .ok (.i2l, 1) := by decide +kernel
theorem dX7_years_7 : decode cX7_years 7 = .ok (.lconst 1, 1) := by decide +kernel
theorem dX7_years_8 : decode cX7_years 8 = .ok (.ldc2_w 353, 3) := by decide +kernel
theorem dX7_years_11 : decode cX7_years 11 = .ok (.invokestatic 21, 3) := by decide +kernel
theorem dX7_years_14 : decode cX7_years 14 = .ok (.ifCond .ne 5, 3) := by decide +kernel
theorem dX7_years_17 : decode cX7_years 17 = .ok (.iconst (-1), 1) := by decide +kernel
theorem dX7_years_18 : decode cX7_years 18 = .ok (.ireturn, 1) := by decide +kernel
theorem dX7_years_19 : decode cX7_years 19 = .ok (.aload_n 0, 1) := by decide +kernel
theorem dX7_years_20 : decode cX7_years 20 = .ok (.iload_n 1, 1) := by decide +kernel
theorem dX7_years_21 : decode cX7_years 21 = .ok (.putfield 349, 3) := by decide +kernel
theorem dX7_years_24 : decode cX7_years 24 = .ok (.aload_n 0, 1) := by decide +kernel
theorem dX7_years_25 : decode cX7_years 25 = .ok (.iconst 0, 1) := by decide +kernel
theorem dX7_years_26 : decode cX7_years 26 = .ok (.iconst 4, 1) := by decide +kernel
theorem dX7_years_27 : decode cX7_years 27 = .ok (.invokevirtual 120, 3) := by decide +kernel
theorem dX7_years_30 : decode cX7_years 30 = .ok (.iconst 0, 1) := by decide +kernel
theorem dX7_years_31 : decode cX7_years 31 = .ok (.istore_n 3, 1) := by decide +kernel
theorem dX7_years_32 : decode cX7_years 32 = .ok (.iconst 0, 1) := by decide +kernel
theorem dX7_years_33 : decode cX7_years 33 = .ok (.istore 4, 2) := by decide +kernel
theorem dX7_years_35 : decode cX7_years 35 = .ok (.iconst 0, 1) := by decide +kernel
theorem dX7_years_36 : decode cX7_years 36 = .ok (.istore 5, 2) := by decide +kernel
theorem dX7_years_38 : decode cX7_years 38 = .ok (.iload 5, 2) := by decide +kernel
theorem dX7_years_40 : decode cX7_years 40 = .ok (.iload_n 2, 1) := by decide +kernel
theorem dX7_years_41 : decode cX7_years 41 = .ok (.if_icmp .ge 87, 3) := by decide +kernel
theorem dX7_years_44 : decode cX7_years 44 = .ok (.aload_n 0, 1) := by decide +kernel
theorem dX7_years_45 : decode cX7_years 45 = .ok (.bipush 24, 2) := by decide +kernel
theorem dX7_years_47 : decode cX7_years 47 = .ok (.invokevirtual 355, 3) := by decide +kernel
theorem dX7_years_50 : decode cX7_years 50 = .ok (.istore 6, 2) := by decide +kernel
theorem dX7_years_52 : decode cX7_years 52 = .ok (.aload_n 0, 1) := by decide +kernel
theorem dX7_years_53 : decode cX7_years 53 = .ok (.bipush 24, 2) := by decide +kernel
theorem dX7_years_55 : decode cX7_years 55 = .ok (.invokevirtual 355, 3) := by decide +kernel
theorem dX7_years_58 : decode cX7_years 58 = .ok (.istore 7, 2) := by decide +kernel
theorem dX7_years_60 : decode cX7_years 60 = .ok (.aload_n 0, 1) := by decide +kernel
theorem dX7_years_61 : decode cX7_years 61 = .ok (.iload 6, 2) := by decide +kernel
theorem dX7_years_63 : decode cX7_years 63 = .ok (.iload 7, 2) := by decide +kernel
theorem dX7_years_65 : decode cX7_years 65 = .ok (.invokevirtual 219, 3) := by decide +kernel
theorem dX7_years_68 : decode cX7_years 68 = .ok (.ifCond .eq 15, 3) := by decide +kernel
theorem dX7_years_71 : decode cX7_years 71 = .ok (.aload_n 0, 1) := by decide +kernel
theorem dX7_years_72 : decode cX7_years 72 = .ok (.iconst 4, 1) := by decide +kernel
theorem dX7_years_73 : decode cX7_years 73 = .ok (.iload 6, 2) := by decide +kernel
theorem dX7_years_75 : decode cX7_years 75 = .ok (.iload 7, 2) := by decide +kernel
theorem dX7_years_77 : decode cX7_years 77 = .ok (.invokevirtual 222, 3) := by decide +kernel
theorem dX7_years_80 : decode cX7_years 80 = .ok (.goto 4, 3) := by decide +kernel
theorem dX7_years_83 : decode cX7_years 83 = .ok (.iconst (-1), 1) := by decide +kernel
theorem dX7_years_84 : decode cX7_years 84 = .ok (.istore 8, 2) := by decide +kernel
theorem dX7_years_86 : decode cX7_years 86 = .ok (.iload_n 3, 1) := by decide +kernel
theorem dX7_years_87 : decode cX7_years 87 = .ok (.iload 8, 2) := by decide +kernel
theorem dX7_years_89 : decode cX7_years 89 = .ok (.ifCond .lt 7, 3) := by decide +kernel
theorem dX7_years_92 : decode cX7_years 92 = .ok (.iconst 1, 1) := by decide +kernel
theorem dX7_years_93 : decode cX7_years 93 = .ok (.goto 4, 3) := by decide +kernel
theorem dX7_years_96 : decode cX7_years 96 = .ok (.iconst 0, 1) := by decide +kernel
theorem dX7_years_97 : decode cX7_years 97 = .ok (.invokestatic 45, 3) := by decide +kernel
theorem dX7_years_100 : decode cX7_years 100 = .ok (.iadd, 1) := by decide +kernel
theorem dX7_years_101 : decode cX7_years 101 = .ok (.istore_n 3, 1) := by decide +kernel
theorem dX7_years_102 : decode cX7_years 102 = .ok (.iload 4, 2) := by decide +kernel
theorem dX7_years_104 : decode cX7_years 104 = .ok (.iload 8, 2) := by decide +kernel
theorem dX7_years_106 : decode cX7_years 106 = .ok (.bipush (-4), 2) := by decide +kernel
theorem dX7_years_108 : decode cX7_years 108 = .ok (.if_icmp .ne 7, 3) := by decide +kernel
theorem dX7_years_111 : decode cX7_years 111 = .ok (.iconst 1, 1) := by decide +kernel
theorem dX7_years_112 : decode cX7_years 112 = .ok (.goto 4, 3) := by decide +kernel
theorem dX7_years_115 : decode cX7_years 115 = .ok (.iconst 0, 1) := by decide +kernel
theorem dX7_years_116 : decode cX7_years 116 = .ok (.invokestatic 45, 3) := by decide +kernel
theorem dX7_years_119 : decode cX7_years 119 = .ok (.iadd, 1) := by decide +kernel
theorem dX7_years_120 : decode cX7_years 120 = .ok (.istore 4, 2) := by decide +kernel
theorem dX7_years_122 : decode cX7_years 122 = .ok (.iinc 5 1, 3) := by decide +kernel
theorem dX7_years_125 : decode cX7_years 125 = .ok (.goto (-87), 3) := by decide +kernel
theorem dX7_years_128 : decode cX7_years 128 = .ok (.iconst 0, 1) := by decide +kernel
theorem dX7_years_129 : decode cX7_years 129 = .ok (.istore 5, 2) := by decide +kernel
theorem dX7_years_131 : decode cX7_years 131 = .ok (.iconst 0, 1) := by decide +kernel
theorem dX7_years_132 : decode cX7_years 132 = .ok (.istore 6, 2) := by decide +kernel
theorem dX7_years_134 : decode cX7_years 134 = .ok (.iload 6, 2) := by decide +kernel
theorem dX7_years_136 : decode cX7_years 136 = .ok (.aload_n 0, 1) := by decide +kernel
theorem dX7_years_137 : decode cX7_years 137 = .ok (.iconst 0, 1) := by decide +kernel
theorem dX7_years_138 : decode cX7_years 138 = .ok (.invokevirtual 169, 3) := by decide +kernel
theorem dX7_years_141 : decode cX7_years 141 = .ok (.if_icmp .ge 39, 3) := by decide +kernel
theorem dX7_years_144 : decode cX7_years 144 = .ok (.iload 5, 2) := by decide +kernel
theorem dX7_years_146 : decode cX7_years 146 = .ok (.aload_n 0, 1) := by decide +kernel
theorem dX7_years_147 : decode cX7_years 147 = .ok (.iconst 0, 1) := by decide +kernel
theorem dX7_years_148 : decode cX7_years 148 = .ok (.iload 6, 2) := by decide +kernel
theorem dX7_years_150 : decode cX7_years 150 = .ok (.invokevirtual 157, 3) := by decide +kernel
theorem dX7_years_153 : decode cX7_years 153 = .ok (.aload_n 0, 1) := by decide +kernel
theorem dX7_years_154 : decode cX7_years 154 = .ok (.iconst 4, 1) := by decide +kernel
theorem dX7_years_155 : decode cX7_years 155 = .ok (.iload 6, 2) := by decide +kernel
theorem dX7_years_157 : decode cX7_years 157 = .ok (.invokevirtual 157, 3) := by decide +kernel
theorem dX7_years_160 : decode cX7_years 160 = .ok (.if_icmp .eq 7, 3) := by decide +kernel
theorem dX7_years_163 : decode cX7_years 163 = .ok (.iconst 1, 1) := by decide +kernel
theorem dX7_years_164 : decode cX7_years 164 = .ok (.goto 4, 3) := by decide +kernel
theorem dX7_years_167 : decode cX7_years 167 = .ok (.iconst 0, 1) := by decide +kernel
theorem dX7_years_168 : decode cX7_years 168 = .ok (.invokestatic 45, 3) := by decide +kernel
theorem dX7_years_171 : decode cX7_years 171 = .ok (.iadd, 1) := by decide +kernel
theorem dX7_years_172 : decode cX7_years 172 = .ok (.istore 5, 2) := by decide +kernel
theorem dX7_years_174 : decode cX7_years 174 = .ok (.iinc 6 1, 3) := by decide +kernel
theorem dX7_years_177 : decode cX7_years 177 = .ok (.goto (-43), 3) := by decide +kernel
theorem dX7_years_180 : decode cX7_years 180 = .ok (.aload_n 0, 1) := by decide +kernel
theorem dX7_years_181 : decode cX7_years 181 = .ok (.iconst 0, 1) := by decide +kernel
theorem dX7_years_182 : decode cX7_years 182 = .ok (.putfield 11, 3) := by decide +kernel
theorem dX7_years_185 : decode cX7_years 185 = .ok (.aload_n 0, 1) := by decide +kernel
theorem dX7_years_186 : decode cX7_years 186 = .ok (.iload 4, 2) := by decide +kernel
theorem dX7_years_188 : decode cX7_years 188 = .ok (.i2l, 1) := by decide +kernel
theorem dX7_years_189 : decode cX7_years 189 = .ok (.invokevirtual 191, 3) := by decide +kernel
theorem dX7_years_192 : decode cX7_years 192 = .ok (.aload_n 0, 1) := by decide +kernel
theorem dX7_years_193 : decode cX7_years 193 = .ok (.iload 5, 2) := by decide +kernel
theorem dX7_years_195 : decode cX7_years 195 = .ok (.i2l, 1) := by decide +kernel
theorem dX7_years_196 : decode cX7_years 196 = .ok (.invokevirtual 191, 3) := by decide +kernel
theorem dX7_years_199 : decode cX7_years 199 = .ok (.iload_n 3, 1) := by decide +kernel
theorem dX7_years_200 : decode cX7_years 200 = .ok (.ireturn, 1) := by decide +kernel
theorem dX7_keep_0 : decode cX7_keep 0 = .ok (.aload_n 0, 1) := by decide +kernel
theorem dX7_keep_1 : decode cX7_keep 1 = .ok (.iconst 0, 1) := by decide +kernel
theorem dX7_keep_2 : decode cX7_keep 2 = .ok (.putfield 1, 3) := by decide +kernel
theorem dX7_keep_5 : decode cX7_keep 5 = .ok (.iload_n 1, 1) := by decide +kernel
theorem dX7_keep_6 : decode cX7_keep 6 = .ok (.i2l, 1) := by decide +kernel
theorem dX7_keep_7 : decode cX7_keep 7 = .ok (.lconst 0, 1) := by decide +kernel
theorem dX7_keep_8 : decode cX7_keep 8 = .ok (.lconst 1, 1) := by decide +kernel
theorem dX7_keep_9 : decode cX7_keep 9 = .ok (.invokestatic 21, 3) := by decide +kernel
theorem dX7_keep_12 : decode cX7_keep 12 = .ok (.ifCond .ne 5, 3) := by decide +kernel
theorem dX7_keep_15 : decode cX7_keep 15 = .ok (.iconst 0, 1) := by decide +kernel
theorem dX7_keep_16 : decode cX7_keep 16 = .ok (.ireturn, 1) := by decide +kernel
theorem dX7_keep_17 : decode cX7_keep 17 = .ok (.aload_n 0, 1) := by decide +kernel
theorem dX7_keep_18 : decode cX7_keep 18 = .ok (.getfield 113, 3) := by decide +kernel
theorem dX7_keep_21 : decode cX7_keep 21 = .ok (.iload_n 1, 1) := by decide +kernel
theorem dX7_keep_22 : decode cX7_keep 22 = .ok (.iconst 1, 1) := by decide +kernel
theorem dX7_keep_23 : decode cX7_keep 23 = .ok (.bastore, 1) := by decide +kernel
theorem dX7_keep_24 : decode cX7_keep 24 = .ok (.aload_n 0, 1) := by decide +kernel
theorem dX7_keep_25 : decode cX7_keep 25 = .ok (.iconst 0, 1) := by decide +kernel
theorem dX7_keep_26 : decode cX7_keep 26 = .ok (.iconst 1, 1) := by decide +kernel
theorem dX7_keep_27 : decode cX7_keep 27 = .ok (.iload_n 1, 1) := by decide +kernel
theorem dX7_keep_28 : decode cX7_keep 28 = .ok (.iadd, 1) := by decide +kernel
theorem dX7_keep_29 : decode cX7_keep 29 = .ok (.invokevirtual 120, 3) := by decide +kernel
theorem dX7_keep_32 : decode cX7_keep 32 = .ok (.iconst 1, 1) := by decide +kernel
theorem dX7_keep_33 : decode cX7_keep 33 = .ok (.ireturn, 1) := by decide +kernel
theorem dX7_again_0 : decode cX7_again 0 = .ok (.aload_n 0, 1) := by decide +kernel
theorem dX7_again_1 : decode cX7_again 1 = .ok (.iconst 0, 1) := by decide +kernel
theorem dX7_again_2 : decode cX7_again 2 = .ok (.putfield 1, 3) := by decide +kernel
theorem dX7_again_5 : decode cX7_again 5 = .ok (.iload_n 1, 1) := by decide +kernel
theorem dX7_again_6 : decode cX7_again 6 = .ok (.i2l, 1) := by decide +kernel
theorem dX7_again_7 : decode cX7_again 7 = .ok (.lconst 0, 1) := by decide +kernel
theorem dX7_again_8 : decode cX7_again 8 = .ok (.lconst 1, 1) := by decide +kernel
theorem dX7_again_9 : decode cX7_again 9 = .ok (.invokestatic 21, 3) := by decide +kernel
theorem dX7_again_12 : decode cX7_again 12 = .ok (.ifCond .eq 12, 3) := by decide +kernel
theorem dX7_again_15 : decode cX7_again 15 = .ok (.aload_n 0, 1) := by decide +kernel
theorem dX7_again_16 : decode cX7_again 16 = .ok (.getfield 113, 3) := by decide +kernel
theorem dX7_again_19 : decode cX7_again 19 = .ok (.iload_n 1, 1) := by decide +kernel
theorem dX7_again_20 : decode cX7_again 20 = .ok (.baload, 1) := by decide +kernel
theorem dX7_again_21 : decode cX7_again 21 = .ok (.ifCond .ne 5, 3) := by decide +kernel
theorem dX7_again_24 : decode cX7_again 24 = .ok (.iconst 0, 1) := by decide +kernel
theorem dX7_again_25 : decode cX7_again 25 = .ok (.ireturn, 1) := by decide +kernel
theorem dX7_again_26 : decode cX7_again 26 = .ok (.aload_n 0, 1) := by decide +kernel
theorem dX7_again_27 : decode cX7_again 27 = .ok (.iconst 1, 1) := by decide +kernel
theorem dX7_again_28 : decode cX7_again 28 = .ok (.iload_n 1, 1) := by decide +kernel
theorem dX7_again_29 : decode cX7_again 29 = .ok (.iadd, 1) := by decide +kernel
theorem dX7_again_30 : decode cX7_again 30 = .ok (.iconst 0, 1) := by decide +kernel
theorem dX7_again_31 : decode cX7_again 31 = .ok (.invokevirtual 120, 3) := by decide +kernel
theorem dX7_again_34 : decode cX7_again 34 = .ok (.aload_n 0, 1) := by decide +kernel
theorem dX7_again_35 : decode cX7_again 35 = .ok (.iconst 0, 1) := by decide +kernel
theorem dX7_again_36 : decode cX7_again 36 = .ok (.putfield 117, 3) := by decide +kernel
theorem dX7_again_39 : decode cX7_again 39 = .ok (.iconst 1, 1) := by decide +kernel
theorem dX7_again_40 : decode cX7_again 40 = .ok (.ireturn, 1) := by decide +kernel
theorem dX7_postings_0 : decode cX7_postings 0 = .ok (.iconst 0, 1) := by decide +kernel
theorem dX7_postings_1 : decode cX7_postings 1 = .ok (.istore_n 1, 1) := by decide +kernel
theorem dX7_postings_2 : decode cX7_postings 2 = .ok (.iconst 0, 1) := by decide +kernel
theorem dX7_postings_3 : decode cX7_postings 3 = .ok (.istore_n 2, 1) := by decide +kernel
theorem dX7_postings_4 : decode cX7_postings 4 = .ok (.iload_n 2, 1) := by decide +kernel
theorem dX7_postings_5 : decode cX7_postings 5 = .ok (.bipush 24, 2) := by decide +kernel
theorem dX7_postings_7 : decode cX7_postings 7 = .ok (.if_icmp .ge 30, 3) := by decide +kernel
theorem dX7_postings_10 : decode cX7_postings 10 = .ok (.iload_n 1, 1) := by decide +kernel
theorem dX7_postings_11 : decode cX7_postings 11 = .ok (.aload_n 0, 1) := by decide +kernel
theorem dX7_postings_12 : decode cX7_postings 12 = .ok (.iload_n 2, 1) := by decide +kernel
theorem dX7_postings_13 : decode cX7_postings 13 = .ok (.invokevirtual 137, 3) := by decide +kernel
theorem dX7_postings_16 : decode cX7_postings 16 = .ok (.ifCond .eq 12, 3) := by decide +kernel
theorem dX7_postings_19 : decode cX7_postings 19 = .ok (.aload_n 0, 1) := by decide +kernel
theorem dX7_postings_20 : decode cX7_postings 20 = .ok (.iconst 0, 1) := by decide +kernel
theorem dX7_postings_21 : decode cX7_postings 21 = .ok (.iload_n 2, 1) := by decide +kernel
theorem dX7_postings_22 : decode cX7_postings 22 = .ok (.invokevirtual 283, 3) := by decide +kernel
theorem dX7_postings_25 : decode cX7_postings 25 = .ok (.goto 4, 3) := by decide +kernel
theorem dX7_postings_28 : decode cX7_postings 28 = .ok (.iconst 0, 1) := by decide +kernel
theorem dX7_postings_29 : decode cX7_postings 29 = .ok (.iadd, 1) := by decide +kernel
theorem dX7_postings_30 : decode cX7_postings 30 = .ok (.istore_n 1, 1) := by decide +kernel
theorem dX7_postings_31 : decode cX7_postings 31 = .ok (.iinc 2 1, 3) := by decide +kernel
theorem dX7_postings_34 : decode cX7_postings 34 = .ok (.goto (-30), 3) := by decide +kernel
theorem dX7_postings_37 : decode cX7_postings 37 = .ok (.iload_n 1, 1) := by decide +kernel
theorem dX7_postings_38 : decode cX7_postings 38 = .ok (.ireturn, 1) := by decide +kernel
theorem dX7_count_0 : decode cX7_count 0 = .ok (.aload_n 0, 1) := by decide +kernel
theorem dX7_count_1 : decode cX7_count 1 = .ok (.iconst 0, 1) := by decide +kernel
theorem dX7_count_2 : decode cX7_count 2 = .ok (.putfield 1, 3) := by decide +kernel
theorem dX7_count_5 : decode cX7_count 5 = .ok (.iload_n 1, 1) := by decide +kernel
theorem dX7_count_6 : decode cX7_count 6 = .ok (.tableswitch 93 0 7 #[46, 55, 61, 67, 73, 78, 83, 88], 46) := by decide +kernel
theorem dX7_count_52 : decode cX7_count 52 = .ok (.aload_n 0, 1) := by decide +kernel
theorem dX7_count_53 : decode cX7_count 53 = .ok (.iconst 0, 1) := by decide +kernel
theorem dX7_count_54 : decode cX7_count 54 = .ok (.invokevirtual 129, 3) := by decide +kernel
theorem dX7_count_57 : decode cX7_count 57 = .ok (.invokestatic 154, 3) := by decide +kernel
theorem dX7_count_60 : decode cX7_count 60 = .ok (.ireturn, 1) := by decide +kernel
theorem dX7_count_61 : decode cX7_count 61 = .ok (.aload_n 0, 1) := by decide +kernel
theorem dX7_count_62 : decode cX7_count 62 = .ok (.iconst 0, 1) := by decide +kernel
theorem dX7_count_63 : decode cX7_count 63 = .ok (.invokevirtual 129, 3) := by decide +kernel
theorem dX7_count_66 : decode cX7_count 66 = .ok (.ireturn, 1) := by decide +kernel
theorem dX7_count_67 : decode cX7_count 67 = .ok (.aload_n 0, 1) := by decide +kernel
theorem dX7_count_68 : decode cX7_count 68 = .ok (.iconst 0, 1) := by decide +kernel
theorem dX7_count_69 : decode cX7_count 69 = .ok (.invokevirtual 235, 3) := by decide +kernel
theorem dX7_count_72 : decode cX7_count 72 = .ok (.ireturn, 1) := by decide +kernel
theorem dX7_count_73 : decode cX7_count 73 = .ok (.aload_n 0, 1) := by decide +kernel
theorem dX7_count_74 : decode cX7_count 74 = .ok (.iconst 0, 1) := by decide +kernel
theorem dX7_count_75 : decode cX7_count 75 = .ok (.invokevirtual 195, 3) := by decide +kernel
theorem dX7_count_78 : decode cX7_count 78 = .ok (.ireturn, 1) := by decide +kernel
theorem dX7_count_79 : decode cX7_count 79 = .ok (.aload_n 0, 1) := by decide +kernel
theorem dX7_count_80 : decode cX7_count 80 = .ok (.invokevirtual 358, 3) := by decide +kernel
theorem dX7_count_83 : decode cX7_count 83 = .ok (.ireturn, 1) := by decide +kernel
theorem dX7_count_84 : decode cX7_count 84 = .ok (.aload_n 0, 1) := by decide +kernel
theorem dX7_count_85 : decode cX7_count 85 = .ok (.getfield 117, 3) := by decide +kernel
theorem dX7_count_88 : decode cX7_count 88 = .ok (.ireturn, 1) := by decide +kernel
theorem dX7_count_89 : decode cX7_count 89 = .ok (.aload_n 0, 1) := by decide +kernel
theorem dX7_count_90 : decode cX7_count 90 = .ok (.getfield 11, 3) := by decide +kernel
theorem dX7_count_93 : decode cX7_count 93 = .ok (.ireturn, 1) := by decide +kernel
theorem dX7_count_94 : decode cX7_count 94 = .ok (.aload_n 0, 1) := by decide +kernel
theorem dX7_count_95 : decode cX7_count 95 = .ok (.getfield 14, 3) := by decide +kernel
theorem dX7_count_98 : decode cX7_count 98 = .ok (.ireturn, 1) := by decide +kernel
theorem dX7_count_99 : decode cX7_count 99 = .ok (.iconst (-1), 1) := by decide +kernel
theorem dX7_count_100 : decode cX7_count 100 = .ok (.ireturn, 1) := by decide +kernel
theorem dX7_row_0 : decode cX7_row 0 = .ok (.aload_n 0, 1) := by decide +kernel
theorem dX7_row_1 : decode cX7_row 1 = .ok (.iload_n 1, 1) := by decide +kernel
theorem dX7_row_2 : decode cX7_row 2 = .ok (.i2l, 1) := by decide +kernel
theorem dX7_row_3 : decode cX7_row 3 = .ok (.lconst 0, 1) := by decide +kernel
theorem dX7_row_4 : decode cX7_row 4 = .ok (.aload_n 0, 1) := by decide +kernel
theorem dX7_row_5 : decode cX7_row 5 = .ok (.getfield 11, 3) := by decide +kernel
theorem dX7_row_8 : decode cX7_row 8 = .ok (.iconst 1, 1) := by decide +kernel
theorem dX7_row_9 : decode cX7_row 9 = .ok (.isub, 1) := by decide +kernel
theorem dX7_row_10 : decode cX7_row 10 = .ok (.i2l, 1) := by decide +kernel
theorem dX7_row_11 : decode cX7_row 11 = .ok (.invokestatic 21, 3) := by decide +kernel
theorem dX7_row_14 : decode cX7_row 14 = .ok (.ifCond .ne 7, 3) := by decide +kernel
theorem dX7_row_17 : decode cX7_row 17 = .ok (.iconst 1, 1) := by decide +kernel
theorem dX7_row_18 : decode cX7_row 18 = .ok (.goto 4, 3) := by decide +kernel
theorem dX7_row_21 : decode cX7_row 21 = .ok (.iconst 0, 1) := by decide +kernel
theorem dX7_row_22 : decode cX7_row 22 = .ok (.invokestatic 45, 3) := by decide +kernel
theorem dX7_row_25 : decode cX7_row 25 = .ok (.putfield 1, 3) := by decide +kernel
theorem dX7_row_28 : decode cX7_row 28 = .ok (.aload_n 0, 1) := by decide +kernel
theorem dX7_row_29 : decode cX7_row 29 = .ok (.getfield 1, 3) := by decide +kernel
theorem dX7_row_32 : decode cX7_row 32 = .ok (.iconst 1, 1) := by decide +kernel
theorem dX7_row_33 : decode cX7_row 33 = .ok (.if_icmp .ne 7, 3) := by decide +kernel
theorem dX7_row_36 : decode cX7_row 36 = .ok (.lconst 0, 1) := by decide +kernel
theorem dX7_row_37 : decode cX7_row 37 = .ok (.goto 9, 3) := by decide +kernel
theorem dX7_row_40 : decode cX7_row 40 = .ok (.aload_n 0, 1) := by decide +kernel
theorem dX7_row_41 : decode cX7_row 41 = .ok (.getfield 7, 3) := by decide +kernel
theorem dX7_row_44 : decode cX7_row 44 = .ok (.iload_n 1, 1) := by decide +kernel
theorem dX7_row_45 : decode cX7_row 45 = .ok (.laload, 1) := by decide +kernel
theorem dX7_row_46 : decode cX7_row 46 = .ok (.lreturn, 1) := by decide +kernel
theorem dJ6_bitCount_0f7a4_0 : decode cJ6_bitCount_0f7a4 0 = .ok (.iload_n 0, 1) := by decide +kernel
theorem dJ6_bitCount_0f7a4_1 : decode cJ6_bitCount_0f7a4 1 = .ok (.iload_n 0, 1) := by decide +kernel
theorem dJ6_bitCount_0f7a4_2 : decode cJ6_bitCount_0f7a4 2 = .ok (.iconst 1, 1) := by decide +kernel
theorem dJ6_bitCount_0f7a4_3 : decode cJ6_bitCount_0f7a4 3 = .ok (.iushr, 1) := by decide +kernel
theorem dJ6_bitCount_0f7a4_4 : decode cJ6_bitCount_0f7a4 4 = .ok (.ldc_w 265, 3) := by decide +kernel
theorem dJ6_bitCount_0f7a4_7 : decode cJ6_bitCount_0f7a4 7 = .ok (.iand, 1) := by decide +kernel
theorem dJ6_bitCount_0f7a4_8 : decode cJ6_bitCount_0f7a4 8 = .ok (.isub, 1) := by decide +kernel
theorem dJ6_bitCount_0f7a4_9 : decode cJ6_bitCount_0f7a4 9 = .ok (.istore_n 0, 1) := by decide +kernel
theorem dJ6_bitCount_0f7a4_10 : decode cJ6_bitCount_0f7a4 10 = .ok (.iload_n 0, 1) := by decide +kernel
theorem dJ6_bitCount_0f7a4_11 : decode cJ6_bitCount_0f7a4 11 = .ok (.ldc_w 266, 3) := by decide +kernel
theorem dJ6_bitCount_0f7a4_14 : decode cJ6_bitCount_0f7a4 14 = .ok (.iand, 1) := by decide +kernel
theorem dJ6_bitCount_0f7a4_15 : decode cJ6_bitCount_0f7a4 15 = .ok (.iload_n 0, 1) := by decide +kernel
theorem dJ6_bitCount_0f7a4_16 : decode cJ6_bitCount_0f7a4 16 = .ok (.iconst 2, 1) := by decide +kernel
theorem dJ6_bitCount_0f7a4_17 : decode cJ6_bitCount_0f7a4 17 = .ok (.iushr, 1) := by decide +kernel
theorem dJ6_bitCount_0f7a4_18 : decode cJ6_bitCount_0f7a4 18 = .ok (.ldc_w 266, 3) := by decide +kernel
theorem dJ6_bitCount_0f7a4_21 : decode cJ6_bitCount_0f7a4 21 = .ok (.iand, 1) := by decide +kernel
theorem dJ6_bitCount_0f7a4_22 : decode cJ6_bitCount_0f7a4 22 = .ok (.iadd, 1) := by decide +kernel
theorem dJ6_bitCount_0f7a4_23 : decode cJ6_bitCount_0f7a4 23 = .ok (.istore_n 0, 1) := by decide +kernel
theorem dJ6_bitCount_0f7a4_24 : decode cJ6_bitCount_0f7a4 24 = .ok (.iload_n 0, 1) := by decide +kernel
theorem dJ6_bitCount_0f7a4_25 : decode cJ6_bitCount_0f7a4 25 = .ok (.iload_n 0, 1) := by decide +kernel
theorem dJ6_bitCount_0f7a4_26 : decode cJ6_bitCount_0f7a4 26 = .ok (.iconst 4, 1) := by decide +kernel
theorem dJ6_bitCount_0f7a4_27 : decode cJ6_bitCount_0f7a4 27 = .ok (.iushr, 1) := by decide +kernel
theorem dJ6_bitCount_0f7a4_28 : decode cJ6_bitCount_0f7a4 28 = .ok (.iadd, 1) := by decide +kernel
theorem dJ6_bitCount_0f7a4_29 : decode cJ6_bitCount_0f7a4 29 = .ok (.ldc_w 267, 3) := by decide +kernel
theorem dJ6_bitCount_0f7a4_32 : decode cJ6_bitCount_0f7a4 32 = .ok (.iand, 1) := by decide +kernel
theorem dJ6_bitCount_0f7a4_33 : decode cJ6_bitCount_0f7a4 33 = .ok (.istore_n 0, 1) := by decide +kernel
theorem dJ6_bitCount_0f7a4_34 : decode cJ6_bitCount_0f7a4 34 = .ok (.iload_n 0, 1) := by decide +kernel
theorem dJ6_bitCount_0f7a4_35 : decode cJ6_bitCount_0f7a4 35 = .ok (.iload_n 0, 1) := by decide +kernel
theorem dJ6_bitCount_0f7a4_36 : decode cJ6_bitCount_0f7a4 36 = .ok (.bipush 8, 2) := by decide +kernel
theorem dJ6_bitCount_0f7a4_38 : decode cJ6_bitCount_0f7a4 38 = .ok (.iushr, 1) := by decide +kernel
theorem dJ6_bitCount_0f7a4_39 : decode cJ6_bitCount_0f7a4 39 = .ok (.iadd, 1) := by decide +kernel
theorem dJ6_bitCount_0f7a4_40 : decode cJ6_bitCount_0f7a4 40 = .ok (.istore_n 0, 1) := by decide +kernel
theorem dJ6_bitCount_0f7a4_41 : decode cJ6_bitCount_0f7a4 41 = .ok (.iload_n 0, 1) := by decide +kernel
theorem dJ6_bitCount_0f7a4_42 : decode cJ6_bitCount_0f7a4 42 = .ok (.iload_n 0, 1) := by decide +kernel
theorem dJ6_bitCount_0f7a4_43 : decode cJ6_bitCount_0f7a4 43 = .ok (.bipush 16, 2) := by decide +kernel
theorem dJ6_bitCount_0f7a4_45 : decode cJ6_bitCount_0f7a4 45 = .ok (.iushr, 1) := by decide +kernel
theorem dJ6_bitCount_0f7a4_46 : decode cJ6_bitCount_0f7a4 46 = .ok (.iadd, 1) := by decide +kernel
theorem dJ6_bitCount_0f7a4_47 : decode cJ6_bitCount_0f7a4 47 = .ok (.istore_n 0, 1) := by decide +kernel
theorem dJ6_bitCount_0f7a4_48 : decode cJ6_bitCount_0f7a4 48 = .ok (.iload_n 0, 1) := by decide +kernel
theorem dJ6_bitCount_0f7a4_49 : decode cJ6_bitCount_0f7a4 49 = .ok (.bipush 63, 2) := by decide +kernel
theorem dJ6_bitCount_0f7a4_51 : decode cJ6_bitCount_0f7a4 51 = .ok (.iand, 1) := by decide +kernel
theorem dJ6_bitCount_0f7a4_52 : decode cJ6_bitCount_0f7a4 52 = .ok (.ireturn, 1) := by decide +kernel
theorem dJ13_bitCount_95d88_0 : decode cJ13_bitCount_95d88 0 = .ok (.lload_n 0, 1) := by decide +kernel
theorem dJ13_bitCount_95d88_1 : decode cJ13_bitCount_95d88 1 = .ok (.lload_n 0, 1) := by decide +kernel
theorem dJ13_bitCount_95d88_2 : decode cJ13_bitCount_95d88 2 = .ok (.iconst 1, 1) := by decide +kernel
theorem dJ13_bitCount_95d88_3 : decode cJ13_bitCount_95d88 3 = .ok (.lushr, 1) := by decide +kernel
theorem dJ13_bitCount_95d88_4 : decode cJ13_bitCount_95d88 4 = .ok (.ldc2_w 314, 3) := by decide +kernel
theorem dJ13_bitCount_95d88_7 : decode cJ13_bitCount_95d88 7 = .ok (.land, 1) := by decide +kernel
theorem dJ13_bitCount_95d88_8 : decode cJ13_bitCount_95d88 8 = .ok (.lsub, 1) := by decide +kernel
theorem dJ13_bitCount_95d88_9 : decode cJ13_bitCount_95d88 9 = .ok (.lstore_n 0, 1) := by decide +kernel
theorem dJ13_bitCount_95d88_10 : decode cJ13_bitCount_95d88 10 = .ok (.lload_n 0, 1) := by decide +kernel
theorem dJ13_bitCount_95d88_11 : decode cJ13_bitCount_95d88 11 = .ok (.ldc2_w 316, 3) := by decide +kernel
theorem dJ13_bitCount_95d88_14 : decode cJ13_bitCount_95d88 14 = .ok (.land, 1) := by decide +kernel
theorem dJ13_bitCount_95d88_15 : decode cJ13_bitCount_95d88 15 = .ok (.lload_n 0, 1) := by decide +kernel
theorem dJ13_bitCount_95d88_16 : decode cJ13_bitCount_95d88 16 = .ok (.iconst 2, 1) := by decide +kernel
theorem dJ13_bitCount_95d88_17 : decode cJ13_bitCount_95d88 17 = .ok (.lushr, 1) := by decide +kernel
theorem dJ13_bitCount_95d88_18 : decode cJ13_bitCount_95d88 18 = .ok (.ldc2_w 316, 3) := by decide +kernel
theorem dJ13_bitCount_95d88_21 : decode cJ13_bitCount_95d88 21 = .ok (.land, 1) := by decide +kernel
theorem dJ13_bitCount_95d88_22 : decode cJ13_bitCount_95d88 22 = .ok (.ladd, 1) := by decide +kernel
theorem dJ13_bitCount_95d88_23 : decode cJ13_bitCount_95d88 23 = .ok (.lstore_n 0, 1) := by decide +kernel
theorem dJ13_bitCount_95d88_24 : decode cJ13_bitCount_95d88 24 = .ok (.lload_n 0, 1) := by decide +kernel
theorem dJ13_bitCount_95d88_25 : decode cJ13_bitCount_95d88 25 = .ok (.lload_n 0, 1) := by decide +kernel
theorem dJ13_bitCount_95d88_26 : decode cJ13_bitCount_95d88 26 = .ok (.iconst 4, 1) := by decide +kernel
theorem dJ13_bitCount_95d88_27 : decode cJ13_bitCount_95d88 27 = .ok (.lushr, 1) := by decide +kernel
theorem dJ13_bitCount_95d88_28 : decode cJ13_bitCount_95d88 28 = .ok (.ladd, 1) := by decide +kernel
theorem dJ13_bitCount_95d88_29 : decode cJ13_bitCount_95d88 29 = .ok (.ldc2_w 318, 3) := by decide +kernel
theorem dJ13_bitCount_95d88_32 : decode cJ13_bitCount_95d88 32 = .ok (.land, 1) := by decide +kernel
theorem dJ13_bitCount_95d88_33 : decode cJ13_bitCount_95d88 33 = .ok (.lstore_n 0, 1) := by decide +kernel
theorem dJ13_bitCount_95d88_34 : decode cJ13_bitCount_95d88 34 = .ok (.lload_n 0, 1) := by decide +kernel
theorem dJ13_bitCount_95d88_35 : decode cJ13_bitCount_95d88 35 = .ok (.lload_n 0, 1) := by decide +kernel
theorem dJ13_bitCount_95d88_36 : decode cJ13_bitCount_95d88 36 = .ok (.bipush 8, 2) := by decide +kernel
theorem dJ13_bitCount_95d88_38 : decode cJ13_bitCount_95d88 38 = .ok (.lushr, 1) := by decide +kernel
theorem dJ13_bitCount_95d88_39 : decode cJ13_bitCount_95d88 39 = .ok (.ladd, 1) := by decide +kernel
theorem dJ13_bitCount_95d88_40 : decode cJ13_bitCount_95d88 40 = .ok (.lstore_n 0, 1) := by decide +kernel
theorem dJ13_bitCount_95d88_41 : decode cJ13_bitCount_95d88 41 = .ok (.lload_n 0, 1) := by decide +kernel
theorem dJ13_bitCount_95d88_42 : decode cJ13_bitCount_95d88 42 = .ok (.lload_n 0, 1) := by decide +kernel
theorem dJ13_bitCount_95d88_43 : decode cJ13_bitCount_95d88 43 = .ok (.bipush 16, 2) := by decide +kernel
theorem dJ13_bitCount_95d88_45 : decode cJ13_bitCount_95d88 45 = .ok (.lushr, 1) := by decide +kernel
theorem dJ13_bitCount_95d88_46 : decode cJ13_bitCount_95d88 46 = .ok (.ladd, 1) := by decide +kernel
theorem dJ13_bitCount_95d88_47 : decode cJ13_bitCount_95d88 47 = .ok (.lstore_n 0, 1) := by decide +kernel
theorem dJ13_bitCount_95d88_48 : decode cJ13_bitCount_95d88 48 = .ok (.lload_n 0, 1) := by decide +kernel
theorem dJ13_bitCount_95d88_49 : decode cJ13_bitCount_95d88 49 = .ok (.lload_n 0, 1) := by decide +kernel
theorem dJ13_bitCount_95d88_50 : decode cJ13_bitCount_95d88 50 = .ok (.bipush 32, 2) := by decide +kernel
theorem dJ13_bitCount_95d88_52 : decode cJ13_bitCount_95d88 52 = .ok (.lushr, 1) := by decide +kernel
theorem dJ13_bitCount_95d88_53 : decode cJ13_bitCount_95d88 53 = .ok (.ladd, 1) := by decide +kernel
theorem dJ13_bitCount_95d88_54 : decode cJ13_bitCount_95d88 54 = .ok (.lstore_n 0, 1) := by decide +kernel
theorem dJ13_bitCount_95d88_55 : decode cJ13_bitCount_95d88 55 = .ok (.lload_n 0, 1) := by decide +kernel
theorem dJ13_bitCount_95d88_56 : decode cJ13_bitCount_95d88 56 = .ok (.l2i, 1) := by decide +kernel
theorem dJ13_bitCount_95d88_57 : decode cJ13_bitCount_95d88 57 = .ok (.bipush 127, 2) := by decide +kernel
theorem dJ13_bitCount_95d88_59 : decode cJ13_bitCount_95d88 59 = .ok (.iand, 1) := by decide +kernel
theorem dJ13_bitCount_95d88_60 : decode cJ13_bitCount_95d88 60 = .ok (.ireturn, 1) := by decide +kernel
theorem dJ9_max_7cf53_0 : decode cJ9_max_7cf53 0 = .ok (.iload_n 0, 1) := by decide +kernel
theorem dJ9_max_7cf53_1 : decode cJ9_max_7cf53 1 = .ok (.iload_n 1, 1) := by decide +kernel
theorem dJ9_max_7cf53_2 : decode cJ9_max_7cf53 2 = .ok (.if_icmp .lt 7, 3) := by decide +kernel
theorem dJ9_max_7cf53_5 : decode cJ9_max_7cf53 5 = .ok (.iload_n 0, 1) := by decide +kernel
theorem dJ9_max_7cf53_6 : decode cJ9_max_7cf53 6 = .ok (.goto 4, 3) := by decide +kernel
theorem dJ9_max_7cf53_9 : decode cJ9_max_7cf53 9 = .ok (.iload_n 1, 1) := by decide +kernel
theorem dJ9_max_7cf53_10 : decode cJ9_max_7cf53 10 = .ok (.ireturn, 1) := by decide +kernel
theorem dJ0_length_8abf5_0 : decode cJ0_length_8abf5 0 = .ok (.aload_n 0, 1) := by decide +kernel
theorem dJ0_length_8abf5_1 : decode cJ0_length_8abf5 1 = .ok (.getfield 9, 3) := by decide +kernel
theorem dJ0_length_8abf5_4 : decode cJ0_length_8abf5 4 = .ok (.arraylength, 1) := by decide +kernel
theorem dJ0_length_8abf5_5 : decode cJ0_length_8abf5 5 = .ok (.aload_n 0, 1) := by decide +kernel
theorem dJ0_length_8abf5_6 : decode cJ0_length_8abf5 6 = .ok (.invokevirtual 335, 3) := by decide +kernel
theorem dJ0_length_8abf5_9 : decode cJ0_length_8abf5 9 = .ok (.ishr, 1) := by decide +kernel
theorem dJ0_length_8abf5_10 : decode cJ0_length_8abf5 10 = .ok (.ireturn, 1) := by decide +kernel
theorem dJ0_charAt_5068e_0 : decode cJ0_charAt_5068e 0 = .ok (.aload_n 0, 1) := by decide +kernel
theorem dJ0_charAt_5068e_1 : decode cJ0_charAt_5068e 1 = .ok (.invokevirtual 492, 3) := by decide +kernel
theorem dJ0_charAt_5068e_4 : decode cJ0_charAt_5068e 4 = .ok (.ifCond .eq 12, 3) := by decide +kernel
theorem dJ0_charAt_5068e_7 : decode cJ0_charAt_5068e 7 = .ok (.aload_n 0, 1) := by decide +kernel
theorem dJ0_charAt_5068e_8 : decode cJ0_charAt_5068e 8 = .ok (.getfield 9, 3) := by decide +kernel
theorem dJ0_charAt_5068e_11 : decode cJ0_charAt_5068e 11 = .ok (.iload_n 1, 1) := by decide +kernel
theorem dJ0_charAt_5068e_12 : decode cJ0_charAt_5068e 12 = .ok (.invokestatic 495, 3) := by decide +kernel
theorem dJ0_charAt_5068e_15 : decode cJ0_charAt_5068e 15 = .ok (.ireturn, 1) := by decide +kernel
theorem dJ0_charAt_5068e_16 : decode cJ0_charAt_5068e 16 = .ok (.aload_n 0, 1) := by decide +kernel
theorem dJ0_charAt_5068e_17 : decode cJ0_charAt_5068e 17 = .ok (.getfield 9, 3) := by decide +kernel
theorem dJ0_charAt_5068e_20 : decode cJ0_charAt_5068e 20 = .ok (.iload_n 1, 1) := by decide +kernel
theorem dJ0_charAt_5068e_21 : decode cJ0_charAt_5068e 21 = .ok (.invokestatic 498, 3) := by decide +kernel
theorem dJ0_charAt_5068e_24 : decode cJ0_charAt_5068e 24 = .ok (.ireturn, 1) := by decide +kernel
theorem dJ0_coder_7d493_0 : decode cJ0_coder_7d493 0 = .ok (.getstatic 38, 3) := by decide +kernel
theorem dJ0_coder_7d493_3 : decode cJ0_coder_7d493 3 = .ok (.ifCond .eq 10, 3) := by decide +kernel
theorem dJ0_coder_7d493_6 : decode cJ0_coder_7d493 6 = .ok (.aload_n 0, 1) := by decide +kernel
theorem dJ0_coder_7d493_7 : decode cJ0_coder_7d493 7 = .ok (.getfield 15, 3) := by decide +kernel
theorem dJ0_coder_7d493_10 : decode cJ0_coder_7d493 10 = .ok (.goto 4, 3) := by decide +kernel
theorem dJ0_coder_7d493_13 : decode cJ0_coder_7d493 13 = .ok (.iconst 1, 1) := by decide +kernel
theorem dJ0_coder_7d493_14 : decode cJ0_coder_7d493 14 = .ok (.ireturn, 1) := by decide +kernel
theorem dJ0_isLatin1_aae02_0 : decode cJ0_isLatin1_aae02 0 = .ok (.getstatic 38, 3) := by decide +kernel
theorem dJ0_isLatin1_aae02_3 : decode cJ0_isLatin1_aae02 3 = .ok (.ifCond .eq 14, 3) := by decide +kernel
theorem dJ0_isLatin1_aae02_6 : decode cJ0_isLatin1_aae02 6 = .ok (.aload_n 0, 1) := by decide +kernel
theorem dJ0_isLatin1_aae02_7 : decode cJ0_isLatin1_aae02 7 = .ok (.getfield 15, 3) := by decide +kernel
theorem dJ0_isLatin1_aae02_10 : decode cJ0_isLatin1_aae02 10 = .ok (.ifCond .ne 7, 3) := by decide +kernel
theorem dJ0_isLatin1_aae02_13 : decode cJ0_isLatin1_aae02 13 = .ok (.iconst 1, 1) := by decide +kernel
theorem dJ0_isLatin1_aae02_14 : decode cJ0_isLatin1_aae02 14 = .ok (.goto 4, 3) := by decide +kernel
theorem dJ0_isLatin1_aae02_17 : decode cJ0_isLatin1_aae02 17 = .ok (.iconst 0, 1) := by decide +kernel
theorem dJ0_isLatin1_aae02_18 : decode cJ0_isLatin1_aae02 18 = .ok (.ireturn, 1) := by decide +kernel
theorem dJ0_checkIndex_df160_0 : decode cJ0_checkIndex_df160 0 = .ok (.iload_n 0, 1) := by decide +kernel
theorem dJ0_checkIndex_df160_1 : decode cJ0_checkIndex_df160 1 = .ok (.iload_n 1, 1) := by decide +kernel
theorem dJ0_checkIndex_df160_2 : decode cJ0_checkIndex_df160 2 = .ok (.getstatic 1053, 3) := by decide +kernel
theorem dJ0_checkIndex_df160_5 : decode cJ0_checkIndex_df160 5 = .ok (.invokestatic 1059, 3) := by decide +kernel
theorem dJ0_checkIndex_df160_8 : decode cJ0_checkIndex_df160 8 = .ok (.pop, 1) := by decide +kernel
theorem dJ0_checkIndex_df160_9 : decode cJ0_checkIndex_df160 9 = .ok (.return_, 1) := by decide +kernel
theorem dJ1_charAt_3b067_0 : decode cJ1_charAt_3b067 0 = .ok (.iload_n 1, 1) := by decide +kernel
theorem dJ1_charAt_3b067_1 : decode cJ1_charAt_3b067 1 = .ok (.aload_n 0, 1) := by decide +kernel
theorem dJ1_charAt_3b067_2 : decode cJ1_charAt_3b067 2 = .ok (.arraylength, 1) := by decide +kernel
theorem dJ1_charAt_3b067_3 : decode cJ1_charAt_3b067 3 = .ok (.invokestatic 9, 3) := by decide +kernel
theorem dJ1_charAt_3b067_6 : decode cJ1_charAt_3b067 6 = .ok (.aload_n 0, 1) := by decide +kernel
theorem dJ1_charAt_3b067_7 : decode cJ1_charAt_3b067 7 = .ok (.iload_n 1, 1) := by decide +kernel
theorem dJ1_charAt_3b067_8 : decode cJ1_charAt_3b067 8 = .ok (.baload, 1) := by decide +kernel
theorem dJ1_charAt_3b067_9 : decode cJ1_charAt_3b067 9 = .ok (.sipush 255, 3) := by decide +kernel
theorem dJ1_charAt_3b067_12 : decode cJ1_charAt_3b067 12 = .ok (.iand, 1) := by decide +kernel
theorem dJ1_charAt_3b067_13 : decode cJ1_charAt_3b067 13 = .ok (.i2c, 1) := by decide +kernel
theorem dJ1_charAt_3b067_14 : decode cJ1_charAt_3b067 14 = .ok (.ireturn, 1) := by decide +kernel
theorem dJ2_getChar_3b067_0 : decode cJ2_getChar_3b067 0 = .ok (.getstatic 44, 3) := by decide +kernel
theorem dJ2_getChar_3b067_3 : decode cJ2_getChar_3b067 3 = .ok (.ifCond .ne 25, 3) := by decide +kernel
theorem dJ2_getChar_3b067_6 : decode cJ2_getChar_3b067 6 = .ok (.iload_n 1, 1) := by decide +kernel
theorem dJ2_getChar_3b067_7 : decode cJ2_getChar_3b067 7 = .ok (.ifCond .lt 11, 3) := by decide +kernel
theorem dJ2_getChar_3b067_10 : decode cJ2_getChar_3b067 10 = .ok (.iload_n 1, 1) := by decide +kernel
theorem dJ2_getChar_3b067_11 : decode cJ2_getChar_3b067 11 = .ok (.aload_n 0, 1) := by decide +kernel
theorem dJ2_getChar_3b067_12 : decode cJ2_getChar_3b067 12 = .ok (.invokestatic 48, 3) := by decide +kernel
theorem dJ2_getChar_3b067_15 : decode cJ2_getChar_3b067 15 = .ok (.if_icmp .lt 13, 3) := by decide +kernel
theorem dJ2_getChar_3b067_18 : decode cJ2_getChar_3b067 18 = .ok (.new 52, 3) := by decide +kernel
theorem dJ2_getChar_3b067_21 : decode cJ2_getChar_3b067 21 = .ok (.dup, 1) := by decide +kernel
theorem dJ2_getChar_3b067_22 : decode cJ2_getChar_3b067 22 = .ok (.ldc 54, 2) := by decide +kernel
theorem dJ2_getChar_3b067_24 : decode cJ2_getChar_3b067 24 = .ok (.invokespecial 56, 3) := by decide +kernel
theorem dJ2_getChar_3b067_27 : decode cJ2_getChar_3b067 27 = .ok (.athrow, 1) := by decide +kernel
theorem dJ2_getChar_3b067_28 : decode cJ2_getChar_3b067 28 = .ok (.iload_n 1, 1) := by decide +kernel
theorem dJ2_getChar_3b067_29 : decode cJ2_getChar_3b067 29 = .ok (.iconst 1, 1) := by decide +kernel
theorem dJ2_getChar_3b067_30 : decode cJ2_getChar_3b067 30 = .ok (.ishl, 1) := by decide +kernel
theorem dJ2_getChar_3b067_31 : decode cJ2_getChar_3b067 31 = .ok (.istore_n 1, 1) := by decide +kernel
theorem dJ2_getChar_3b067_32 : decode cJ2_getChar_3b067 32 = .ok (.aload_n 0, 1) := by decide +kernel
theorem dJ2_getChar_3b067_33 : decode cJ2_getChar_3b067 33 = .ok (.iload_n 1, 1) := by decide +kernel
theorem dJ2_getChar_3b067_34 : decode cJ2_getChar_3b067 34 = .ok (.iinc 1 1, 3) := by decide +kernel
theorem dJ2_getChar_3b067_37 : decode cJ2_getChar_3b067 37 = .ok (.baload, 1) := by decide +kernel
theorem dJ2_getChar_3b067_38 : decode cJ2_getChar_3b067 38 = .ok (.sipush 255, 3) := by decide +kernel
theorem dJ2_getChar_3b067_41 : decode cJ2_getChar_3b067 41 = .ok (.iand, 1) := by decide +kernel
theorem dJ2_getChar_3b067_42 : decode cJ2_getChar_3b067 42 = .ok (.getstatic 59, 3) := by decide +kernel
theorem dJ2_getChar_3b067_45 : decode cJ2_getChar_3b067 45 = .ok (.ishl, 1) := by decide +kernel
theorem dJ2_getChar_3b067_46 : decode cJ2_getChar_3b067 46 = .ok (.aload_n 0, 1) := by decide +kernel
theorem dJ2_getChar_3b067_47 : decode cJ2_getChar_3b067 47 = .ok (.iload_n 1, 1) := by decide +kernel
theorem dJ2_getChar_3b067_48 : decode cJ2_getChar_3b067 48 = .ok (.baload, 1) := by decide +kernel
theorem dJ2_getChar_3b067_49 : decode cJ2_getChar_3b067 49 = .ok (.sipush 255, 3) := by decide +kernel
theorem dJ2_getChar_3b067_52 : decode cJ2_getChar_3b067 52 = .ok (.iand, 1) := by decide +kernel
theorem dJ2_getChar_3b067_53 : decode cJ2_getChar_3b067 53 = .ok (.getstatic 63, 3) := by decide +kernel
theorem dJ2_getChar_3b067_56 : decode cJ2_getChar_3b067 56 = .ok (.ishl, 1) := by decide +kernel
theorem dJ2_getChar_3b067_57 : decode cJ2_getChar_3b067 57 = .ok (.ior, 1) := by decide +kernel
theorem dJ2_getChar_3b067_58 : decode cJ2_getChar_3b067 58 = .ok (.i2c, 1) := by decide +kernel
theorem dJ2_getChar_3b067_59 : decode cJ2_getChar_3b067 59 = .ok (.ireturn, 1) := by decide +kernel
theorem dJ2_length_9d52b_0 : decode cJ2_length_9d52b 0 = .ok (.aload_n 0, 1) := by decide +kernel
theorem dJ2_length_9d52b_1 : decode cJ2_length_9d52b 1 = .ok (.arraylength, 1) := by decide +kernel
theorem dJ2_length_9d52b_2 : decode cJ2_length_9d52b 2 = .ok (.iconst 1, 1) := by decide +kernel
theorem dJ2_length_9d52b_3 : decode cJ2_length_9d52b 3 = .ok (.ishr, 1) := by decide +kernel
theorem dJ2_length_9d52b_4 : decode cJ2_length_9d52b 4 = .ok (.ireturn, 1) := by decide +kernel
theorem dJ2_charAt_3b067_0 : decode cJ2_charAt_3b067 0 = .ok (.iload_n 1, 1) := by decide +kernel
theorem dJ2_charAt_3b067_1 : decode cJ2_charAt_3b067 1 = .ok (.aload_n 0, 1) := by decide +kernel
theorem dJ2_charAt_3b067_2 : decode cJ2_charAt_3b067 2 = .ok (.invokestatic 67, 3) := by decide +kernel
theorem dJ2_charAt_3b067_5 : decode cJ2_charAt_3b067 5 = .ok (.aload_n 0, 1) := by decide +kernel
theorem dJ2_charAt_3b067_6 : decode cJ2_charAt_3b067 6 = .ok (.iload_n 1, 1) := by decide +kernel
theorem dJ2_charAt_3b067_7 : decode cJ2_charAt_3b067 7 = .ok (.invokestatic 71, 3) := by decide +kernel
theorem dJ2_charAt_3b067_10 : decode cJ2_charAt_3b067 10 = .ok (.ireturn, 1) := by decide +kernel
theorem dJ2_checkIndex_2214a_0 : decode cJ2_checkIndex_2214a 0 = .ok (.iload_n 0, 1) := by decide +kernel
theorem dJ2_checkIndex_2214a_1 : decode cJ2_checkIndex_2214a 1 = .ok (.aload_n 1, 1) := by decide +kernel
theorem dJ2_checkIndex_2214a_2 : decode cJ2_checkIndex_2214a 2 = .ok (.invokestatic 48, 3) := by decide +kernel
theorem dJ2_checkIndex_2214a_5 : decode cJ2_checkIndex_2214a 5 = .ok (.invokestatic 414, 3) := by decide +kernel
theorem dJ2_checkIndex_2214a_8 : decode cJ2_checkIndex_2214a 8 = .ok (.return_, 1) := by decide +kernel
theorem dJ3_checkIndex_8e157_0 : decode cJ3_checkIndex_8e157 0 = .ok (.iload_n 0, 1) := by decide +kernel
theorem dJ3_checkIndex_8e157_1 : decode cJ3_checkIndex_8e157 1 = .ok (.ifCond .lt 8, 3) := by decide +kernel
theorem dJ3_checkIndex_8e157_4 : decode cJ3_checkIndex_8e157 4 = .ok (.iload_n 0, 1) := by decide +kernel
theorem dJ3_checkIndex_8e157_5 : decode cJ3_checkIndex_8e157 5 = .ok (.iload_n 1, 1) := by decide +kernel
theorem dJ3_checkIndex_8e157_6 : decode cJ3_checkIndex_8e157 6 = .ok (.if_icmp .lt 10, 3) := by decide +kernel
theorem dJ3_checkIndex_8e157_9 : decode cJ3_checkIndex_8e157 9 = .ok (.aload_n 2, 1) := by decide +kernel
theorem dJ3_checkIndex_8e157_10 : decode cJ3_checkIndex_8e157 10 = .ok (.iload_n 0, 1) := by decide +kernel
theorem dJ3_checkIndex_8e157_11 : decode cJ3_checkIndex_8e157 11 = .ok (.iload_n 1, 1) := by decide +kernel
theorem dJ3_checkIndex_8e157_12 : decode cJ3_checkIndex_8e157 12 = .ok (.invokestatic 95, 3) := by decide +kernel
theorem dJ3_checkIndex_8e157_15 : decode cJ3_checkIndex_8e157 15 = .ok (.athrow, 1) := by decide +kernel
theorem dJ3_checkIndex_8e157_16 : decode cJ3_checkIndex_8e157 16 = .ok (.iload_n 0, 1) := by decide +kernel
theorem dJ3_checkIndex_8e157_17 : decode cJ3_checkIndex_8e157 17 = .ok (.ireturn, 1) := by decide +kernel
theorem dL_place_0 : decode cL_place 0 = .ok (.aload_n 2, 1) := by decide +kernel
theorem dL_place_1 : decode cL_place 1 = .ok (.iconst 0, 1) := by decide +kernel
theorem dL_place_2 : decode cL_place 2 = .ok (.aload_n 0, 1) := by decide +kernel
theorem dL_place_3 : decode cL_place 3 = .ok (.iload_n 1, 1) := by decide +kernel
theorem dL_place_4 : decode cL_place 4 = .ok (.invokevirtual 7, 3) := by decide +kernel
theorem dL_place_7 : decode cL_place 7 = .ok (.i2l, 1) := by decide +kernel
theorem dL_place_8 : decode cL_place 8 = .ok (.lastore, 1) := by decide +kernel
theorem dL_place_9 : decode cL_place 9 = .ok (.goto 6, 3) := by decide +kernel
theorem dL_place_12 : decode cL_place 12 = .ok (.astore_n 3, 1) := by decide +kernel
theorem dL_place_13 : decode cL_place 13 = .ok (.iconst 1, 1) := by decide +kernel
theorem dL_place_14 : decode cL_place 14 = .ok (.ireturn, 1) := by decide +kernel
theorem dL_place_15 : decode cL_place 15 = .ok (.iconst 0, 1) := by decide +kernel
theorem dL_place_16 : decode cL_place 16 = .ok (.ireturn, 1) := by decide +kernel
theorem dL_at_0 : decode cL_at 0 = .ok (.aload_n 2, 1) := by decide +kernel
theorem dL_at_1 : decode cL_at 1 = .ok (.iconst 0, 1) := by decide +kernel
theorem dL_at_2 : decode cL_at 2 = .ok (.aload_n 0, 1) := by decide +kernel
theorem dL_at_3 : decode cL_at 3 = .ok (.iload_n 1, 1) := by decide +kernel
theorem dL_at_4 : decode cL_at 4 = .ok (.invokevirtual 15, 3) := by decide +kernel
theorem dL_at_7 : decode cL_at 7 = .ok (.i2l, 1) := by decide +kernel
theorem dL_at_8 : decode cL_at 8 = .ok (.lastore, 1) := by decide +kernel
theorem dL_at_9 : decode cL_at 9 = .ok (.goto 6, 3) := by decide +kernel
theorem dL_at_12 : decode cL_at 12 = .ok (.astore_n 3, 1) := by decide +kernel
theorem dL_at_13 : decode cL_at 13 = .ok (.iconst 1, 1) := by decide +kernel
theorem dL_at_14 : decode cL_at 14 = .ok (.ireturn, 1) := by decide +kernel
theorem dL_at_15 : decode cL_at 15 = .ok (.iconst 0, 1) := by decide +kernel
theorem dL_at_16 : decode cL_at 16 = .ok (.ireturn, 1) := by decide +kernel
theorem dL_row_0 : decode cL_row 0 = .ok (.aload_n 2, 1) := by decide +kernel
theorem dL_row_1 : decode cL_row 1 = .ok (.iconst 0, 1) := by decide +kernel
theorem dL_row_2 : decode cL_row 2 = .ok (.aload_n 0, 1) := by decide +kernel
theorem dL_row_3 : decode cL_row 3 = .ok (.iload_n 1, 1) := by decide +kernel
theorem dL_row_4 : decode cL_row 4 = .ok (.invokevirtual 18, 3) := by decide +kernel
theorem dL_row_7 : decode cL_row 7 = .ok (.lastore, 1) := by decide +kernel
theorem dL_row_8 : decode cL_row 8 = .ok (.goto 6, 3) := by decide +kernel
theorem dL_row_11 : decode cL_row 11 = .ok (.astore_n 3, 1) := by decide +kernel
theorem dL_row_12 : decode cL_row 12 = .ok (.iconst 1, 1) := by decide +kernel
theorem dL_row_13 : decode cL_row 13 = .ok (.ireturn, 1) := by decide +kernel
theorem dL_row_14 : decode cL_row 14 = .ok (.iconst 0, 1) := by decide +kernel
theorem dL_row_15 : decode cL_row 15 = .ok (.ireturn, 1) := by decide +kernel
theorem dL_law_0 : decode cL_law 0 = .ok (.new 8, 3) := by decide +kernel
theorem dL_law_3 : decode cL_law 3 = .ok (.dup, 1) := by decide +kernel
theorem dL_law_4 : decode cL_law 4 = .ok (.invokespecial 22, 3) := by decide +kernel
theorem dL_law_7 : decode cL_law 7 = .ok (.astore_n 1, 1) := by decide +kernel
theorem dL_law_8 : decode cL_law 8 = .ok (.new 23, 3) := by decide +kernel
theorem dL_law_11 : decode cL_law 11 = .ok (.dup, 1) := by decide +kernel
theorem dL_law_12 : decode cL_law 12 = .ok (.invokespecial 25, 3) := by decide +kernel
theorem dL_law_15 : decode cL_law 15 = .ok (.astore_n 2, 1) := by decide +kernel
theorem dL_law_16 : decode cL_law 16 = .ok (.iconst 1, 1) := by decide +kernel
theorem dL_law_17 : decode cL_law 17 = .ok (.newarray .long, 2) := by decide +kernel
theorem dL_law_19 : decode cL_law 19 = .ok (.astore_n 3, 1) := by decide +kernel
theorem dL_law_20 : decode cL_law 20 = .ok (.iconst 0, 1) := by decide +kernel
theorem dL_law_21 : decode cL_law 21 = .ok (.istore 4, 2) := by decide +kernel
theorem dL_law_23 : decode cL_law 23 = .ok (.iload 4, 2) := by decide +kernel
theorem dL_law_25 : decode cL_law 25 = .ok (.aload_n 0, 1) := by decide +kernel
theorem dL_law_26 : decode cL_law 26 = .ok (.arraylength, 1) := by decide +kernel
theorem dL_law_27 : decode cL_law 27 = .ok (.iconst 3, 1) := by decide +kernel
theorem dL_law_28 : decode cL_law 28 = .ok (.isub, 1) := by decide +kernel
theorem dL_law_29 : decode cL_law 29 = .ok (.if_icmp .gt 1242, 3) := by decide +kernel
theorem dL_law_32 : decode cL_law 32 = .ok (.aload_n 0, 1) := by decide +kernel
theorem dL_law_33 : decode cL_law 33 = .ok (.iload 4, 2) := by decide +kernel
theorem dL_law_35 : decode cL_law 35 = .ok (.iaload, 1) := by decide +kernel
theorem dL_law_36 : decode cL_law 36 = .ok (.bipush 63, 2) := by decide +kernel
theorem dL_law_38 : decode cL_law 38 = .ok (.iand, 1) := by decide +kernel
theorem dL_law_39 : decode cL_law 39 = .ok (.tableswitch 1226 0 36 #[161, 186, 211, 224, 249, 262, 287, 324, 361, 374, 430, 486, 523, 560, 597, 634, 671, 708, 745, 770, 783, 796, 809, 834, 871, 908, 921, 946, 983, 1020, 1033, 1046, 1059, 1096, 1121, 1146, 1171], 161) := by decide +kernel
theorem dL_law_200 : decode cL_law 200 = .ok (.aload_n 1, 1) := by decide +kernel
theorem dL_law_201 : decode cL_law 201 = .ok (.aload_n 0, 1) := by decide +kernel
theorem dL_law_202 : decode cL_law 202 = .ok (.iload 4, 2) := by decide +kernel
theorem dL_law_204 : decode cL_law 204 = .ok (.iconst 1, 1) := by decide +kernel
theorem dL_law_205 : decode cL_law 205 = .ok (.iadd, 1) := by decide +kernel
theorem dL_law_206 : decode cL_law 206 = .ok (.iaload, 1) := by decide +kernel
theorem dL_law_207 : decode cL_law 207 = .ok (.invokevirtual 26, 3) := by decide +kernel
theorem dL_law_210 : decode cL_law 210 = .ok (.aload_n 2, 1) := by decide +kernel
theorem dL_law_211 : decode cL_law 211 = .ok (.aload_n 0, 1) := by decide +kernel
theorem dL_law_212 : decode cL_law 212 = .ok (.iload 4, 2) := by decide +kernel
theorem dL_law_214 : decode cL_law 214 = .ok (.iconst 1, 1) := by decide +kernel
theorem dL_law_215 : decode cL_law 215 = .ok (.iadd, 1) := by decide +kernel
theorem dL_law_216 : decode cL_law 216 = .ok (.iaload, 1) := by decide +kernel
theorem dL_law_217 : decode cL_law 217 = .ok (.invokevirtual 29, 3) := by decide +kernel
theorem dL_law_220 : decode cL_law 220 = .ok (.if_icmp .eq 1045, 3) := by decide +kernel
theorem dL_law_223 : decode cL_law 223 = .ok (.iconst 0, 1) := by decide +kernel
theorem dL_law_224 : decode cL_law 224 = .ok (.ireturn, 1) := by decide +kernel
theorem dL_law_225 : decode cL_law 225 = .ok (.aload_n 1, 1) := by decide +kernel
theorem dL_law_226 : decode cL_law 226 = .ok (.aload_n 0, 1) := by decide +kernel
theorem dL_law_227 : decode cL_law 227 = .ok (.iload 4, 2) := by decide +kernel
theorem dL_law_229 : decode cL_law 229 = .ok (.iconst 1, 1) := by decide +kernel
theorem dL_law_230 : decode cL_law 230 = .ok (.iadd, 1) := by decide +kernel
theorem dL_law_231 : decode cL_law 231 = .ok (.iaload, 1) := by decide +kernel
theorem dL_law_232 : decode cL_law 232 = .ok (.invokevirtual 30, 3) := by decide +kernel
theorem dL_law_235 : decode cL_law 235 = .ok (.aload_n 2, 1) := by decide +kernel
theorem dL_law_236 : decode cL_law 236 = .ok (.aload_n 0, 1) := by decide +kernel
theorem dL_law_237 : decode cL_law 237 = .ok (.iload 4, 2) := by decide +kernel
theorem dL_law_239 : decode cL_law 239 = .ok (.iconst 1, 1) := by decide +kernel
theorem dL_law_240 : decode cL_law 240 = .ok (.iadd, 1) := by decide +kernel
theorem dL_law_241 : decode cL_law 241 = .ok (.iaload, 1) := by decide +kernel
theorem dL_law_242 : decode cL_law 242 = .ok (.invokevirtual 34, 3) := by decide +kernel
theorem dL_law_245 : decode cL_law 245 = .ok (.if_icmp .eq 1020, 3) := by decide +kernel
theorem dL_law_248 : decode cL_law 248 = .ok (.iconst 0, 1) := by decide +kernel
theorem dL_law_249 : decode cL_law 249 = .ok (.ireturn, 1) := by decide +kernel
theorem dL_law_250 : decode cL_law 250 = .ok (.aload_n 1, 1) := by decide +kernel
theorem dL_law_251 : decode cL_law 251 = .ok (.invokevirtual 35, 3) := by decide +kernel
theorem dL_law_254 : decode cL_law 254 = .ok (.aload_n 2, 1) := by decide +kernel
theorem dL_law_255 : decode cL_law 255 = .ok (.invokevirtual 39, 3) := by decide +kernel
theorem dL_law_258 : decode cL_law 258 = .ok (.if_icmp .eq 1007, 3) := by decide +kernel
theorem dL_law_261 : decode cL_law 261 = .ok (.iconst 0, 1) := by decide +kernel
theorem dL_law_262 : decode cL_law 262 = .ok (.ireturn, 1) := by decide +kernel
theorem dL_law_263 : decode cL_law 263 = .ok (.aload_n 1, 1) := by decide +kernel
theorem dL_law_264 : decode cL_law 264 = .ok (.aload_n 0, 1) := by decide +kernel
theorem dL_law_265 : decode cL_law 265 = .ok (.iload 4, 2) := by decide +kernel
theorem dL_law_267 : decode cL_law 267 = .ok (.iconst 1, 1) := by decide +kernel
theorem dL_law_268 : decode cL_law 268 = .ok (.iadd, 1) := by decide +kernel
theorem dL_law_269 : decode cL_law 269 = .ok (.iaload, 1) := by decide +kernel
theorem dL_law_270 : decode cL_law 270 = .ok (.invokevirtual 40, 3) := by decide +kernel
theorem dL_law_273 : decode cL_law 273 = .ok (.aload_n 2, 1) := by decide +kernel
theorem dL_law_274 : decode cL_law 274 = .ok (.aload_n 0, 1) := by decide +kernel
theorem dL_law_275 : decode cL_law 275 = .ok (.iload 4, 2) := by decide +kernel
theorem dL_law_277 : decode cL_law 277 = .ok (.iconst 1, 1) := by decide +kernel
theorem dL_law_278 : decode cL_law 278 = .ok (.iadd, 1) := by decide +kernel
theorem dL_law_279 : decode cL_law 279 = .ok (.iaload, 1) := by decide +kernel
theorem dL_law_280 : decode cL_law 280 = .ok (.invokevirtual 43, 3) := by decide +kernel
theorem dL_law_283 : decode cL_law 283 = .ok (.if_icmp .eq 982, 3) := by decide +kernel
theorem dL_law_286 : decode cL_law 286 = .ok (.iconst 0, 1) := by decide +kernel
theorem dL_law_287 : decode cL_law 287 = .ok (.ireturn, 1) := by decide +kernel
theorem dL_law_288 : decode cL_law 288 = .ok (.aload_n 1, 1) := by decide +kernel
theorem dL_law_289 : decode cL_law 289 = .ok (.invokevirtual 44, 3) := by decide +kernel
theorem dL_law_292 : decode cL_law 292 = .ok (.aload_n 2, 1) := by decide +kernel
theorem dL_law_293 : decode cL_law 293 = .ok (.invokevirtual 47, 3) := by decide +kernel
theorem dL_law_296 : decode cL_law 296 = .ok (.if_icmp .eq 969, 3) := by decide +kernel
theorem dL_law_299 : decode cL_law 299 = .ok (.iconst 0, 1) := by decide +kernel
theorem dL_law_300 : decode cL_law 300 = .ok (.ireturn, 1) := by decide +kernel
theorem dL_law_301 : decode cL_law 301 = .ok (.aload_n 1, 1) := by decide +kernel
theorem dL_law_302 : decode cL_law 302 = .ok (.aload_n 0, 1) := by decide +kernel
theorem dL_law_303 : decode cL_law 303 = .ok (.iload 4, 2) := by decide +kernel
theorem dL_law_305 : decode cL_law 305 = .ok (.iconst 1, 1) := by decide +kernel
theorem dL_law_306 : decode cL_law 306 = .ok (.iadd, 1) := by decide +kernel
theorem dL_law_307 : decode cL_law 307 = .ok (.iaload, 1) := by decide +kernel
theorem dL_law_308 : decode cL_law 308 = .ok (.invokevirtual 48, 3) := by decide +kernel
theorem dL_law_311 : decode cL_law 311 = .ok (.aload_n 2, 1) := by decide +kernel
theorem dL_law_312 : decode cL_law 312 = .ok (.aload_n 0, 1) := by decide +kernel
theorem dL_law_313 : decode cL_law 313 = .ok (.iload 4, 2) := by decide +kernel
theorem dL_law_315 : decode cL_law 315 = .ok (.iconst 1, 1) := by decide +kernel
theorem dL_law_316 : decode cL_law 316 = .ok (.iadd, 1) := by decide +kernel
theorem dL_law_317 : decode cL_law 317 = .ok (.iaload, 1) := by decide +kernel
theorem dL_law_318 : decode cL_law 318 = .ok (.invokevirtual 51, 3) := by decide +kernel
theorem dL_law_321 : decode cL_law 321 = .ok (.if_icmp .eq 944, 3) := by decide +kernel
theorem dL_law_324 : decode cL_law 324 = .ok (.iconst 0, 1) := by decide +kernel
theorem dL_law_325 : decode cL_law 325 = .ok (.ireturn, 1) := by decide +kernel
theorem dL_law_326 : decode cL_law 326 = .ok (.aload_n 1, 1) := by decide +kernel
theorem dL_law_327 : decode cL_law 327 = .ok (.aload_n 0, 1) := by decide +kernel
theorem dL_law_328 : decode cL_law 328 = .ok (.iload 4, 2) := by decide +kernel
theorem dL_law_330 : decode cL_law 330 = .ok (.iconst 1, 1) := by decide +kernel
theorem dL_law_331 : decode cL_law 331 = .ok (.iadd, 1) := by decide +kernel
theorem dL_law_332 : decode cL_law 332 = .ok (.iaload, 1) := by decide +kernel
theorem dL_law_333 : decode cL_law 333 = .ok (.aload_n 0, 1) := by decide +kernel
theorem dL_law_334 : decode cL_law 334 = .ok (.iload 4, 2) := by decide +kernel
theorem dL_law_336 : decode cL_law 336 = .ok (.iconst 2, 1) := by decide +kernel
theorem dL_law_337 : decode cL_law 337 = .ok (.iadd, 1) := by decide +kernel
theorem dL_law_338 : decode cL_law 338 = .ok (.iaload, 1) := by decide +kernel
theorem dL_law_339 : decode cL_law 339 = .ok (.invokevirtual 52, 3) := by decide +kernel
theorem dL_law_342 : decode cL_law 342 = .ok (.aload_n 2, 1) := by decide +kernel
theorem dL_law_343 : decode cL_law 343 = .ok (.aload_n 0, 1) := by decide +kernel
theorem dL_law_344 : decode cL_law 344 = .ok (.iload 4, 2) := by decide +kernel
theorem dL_law_346 : decode cL_law 346 = .ok (.iconst 1, 1) := by decide +kernel
theorem dL_law_347 : decode cL_law 347 = .ok (.iadd, 1) := by decide +kernel
theorem dL_law_348 : decode cL_law 348 = .ok (.iaload, 1) := by decide +kernel
theorem dL_law_349 : decode cL_law 349 = .ok (.aload_n 0, 1) := by decide +kernel
theorem dL_law_350 : decode cL_law 350 = .ok (.iload 4, 2) := by decide +kernel
theorem dL_law_352 : decode cL_law 352 = .ok (.iconst 2, 1) := by decide +kernel
theorem dL_law_353 : decode cL_law 353 = .ok (.iadd, 1) := by decide +kernel
theorem dL_law_354 : decode cL_law 354 = .ok (.iaload, 1) := by decide +kernel
theorem dL_law_355 : decode cL_law 355 = .ok (.invokevirtual 56, 3) := by decide +kernel
theorem dL_law_358 : decode cL_law 358 = .ok (.if_icmp .eq 907, 3) := by decide +kernel
theorem dL_law_361 : decode cL_law 361 = .ok (.iconst 0, 1) := by decide +kernel
theorem dL_law_362 : decode cL_law 362 = .ok (.ireturn, 1) := by decide +kernel
theorem dL_law_363 : decode cL_law 363 = .ok (.aload_n 1, 1) := by decide +kernel
theorem dL_law_364 : decode cL_law 364 = .ok (.aload_n 0, 1) := by decide +kernel
theorem dL_law_365 : decode cL_law 365 = .ok (.iload 4, 2) := by decide +kernel
theorem dL_law_367 : decode cL_law 367 = .ok (.iconst 1, 1) := by decide +kernel
theorem dL_law_368 : decode cL_law 368 = .ok (.iadd, 1) := by decide +kernel
theorem dL_law_369 : decode cL_law 369 = .ok (.iaload, 1) := by decide +kernel
theorem dL_law_370 : decode cL_law 370 = .ok (.aload_n 0, 1) := by decide +kernel
theorem dL_law_371 : decode cL_law 371 = .ok (.iload 4, 2) := by decide +kernel
theorem dL_law_373 : decode cL_law 373 = .ok (.iconst 2, 1) := by decide +kernel
theorem dL_law_374 : decode cL_law 374 = .ok (.iadd, 1) := by decide +kernel
theorem dL_law_375 : decode cL_law 375 = .ok (.iaload, 1) := by decide +kernel
theorem dL_law_376 : decode cL_law 376 = .ok (.invokevirtual 57, 3) := by decide +kernel
theorem dL_law_379 : decode cL_law 379 = .ok (.aload_n 2, 1) := by decide +kernel
theorem dL_law_380 : decode cL_law 380 = .ok (.aload_n 0, 1) := by decide +kernel
theorem dL_law_381 : decode cL_law 381 = .ok (.iload 4, 2) := by decide +kernel
theorem dL_law_383 : decode cL_law 383 = .ok (.iconst 1, 1) := by decide +kernel
theorem dL_law_384 : decode cL_law 384 = .ok (.iadd, 1) := by decide +kernel
theorem dL_law_385 : decode cL_law 385 = .ok (.iaload, 1) := by decide +kernel
theorem dL_law_386 : decode cL_law 386 = .ok (.aload_n 0, 1) := by decide +kernel
theorem dL_law_387 : decode cL_law 387 = .ok (.iload 4, 2) := by decide +kernel
theorem dL_law_389 : decode cL_law 389 = .ok (.iconst 2, 1) := by decide +kernel
theorem dL_law_390 : decode cL_law 390 = .ok (.iadd, 1) := by decide +kernel
theorem dL_law_391 : decode cL_law 391 = .ok (.iaload, 1) := by decide +kernel
theorem dL_law_392 : decode cL_law 392 = .ok (.invokevirtual 60, 3) := by decide +kernel
theorem dL_law_395 : decode cL_law 395 = .ok (.if_icmp .eq 870, 3) := by decide +kernel
theorem dL_law_398 : decode cL_law 398 = .ok (.iconst 0, 1) := by decide +kernel
theorem dL_law_399 : decode cL_law 399 = .ok (.ireturn, 1) := by decide +kernel
theorem dL_law_400 : decode cL_law 400 = .ok (.aload_n 1, 1) := by decide +kernel
theorem dL_law_401 : decode cL_law 401 = .ok (.invokevirtual 61, 3) := by decide +kernel
theorem dL_law_404 : decode cL_law 404 = .ok (.aload_n 2, 1) := by decide +kernel
theorem dL_law_405 : decode cL_law 405 = .ok (.invokevirtual 64, 3) := by decide +kernel
theorem dL_law_408 : decode cL_law 408 = .ok (.if_icmp .eq 857, 3) := by decide +kernel
theorem dL_law_411 : decode cL_law 411 = .ok (.iconst 0, 1) := by decide +kernel
theorem dL_law_412 : decode cL_law 412 = .ok (.ireturn, 1) := by decide +kernel
theorem dL_law_413 : decode cL_law 413 = .ok (.aload_n 1, 1) := by decide +kernel
theorem dL_law_414 : decode cL_law 414 = .ok (.aload_n 0, 1) := by decide +kernel
theorem dL_law_415 : decode cL_law 415 = .ok (.iload 4, 2) := by decide +kernel
theorem dL_law_417 : decode cL_law 417 = .ok (.iconst 1, 1) := by decide +kernel
theorem dL_law_418 : decode cL_law 418 = .ok (.iadd, 1) := by decide +kernel
theorem dL_law_419 : decode cL_law 419 = .ok (.iaload, 1) := by decide +kernel
theorem dL_law_420 : decode cL_law 420 = .ok (.aload_n 3, 1) := by decide +kernel
theorem dL_law_421 : decode cL_law 421 = .ok (.invokestatic 65, 3) := by decide +kernel
theorem dL_law_424 : decode cL_law 424 = .ok (.istore 5, 2) := by decide +kernel
theorem dL_law_426 : decode cL_law 426 = .ok (.aload_n 2, 1) := by decide +kernel
theorem dL_law_427 : decode cL_law 427 = .ok (.aload_n 0, 1) := by decide +kernel
theorem dL_law_428 : decode cL_law 428 = .ok (.iload 4, 2) := by decide +kernel
theorem dL_law_430 : decode cL_law 430 = .ok (.iconst 1, 1) := by decide +kernel
theorem dL_law_431 : decode cL_law 431 = .ok (.iadd, 1) := by decide +kernel
theorem dL_law_432 : decode cL_law 432 = .ok (.iaload, 1) := by decide +kernel
theorem dL_law_433 : decode cL_law 433 = .ok (.invokevirtual 70, 3) := by decide +kernel
theorem dL_law_436 : decode cL_law 436 = .ok (.istore 6, 2) := by decide +kernel
theorem dL_law_438 : decode cL_law 438 = .ok (.aload_n 2, 1) := by decide +kernel
theorem dL_law_439 : decode cL_law 439 = .ok (.invokevirtual 71, 3) := by decide +kernel
theorem dL_law_442 : decode cL_law 442 = .ok (.iload 5, 2) := by decide +kernel
theorem dL_law_444 : decode cL_law 444 = .ok (.if_icmp .eq 5, 3) := by decide +kernel
theorem dL_law_447 : decode cL_law 447 = .ok (.iconst 0, 1) := by decide +kernel
theorem dL_law_448 : decode cL_law 448 = .ok (.ireturn, 1) := by decide +kernel
theorem dL_law_449 : decode cL_law 449 = .ok (.iload 5, 2) := by decide +kernel
theorem dL_law_451 : decode cL_law 451 = .ok (.ifCond .ne 15, 3) := by decide +kernel
theorem dL_law_454 : decode cL_law 454 = .ok (.aload_n 3, 1) := by decide +kernel
theorem dL_law_455 : decode cL_law 455 = .ok (.iconst 0, 1) := by decide +kernel
theorem dL_law_456 : decode cL_law 456 = .ok (.laload, 1) := by decide +kernel
theorem dL_law_457 : decode cL_law 457 = .ok (.iload 6, 2) := by decide +kernel
theorem dL_law_459 : decode cL_law 459 = .ok (.i2l, 1) := by decide +kernel
theorem dL_law_460 : decode cL_law 460 = .ok (.lcmp, 1) := by decide +kernel
theorem dL_law_461 : decode cL_law 461 = .ok (.ifCond .eq 5, 3) := by decide +kernel
theorem dL_law_464 : decode cL_law 464 = .ok (.iconst 0, 1) := by decide +kernel
theorem dL_law_465 : decode cL_law 465 = .ok (.ireturn, 1) := by decide +kernel
theorem dL_law_466 : decode cL_law 466 = .ok (.goto 799, 3) := by decide +kernel
theorem dL_law_469 : decode cL_law 469 = .ok (.aload_n 1, 1) := by decide +kernel
theorem dL_law_470 : decode cL_law 470 = .ok (.aload_n 0, 1) := by decide +kernel
theorem dL_law_471 : decode cL_law 471 = .ok (.iload 4, 2) := by decide +kernel
theorem dL_law_473 : decode cL_law 473 = .ok (.iconst 1, 1) := by decide +kernel
theorem dL_law_474 : decode cL_law 474 = .ok (.iadd, 1) := by decide +kernel
theorem dL_law_475 : decode cL_law 475 = .ok (.iaload, 1) := by decide +kernel
theorem dL_law_476 : decode cL_law 476 = .ok (.aload_n 3, 1) := by decide +kernel
theorem dL_law_477 : decode cL_law 477 = .ok (.invokestatic 74, 3) := by decide +kernel
theorem dL_law_480 : decode cL_law 480 = .ok (.istore 5, 2) := by decide +kernel
theorem dL_law_482 : decode cL_law 482 = .ok (.aload_n 2, 1) := by decide +kernel
theorem dL_law_483 : decode cL_law 483 = .ok (.aload_n 0, 1) := by decide +kernel
theorem dL_law_484 : decode cL_law 484 = .ok (.iload 4, 2) := by decide +kernel
theorem dL_law_486 : decode cL_law 486 = .ok (.iconst 1, 1) := by decide +kernel
theorem dL_law_487 : decode cL_law 487 = .ok (.iadd, 1) := by decide +kernel
theorem dL_law_488 : decode cL_law 488 = .ok (.iaload, 1) := by decide +kernel
theorem dL_law_489 : decode cL_law 489 = .ok (.invokevirtual 76, 3) := by decide +kernel
theorem dL_law_492 : decode cL_law 492 = .ok (.istore 6, 2) := by decide +kernel
theorem dL_law_494 : decode cL_law 494 = .ok (.aload_n 2, 1) := by decide +kernel
theorem dL_law_495 : decode cL_law 495 = .ok (.invokevirtual 71, 3) := by decide +kernel
theorem dL_law_498 : decode cL_law 498 = .ok (.iload 5, 2) := by decide +kernel
theorem dL_law_500 : decode cL_law 500 = .ok (.if_icmp .eq 5, 3) := by decide +kernel
theorem dL_law_503 : decode cL_law 503 = .ok (.iconst 0, 1) := by decide +kernel
theorem dL_law_504 : decode cL_law 504 = .ok (.ireturn, 1) := by decide +kernel
theorem dL_law_505 : decode cL_law 505 = .ok (.iload 5, 2) := by decide +kernel
theorem dL_law_507 : decode cL_law 507 = .ok (.ifCond .ne 15, 3) := by decide +kernel
theorem dL_law_510 : decode cL_law 510 = .ok (.aload_n 3, 1) := by decide +kernel
theorem dL_law_511 : decode cL_law 511 = .ok (.iconst 0, 1) := by decide +kernel
theorem dL_law_512 : decode cL_law 512 = .ok (.laload, 1) := by decide +kernel
theorem dL_law_513 : decode cL_law 513 = .ok (.iload 6, 2) := by decide +kernel
theorem dL_law_515 : decode cL_law 515 = .ok (.i2l, 1) := by decide +kernel
theorem dL_law_516 : decode cL_law 516 = .ok (.lcmp, 1) := by decide +kernel
theorem dL_law_517 : decode cL_law 517 = .ok (.ifCond .eq 5, 3) := by decide +kernel
theorem dL_law_520 : decode cL_law 520 = .ok (.iconst 0, 1) := by decide +kernel
theorem dL_law_521 : decode cL_law 521 = .ok (.ireturn, 1) := by decide +kernel
theorem dL_law_522 : decode cL_law 522 = .ok (.goto 743, 3) := by decide +kernel
theorem dL_law_525 : decode cL_law 525 = .ok (.aload_n 1, 1) := by decide +kernel
theorem dL_law_526 : decode cL_law 526 = .ok (.aload_n 0, 1) := by decide +kernel
theorem dL_law_527 : decode cL_law 527 = .ok (.iload 4, 2) := by decide +kernel
theorem dL_law_529 : decode cL_law 529 = .ok (.iconst 1, 1) := by decide +kernel
theorem dL_law_530 : decode cL_law 530 = .ok (.iadd, 1) := by decide +kernel
theorem dL_law_531 : decode cL_law 531 = .ok (.iaload, 1) := by decide +kernel
theorem dL_law_532 : decode cL_law 532 = .ok (.aload_n 0, 1) := by decide +kernel
theorem dL_law_533 : decode cL_law 533 = .ok (.iload 4, 2) := by decide +kernel
theorem dL_law_535 : decode cL_law 535 = .ok (.iconst 2, 1) := by decide +kernel
theorem dL_law_536 : decode cL_law 536 = .ok (.iadd, 1) := by decide +kernel
theorem dL_law_537 : decode cL_law 537 = .ok (.iaload, 1) := by decide +kernel
theorem dL_law_538 : decode cL_law 538 = .ok (.invokevirtual 77, 3) := by decide +kernel
theorem dL_law_541 : decode cL_law 541 = .ok (.aload_n 2, 1) := by decide +kernel
theorem dL_law_542 : decode cL_law 542 = .ok (.aload_n 0, 1) := by decide +kernel
theorem dL_law_543 : decode cL_law 543 = .ok (.iload 4, 2) := by decide +kernel
theorem dL_law_545 : decode cL_law 545 = .ok (.iconst 1, 1) := by decide +kernel
theorem dL_law_546 : decode cL_law 546 = .ok (.iadd, 1) := by decide +kernel
theorem dL_law_547 : decode cL_law 547 = .ok (.iaload, 1) := by decide +kernel
theorem dL_law_548 : decode cL_law 548 = .ok (.aload_n 0, 1) := by decide +kernel
theorem dL_law_549 : decode cL_law 549 = .ok (.iload 4, 2) := by decide +kernel
theorem dL_law_551 : decode cL_law 551 = .ok (.iconst 2, 1) := by decide +kernel
theorem dL_law_552 : decode cL_law 552 = .ok (.iadd, 1) := by decide +kernel
theorem dL_law_553 : decode cL_law 553 = .ok (.iaload, 1) := by decide +kernel
theorem dL_law_554 : decode cL_law 554 = .ok (.invokevirtual 80, 3) := by decide +kernel
theorem dL_law_557 : decode cL_law 557 = .ok (.if_icmp .eq 708, 3) := by decide +kernel
theorem dL_law_560 : decode cL_law 560 = .ok (.iconst 0, 1) := by decide +kernel
theorem dL_law_561 : decode cL_law 561 = .ok (.ireturn, 1) := by decide +kernel
theorem dL_law_562 : decode cL_law 562 = .ok (.aload_n 1, 1) := by decide +kernel
theorem dL_law_563 : decode cL_law 563 = .ok (.aload_n 0, 1) := by decide +kernel
theorem dL_law_564 : decode cL_law 564 = .ok (.iload 4, 2) := by decide +kernel
theorem dL_law_566 : decode cL_law 566 = .ok (.iconst 1, 1) := by decide +kernel
theorem dL_law_567 : decode cL_law 567 = .ok (.iadd, 1) := by decide +kernel
theorem dL_law_568 : decode cL_law 568 = .ok (.iaload, 1) := by decide +kernel
theorem dL_law_569 : decode cL_law 569 = .ok (.aload_n 0, 1) := by decide +kernel
theorem dL_law_570 : decode cL_law 570 = .ok (.iload 4, 2) := by decide +kernel
theorem dL_law_572 : decode cL_law 572 = .ok (.iconst 2, 1) := by decide +kernel
theorem dL_law_573 : decode cL_law 573 = .ok (.iadd, 1) := by decide +kernel
theorem dL_law_574 : decode cL_law 574 = .ok (.iaload, 1) := by decide +kernel
theorem dL_law_575 : decode cL_law 575 = .ok (.invokevirtual 81, 3) := by decide +kernel
theorem dL_law_578 : decode cL_law 578 = .ok (.aload_n 2, 1) := by decide +kernel
theorem dL_law_579 : decode cL_law 579 = .ok (.aload_n 0, 1) := by decide +kernel
theorem dL_law_580 : decode cL_law 580 = .ok (.iload 4, 2) := by decide +kernel
theorem dL_law_582 : decode cL_law 582 = .ok (.iconst 1, 1) := by decide +kernel
theorem dL_law_583 : decode cL_law 583 = .ok (.iadd, 1) := by decide +kernel
theorem dL_law_584 : decode cL_law 584 = .ok (.iaload, 1) := by decide +kernel
theorem dL_law_585 : decode cL_law 585 = .ok (.aload_n 0, 1) := by decide +kernel
theorem dL_law_586 : decode cL_law 586 = .ok (.iload 4, 2) := by decide +kernel
theorem dL_law_588 : decode cL_law 588 = .ok (.iconst 2, 1) := by decide +kernel
theorem dL_law_589 : decode cL_law 589 = .ok (.iadd, 1) := by decide +kernel
theorem dL_law_590 : decode cL_law 590 = .ok (.iaload, 1) := by decide +kernel
theorem dL_law_591 : decode cL_law 591 = .ok (.invokevirtual 84, 3) := by decide +kernel
theorem dL_law_594 : decode cL_law 594 = .ok (.if_icmp .eq 671, 3) := by decide +kernel
theorem dL_law_597 : decode cL_law 597 = .ok (.iconst 0, 1) := by decide +kernel
theorem dL_law_598 : decode cL_law 598 = .ok (.ireturn, 1) := by decide +kernel
theorem dL_law_599 : decode cL_law 599 = .ok (.aload_n 1, 1) := by decide +kernel
theorem dL_law_600 : decode cL_law 600 = .ok (.aload_n 0, 1) := by decide +kernel
theorem dL_law_601 : decode cL_law 601 = .ok (.iload 4, 2) := by decide +kernel
theorem dL_law_603 : decode cL_law 603 = .ok (.iconst 1, 1) := by decide +kernel
theorem dL_law_604 : decode cL_law 604 = .ok (.iadd, 1) := by decide +kernel
theorem dL_law_605 : decode cL_law 605 = .ok (.iaload, 1) := by decide +kernel
theorem dL_law_606 : decode cL_law 606 = .ok (.aload_n 0, 1) := by decide +kernel
theorem dL_law_607 : decode cL_law 607 = .ok (.iload 4, 2) := by decide +kernel
theorem dL_law_609 : decode cL_law 609 = .ok (.iconst 2, 1) := by decide +kernel
theorem dL_law_610 : decode cL_law 610 = .ok (.iadd, 1) := by decide +kernel
theorem dL_law_611 : decode cL_law 611 = .ok (.iaload, 1) := by decide +kernel
theorem dL_law_612 : decode cL_law 612 = .ok (.invokevirtual 85, 3) := by decide +kernel
theorem dL_law_615 : decode cL_law 615 = .ok (.aload_n 2, 1) := by decide +kernel
theorem dL_law_616 : decode cL_law 616 = .ok (.aload_n 0, 1) := by decide +kernel
theorem dL_law_617 : decode cL_law 617 = .ok (.iload 4, 2) := by decide +kernel
theorem dL_law_619 : decode cL_law 619 = .ok (.iconst 1, 1) := by decide +kernel
theorem dL_law_620 : decode cL_law 620 = .ok (.iadd, 1) := by decide +kernel
theorem dL_law_621 : decode cL_law 621 = .ok (.iaload, 1) := by decide +kernel
theorem dL_law_622 : decode cL_law 622 = .ok (.aload_n 0, 1) := by decide +kernel
theorem dL_law_623 : decode cL_law 623 = .ok (.iload 4, 2) := by decide +kernel
theorem dL_law_625 : decode cL_law 625 = .ok (.iconst 2, 1) := by decide +kernel
theorem dL_law_626 : decode cL_law 626 = .ok (.iadd, 1) := by decide +kernel
theorem dL_law_627 : decode cL_law 627 = .ok (.iaload, 1) := by decide +kernel
theorem dL_law_628 : decode cL_law 628 = .ok (.invokevirtual 88, 3) := by decide +kernel
theorem dL_law_631 : decode cL_law 631 = .ok (.if_icmp .eq 634, 3) := by decide +kernel
theorem dL_law_634 : decode cL_law 634 = .ok (.iconst 0, 1) := by decide +kernel
theorem dL_law_635 : decode cL_law 635 = .ok (.ireturn, 1) := by decide +kernel
theorem dL_law_636 : decode cL_law 636 = .ok (.aload_n 1, 1) := by decide +kernel
theorem dL_law_637 : decode cL_law 637 = .ok (.aload_n 0, 1) := by decide +kernel
theorem dL_law_638 : decode cL_law 638 = .ok (.iload 4, 2) := by decide +kernel
theorem dL_law_640 : decode cL_law 640 = .ok (.iconst 1, 1) := by decide +kernel
theorem dL_law_641 : decode cL_law 641 = .ok (.iadd, 1) := by decide +kernel
theorem dL_law_642 : decode cL_law 642 = .ok (.iaload, 1) := by decide +kernel
theorem dL_law_643 : decode cL_law 643 = .ok (.aload_n 0, 1) := by decide +kernel
theorem dL_law_644 : decode cL_law 644 = .ok (.iload 4, 2) := by decide +kernel
theorem dL_law_646 : decode cL_law 646 = .ok (.iconst 2, 1) := by decide +kernel
theorem dL_law_647 : decode cL_law 647 = .ok (.iadd, 1) := by decide +kernel
theorem dL_law_648 : decode cL_law 648 = .ok (.iaload, 1) := by decide +kernel
theorem dL_law_649 : decode cL_law 649 = .ok (.invokevirtual 89, 3) := by decide +kernel
theorem dL_law_652 : decode cL_law 652 = .ok (.aload_n 2, 1) := by decide +kernel
theorem dL_law_653 : decode cL_law 653 = .ok (.aload_n 0, 1) := by decide +kernel
theorem dL_law_654 : decode cL_law 654 = .ok (.iload 4, 2) := by decide +kernel
theorem dL_law_656 : decode cL_law 656 = .ok (.iconst 1, 1) := by decide +kernel
theorem dL_law_657 : decode cL_law 657 = .ok (.iadd, 1) := by decide +kernel
theorem dL_law_658 : decode cL_law 658 = .ok (.iaload, 1) := by decide +kernel
theorem dL_law_659 : decode cL_law 659 = .ok (.aload_n 0, 1) := by decide +kernel
theorem dL_law_660 : decode cL_law 660 = .ok (.iload 4, 2) := by decide +kernel
theorem dL_law_662 : decode cL_law 662 = .ok (.iconst 2, 1) := by decide +kernel
theorem dL_law_663 : decode cL_law 663 = .ok (.iadd, 1) := by decide +kernel
theorem dL_law_664 : decode cL_law 664 = .ok (.iaload, 1) := by decide +kernel
theorem dL_law_665 : decode cL_law 665 = .ok (.invokevirtual 92, 3) := by decide +kernel
theorem dL_law_668 : decode cL_law 668 = .ok (.if_icmp .eq 597, 3) := by decide +kernel
theorem dL_law_671 : decode cL_law 671 = .ok (.iconst 0, 1) := by decide +kernel
theorem dL_law_672 : decode cL_law 672 = .ok (.ireturn, 1) := by decide +kernel
theorem dL_law_673 : decode cL_law 673 = .ok (.aload_n 1, 1) := by decide +kernel
theorem dL_law_674 : decode cL_law 674 = .ok (.aload_n 0, 1) := by decide +kernel
theorem dL_law_675 : decode cL_law 675 = .ok (.iload 4, 2) := by decide +kernel
theorem dL_law_677 : decode cL_law 677 = .ok (.iconst 1, 1) := by decide +kernel
theorem dL_law_678 : decode cL_law 678 = .ok (.iadd, 1) := by decide +kernel
theorem dL_law_679 : decode cL_law 679 = .ok (.iaload, 1) := by decide +kernel
theorem dL_law_680 : decode cL_law 680 = .ok (.aload_n 0, 1) := by decide +kernel
theorem dL_law_681 : decode cL_law 681 = .ok (.iload 4, 2) := by decide +kernel
theorem dL_law_683 : decode cL_law 683 = .ok (.iconst 2, 1) := by decide +kernel
theorem dL_law_684 : decode cL_law 684 = .ok (.iadd, 1) := by decide +kernel
theorem dL_law_685 : decode cL_law 685 = .ok (.iaload, 1) := by decide +kernel
theorem dL_law_686 : decode cL_law 686 = .ok (.invokevirtual 93, 3) := by decide +kernel
theorem dL_law_689 : decode cL_law 689 = .ok (.aload_n 2, 1) := by decide +kernel
theorem dL_law_690 : decode cL_law 690 = .ok (.aload_n 0, 1) := by decide +kernel
theorem dL_law_691 : decode cL_law 691 = .ok (.iload 4, 2) := by decide +kernel
theorem dL_law_693 : decode cL_law 693 = .ok (.iconst 1, 1) := by decide +kernel
theorem dL_law_694 : decode cL_law 694 = .ok (.iadd, 1) := by decide +kernel
theorem dL_law_695 : decode cL_law 695 = .ok (.iaload, 1) := by decide +kernel
theorem dL_law_696 : decode cL_law 696 = .ok (.aload_n 0, 1) := by decide +kernel
theorem dL_law_697 : decode cL_law 697 = .ok (.iload 4, 2) := by decide +kernel
theorem dL_law_699 : decode cL_law 699 = .ok (.iconst 2, 1) := by decide +kernel
theorem dL_law_700 : decode cL_law 700 = .ok (.iadd, 1) := by decide +kernel
theorem dL_law_701 : decode cL_law 701 = .ok (.iaload, 1) := by decide +kernel
theorem dL_law_702 : decode cL_law 702 = .ok (.invokevirtual 96, 3) := by decide +kernel
theorem dL_law_705 : decode cL_law 705 = .ok (.if_icmp .eq 560, 3) := by decide +kernel
theorem dL_law_708 : decode cL_law 708 = .ok (.iconst 0, 1) := by decide +kernel
theorem dL_law_709 : decode cL_law 709 = .ok (.ireturn, 1) := by decide +kernel
theorem dL_law_710 : decode cL_law 710 = .ok (.aload_n 1, 1) := by decide +kernel
theorem dL_law_711 : decode cL_law 711 = .ok (.aload_n 0, 1) := by decide +kernel
theorem dL_law_712 : decode cL_law 712 = .ok (.iload 4, 2) := by decide +kernel
theorem dL_law_714 : decode cL_law 714 = .ok (.iconst 1, 1) := by decide +kernel
theorem dL_law_715 : decode cL_law 715 = .ok (.iadd, 1) := by decide +kernel
theorem dL_law_716 : decode cL_law 716 = .ok (.iaload, 1) := by decide +kernel
theorem dL_law_717 : decode cL_law 717 = .ok (.aload_n 0, 1) := by decide +kernel
theorem dL_law_718 : decode cL_law 718 = .ok (.iload 4, 2) := by decide +kernel
theorem dL_law_720 : decode cL_law 720 = .ok (.iconst 2, 1) := by decide +kernel
theorem dL_law_721 : decode cL_law 721 = .ok (.iadd, 1) := by decide +kernel
theorem dL_law_722 : decode cL_law 722 = .ok (.iaload, 1) := by decide +kernel
theorem dL_law_723 : decode cL_law 723 = .ok (.invokevirtual 97, 3) := by decide +kernel
theorem dL_law_726 : decode cL_law 726 = .ok (.aload_n 2, 1) := by decide +kernel
theorem dL_law_727 : decode cL_law 727 = .ok (.aload_n 0, 1) := by decide +kernel
theorem dL_law_728 : decode cL_law 728 = .ok (.iload 4, 2) := by decide +kernel
theorem dL_law_730 : decode cL_law 730 = .ok (.iconst 1, 1) := by decide +kernel
theorem dL_law_731 : decode cL_law 731 = .ok (.iadd, 1) := by decide +kernel
theorem dL_law_732 : decode cL_law 732 = .ok (.iaload, 1) := by decide +kernel
theorem dL_law_733 : decode cL_law 733 = .ok (.aload_n 0, 1) := by decide +kernel
theorem dL_law_734 : decode cL_law 734 = .ok (.iload 4, 2) := by decide +kernel
theorem dL_law_736 : decode cL_law 736 = .ok (.iconst 2, 1) := by decide +kernel
theorem dL_law_737 : decode cL_law 737 = .ok (.iadd, 1) := by decide +kernel
theorem dL_law_738 : decode cL_law 738 = .ok (.iaload, 1) := by decide +kernel
theorem dL_law_739 : decode cL_law 739 = .ok (.invokevirtual 100, 3) := by decide +kernel
theorem dL_law_742 : decode cL_law 742 = .ok (.if_icmp .eq 523, 3) := by decide +kernel
theorem dL_law_745 : decode cL_law 745 = .ok (.iconst 0, 1) := by decide +kernel
theorem dL_law_746 : decode cL_law 746 = .ok (.ireturn, 1) := by decide +kernel
theorem dL_law_747 : decode cL_law 747 = .ok (.aload_n 1, 1) := by decide +kernel
theorem dL_law_748 : decode cL_law 748 = .ok (.aload_n 0, 1) := by decide +kernel
theorem dL_law_749 : decode cL_law 749 = .ok (.iload 4, 2) := by decide +kernel
theorem dL_law_751 : decode cL_law 751 = .ok (.iconst 1, 1) := by decide +kernel
theorem dL_law_752 : decode cL_law 752 = .ok (.iadd, 1) := by decide +kernel
theorem dL_law_753 : decode cL_law 753 = .ok (.iaload, 1) := by decide +kernel
theorem dL_law_754 : decode cL_law 754 = .ok (.aload_n 0, 1) := by decide +kernel
theorem dL_law_755 : decode cL_law 755 = .ok (.iload 4, 2) := by decide +kernel
theorem dL_law_757 : decode cL_law 757 = .ok (.iconst 2, 1) := by decide +kernel
theorem dL_law_758 : decode cL_law 758 = .ok (.iadd, 1) := by decide +kernel
theorem dL_law_759 : decode cL_law 759 = .ok (.iaload, 1) := by decide +kernel
theorem dL_law_760 : decode cL_law 760 = .ok (.invokevirtual 101, 3) := by decide +kernel
theorem dL_law_763 : decode cL_law 763 = .ok (.aload_n 2, 1) := by decide +kernel
theorem dL_law_764 : decode cL_law 764 = .ok (.aload_n 0, 1) := by decide +kernel
theorem dL_law_765 : decode cL_law 765 = .ok (.iload 4, 2) := by decide +kernel
theorem dL_law_767 : decode cL_law 767 = .ok (.iconst 1, 1) := by decide +kernel
theorem dL_law_768 : decode cL_law 768 = .ok (.iadd, 1) := by decide +kernel
theorem dL_law_769 : decode cL_law 769 = .ok (.iaload, 1) := by decide +kernel
theorem dL_law_770 : decode cL_law 770 = .ok (.aload_n 0, 1) := by decide +kernel
theorem dL_law_771 : decode cL_law 771 = .ok (.iload 4, 2) := by decide +kernel
theorem dL_law_773 : decode cL_law 773 = .ok (.iconst 2, 1) := by decide +kernel
theorem dL_law_774 : decode cL_law 774 = .ok (.iadd, 1) := by decide +kernel
theorem dL_law_775 : decode cL_law 775 = .ok (.iaload, 1) := by decide +kernel
theorem dL_law_776 : decode cL_law 776 = .ok (.invokevirtual 104, 3) := by decide +kernel
theorem dL_law_779 : decode cL_law 779 = .ok (.if_icmp .eq 486, 3) := by decide +kernel
theorem dL_law_782 : decode cL_law 782 = .ok (.iconst 0, 1) := by decide +kernel
theorem dL_law_783 : decode cL_law 783 = .ok (.ireturn, 1) := by decide +kernel
theorem dL_law_784 : decode cL_law 784 = .ok (.aload_n 1, 1) := by decide +kernel
theorem dL_law_785 : decode cL_law 785 = .ok (.aload_n 0, 1) := by decide +kernel
theorem dL_law_786 : decode cL_law 786 = .ok (.iload 4, 2) := by decide +kernel
theorem dL_law_788 : decode cL_law 788 = .ok (.iconst 1, 1) := by decide +kernel
theorem dL_law_789 : decode cL_law 789 = .ok (.iadd, 1) := by decide +kernel
theorem dL_law_790 : decode cL_law 790 = .ok (.iaload, 1) := by decide +kernel
theorem dL_law_791 : decode cL_law 791 = .ok (.invokevirtual 105, 3) := by decide +kernel
theorem dL_law_794 : decode cL_law 794 = .ok (.aload_n 2, 1) := by decide +kernel
theorem dL_law_795 : decode cL_law 795 = .ok (.aload_n 0, 1) := by decide +kernel
theorem dL_law_796 : decode cL_law 796 = .ok (.iload 4, 2) := by decide +kernel
theorem dL_law_798 : decode cL_law 798 = .ok (.iconst 1, 1) := by decide +kernel
theorem dL_law_799 : decode cL_law 799 = .ok (.iadd, 1) := by decide +kernel
theorem dL_law_800 : decode cL_law 800 = .ok (.iaload, 1) := by decide +kernel
theorem dL_law_801 : decode cL_law 801 = .ok (.invokevirtual 108, 3) := by decide +kernel
theorem dL_law_804 : decode cL_law 804 = .ok (.if_icmp .eq 461, 3) := by decide +kernel
theorem dL_law_807 : decode cL_law 807 = .ok (.iconst 0, 1) := by decide +kernel
theorem dL_law_808 : decode cL_law 808 = .ok (.ireturn, 1) := by decide +kernel
theorem dL_law_809 : decode cL_law 809 = .ok (.aload_n 1, 1) := by decide +kernel
theorem dL_law_810 : decode cL_law 810 = .ok (.invokevirtual 109, 3) := by decide +kernel
theorem dL_law_813 : decode cL_law 813 = .ok (.aload_n 2, 1) := by decide +kernel
theorem dL_law_814 : decode cL_law 814 = .ok (.invokevirtual 112, 3) := by decide +kernel
theorem dL_law_817 : decode cL_law 817 = .ok (.if_icmp .eq 448, 3) := by decide +kernel
theorem dL_law_820 : decode cL_law 820 = .ok (.iconst 0, 1) := by decide +kernel
theorem dL_law_821 : decode cL_law 821 = .ok (.ireturn, 1) := by decide +kernel
theorem dL_law_822 : decode cL_law 822 = .ok (.aload_n 1, 1) := by decide +kernel
theorem dL_law_823 : decode cL_law 823 = .ok (.invokevirtual 113, 3) := by decide +kernel
theorem dL_law_826 : decode cL_law 826 = .ok (.aload_n 2, 1) := by decide +kernel
theorem dL_law_827 : decode cL_law 827 = .ok (.invokevirtual 116, 3) := by decide +kernel
theorem dL_law_830 : decode cL_law 830 = .ok (.if_icmp .eq 435, 3) := by decide +kernel
theorem dL_law_833 : decode cL_law 833 = .ok (.iconst 0, 1) := by decide +kernel
theorem dL_law_834 : decode cL_law 834 = .ok (.ireturn, 1) := by decide +kernel
theorem dL_law_835 : decode cL_law 835 = .ok (.aload_n 1, 1) := by decide +kernel
theorem dL_law_836 : decode cL_law 836 = .ok (.invokevirtual 117, 3) := by decide +kernel
theorem dL_law_839 : decode cL_law 839 = .ok (.aload_n 2, 1) := by decide +kernel
theorem dL_law_840 : decode cL_law 840 = .ok (.invokevirtual 120, 3) := by decide +kernel
theorem dL_law_843 : decode cL_law 843 = .ok (.if_icmp .eq 422, 3) := by decide +kernel
theorem dL_law_846 : decode cL_law 846 = .ok (.iconst 0, 1) := by decide +kernel
theorem dL_law_847 : decode cL_law 847 = .ok (.ireturn, 1) := by decide +kernel
theorem dL_law_848 : decode cL_law 848 = .ok (.aload_n 1, 1) := by decide +kernel
theorem dL_law_849 : decode cL_law 849 = .ok (.aload_n 0, 1) := by decide +kernel
theorem dL_law_850 : decode cL_law 850 = .ok (.iload 4, 2) := by decide +kernel
theorem dL_law_852 : decode cL_law 852 = .ok (.iconst 1, 1) := by decide +kernel
theorem dL_law_853 : decode cL_law 853 = .ok (.iadd, 1) := by decide +kernel
theorem dL_law_854 : decode cL_law 854 = .ok (.iaload, 1) := by decide +kernel
theorem dL_law_855 : decode cL_law 855 = .ok (.invokevirtual 121, 3) := by decide +kernel
theorem dL_law_858 : decode cL_law 858 = .ok (.aload_n 2, 1) := by decide +kernel
theorem dL_law_859 : decode cL_law 859 = .ok (.aload_n 0, 1) := by decide +kernel
theorem dL_law_860 : decode cL_law 860 = .ok (.iload 4, 2) := by decide +kernel
theorem dL_law_862 : decode cL_law 862 = .ok (.iconst 1, 1) := by decide +kernel
theorem dL_law_863 : decode cL_law 863 = .ok (.iadd, 1) := by decide +kernel
theorem dL_law_864 : decode cL_law 864 = .ok (.iaload, 1) := by decide +kernel
theorem dL_law_865 : decode cL_law 865 = .ok (.invokevirtual 124, 3) := by decide +kernel
theorem dL_law_868 : decode cL_law 868 = .ok (.if_icmp .eq 397, 3) := by decide +kernel
theorem dL_law_871 : decode cL_law 871 = .ok (.iconst 0, 1) := by decide +kernel
theorem dL_law_872 : decode cL_law 872 = .ok (.ireturn, 1) := by decide +kernel
theorem dL_law_873 : decode cL_law 873 = .ok (.aload_n 1, 1) := by decide +kernel
theorem dL_law_874 : decode cL_law 874 = .ok (.aload_n 0, 1) := by decide +kernel
theorem dL_law_875 : decode cL_law 875 = .ok (.iload 4, 2) := by decide +kernel
theorem dL_law_877 : decode cL_law 877 = .ok (.iconst 1, 1) := by decide +kernel
theorem dL_law_878 : decode cL_law 878 = .ok (.iadd, 1) := by decide +kernel
theorem dL_law_879 : decode cL_law 879 = .ok (.iaload, 1) := by decide +kernel
theorem dL_law_880 : decode cL_law 880 = .ok (.aload_n 0, 1) := by decide +kernel
theorem dL_law_881 : decode cL_law 881 = .ok (.iload 4, 2) := by decide +kernel
theorem dL_law_883 : decode cL_law 883 = .ok (.iconst 2, 1) := by decide +kernel
theorem dL_law_884 : decode cL_law 884 = .ok (.iadd, 1) := by decide +kernel
theorem dL_law_885 : decode cL_law 885 = .ok (.iaload, 1) := by decide +kernel
theorem dL_law_886 : decode cL_law 886 = .ok (.invokevirtual 125, 3) := by decide +kernel
theorem dL_law_889 : decode cL_law 889 = .ok (.aload_n 2, 1) := by decide +kernel
theorem dL_law_890 : decode cL_law 890 = .ok (.aload_n 0, 1) := by decide +kernel
theorem dL_law_891 : decode cL_law 891 = .ok (.iload 4, 2) := by decide +kernel
theorem dL_law_893 : decode cL_law 893 = .ok (.iconst 1, 1) := by decide +kernel
theorem dL_law_894 : decode cL_law 894 = .ok (.iadd, 1) := by decide +kernel
theorem dL_law_895 : decode cL_law 895 = .ok (.iaload, 1) := by decide +kernel
theorem dL_law_896 : decode cL_law 896 = .ok (.aload_n 0, 1) := by decide +kernel
theorem dL_law_897 : decode cL_law 897 = .ok (.iload 4, 2) := by decide +kernel
theorem dL_law_899 : decode cL_law 899 = .ok (.iconst 2, 1) := by decide +kernel
theorem dL_law_900 : decode cL_law 900 = .ok (.iadd, 1) := by decide +kernel
theorem dL_law_901 : decode cL_law 901 = .ok (.iaload, 1) := by decide +kernel
theorem dL_law_902 : decode cL_law 902 = .ok (.invokevirtual 128, 3) := by decide +kernel
theorem dL_law_905 : decode cL_law 905 = .ok (.if_icmp .eq 360, 3) := by decide +kernel
theorem dL_law_908 : decode cL_law 908 = .ok (.iconst 0, 1) := by decide +kernel
theorem dL_law_909 : decode cL_law 909 = .ok (.ireturn, 1) := by decide +kernel
theorem dL_law_910 : decode cL_law 910 = .ok (.aload_n 1, 1) := by decide +kernel
theorem dL_law_911 : decode cL_law 911 = .ok (.aload_n 0, 1) := by decide +kernel
theorem dL_law_912 : decode cL_law 912 = .ok (.iload 4, 2) := by decide +kernel
theorem dL_law_914 : decode cL_law 914 = .ok (.iconst 1, 1) := by decide +kernel
theorem dL_law_915 : decode cL_law 915 = .ok (.iadd, 1) := by decide +kernel
theorem dL_law_916 : decode cL_law 916 = .ok (.iaload, 1) := by decide +kernel
theorem dL_law_917 : decode cL_law 917 = .ok (.aload_n 0, 1) := by decide +kernel
theorem dL_law_918 : decode cL_law 918 = .ok (.iload 4, 2) := by decide +kernel
theorem dL_law_920 : decode cL_law 920 = .ok (.iconst 2, 1) := by decide +kernel
theorem dL_law_921 : decode cL_law 921 = .ok (.iadd, 1) := by decide +kernel
theorem dL_law_922 : decode cL_law 922 = .ok (.iaload, 1) := by decide +kernel
theorem dL_law_923 : decode cL_law 923 = .ok (.invokevirtual 129, 3) := by decide +kernel
theorem dL_law_926 : decode cL_law 926 = .ok (.aload_n 2, 1) := by decide +kernel
theorem dL_law_927 : decode cL_law 927 = .ok (.aload_n 0, 1) := by decide +kernel
theorem dL_law_928 : decode cL_law 928 = .ok (.iload 4, 2) := by decide +kernel
theorem dL_law_930 : decode cL_law 930 = .ok (.iconst 1, 1) := by decide +kernel
theorem dL_law_931 : decode cL_law 931 = .ok (.iadd, 1) := by decide +kernel
theorem dL_law_932 : decode cL_law 932 = .ok (.iaload, 1) := by decide +kernel
theorem dL_law_933 : decode cL_law 933 = .ok (.aload_n 0, 1) := by decide +kernel
theorem dL_law_934 : decode cL_law 934 = .ok (.iload 4, 2) := by decide +kernel
theorem dL_law_936 : decode cL_law 936 = .ok (.iconst 2, 1) := by decide +kernel
theorem dL_law_937 : decode cL_law 937 = .ok (.iadd, 1) := by decide +kernel
theorem dL_law_938 : decode cL_law 938 = .ok (.iaload, 1) := by decide +kernel
theorem dL_law_939 : decode cL_law 939 = .ok (.invokevirtual 132, 3) := by decide +kernel
theorem dL_law_942 : decode cL_law 942 = .ok (.if_icmp .eq 323, 3) := by decide +kernel
theorem dL_law_945 : decode cL_law 945 = .ok (.iconst 0, 1) := by decide +kernel
theorem dL_law_946 : decode cL_law 946 = .ok (.ireturn, 1) := by decide +kernel
theorem dL_law_947 : decode cL_law 947 = .ok (.aload_n 1, 1) := by decide +kernel
theorem dL_law_948 : decode cL_law 948 = .ok (.invokevirtual 133, 3) := by decide +kernel
theorem dL_law_951 : decode cL_law 951 = .ok (.aload_n 2, 1) := by decide +kernel
theorem dL_law_952 : decode cL_law 952 = .ok (.invokevirtual 136, 3) := by decide +kernel
theorem dL_law_955 : decode cL_law 955 = .ok (.if_icmp .eq 310, 3) := by decide +kernel
theorem dL_law_958 : decode cL_law 958 = .ok (.iconst 0, 1) := by decide +kernel
theorem dL_law_959 : decode cL_law 959 = .ok (.ireturn, 1) := by decide +kernel
theorem dL_law_960 : decode cL_law 960 = .ok (.aload_n 1, 1) := by decide +kernel
theorem dL_law_961 : decode cL_law 961 = .ok (.aload_n 0, 1) := by decide +kernel
theorem dL_law_962 : decode cL_law 962 = .ok (.iload 4, 2) := by decide +kernel
theorem dL_law_964 : decode cL_law 964 = .ok (.iconst 1, 1) := by decide +kernel
theorem dL_law_965 : decode cL_law 965 = .ok (.iadd, 1) := by decide +kernel
theorem dL_law_966 : decode cL_law 966 = .ok (.iaload, 1) := by decide +kernel
theorem dL_law_967 : decode cL_law 967 = .ok (.invokevirtual 137, 3) := by decide +kernel
theorem dL_law_970 : decode cL_law 970 = .ok (.aload_n 2, 1) := by decide +kernel
theorem dL_law_971 : decode cL_law 971 = .ok (.aload_n 0, 1) := by decide +kernel
theorem dL_law_972 : decode cL_law 972 = .ok (.iload 4, 2) := by decide +kernel
theorem dL_law_974 : decode cL_law 974 = .ok (.iconst 1, 1) := by decide +kernel
theorem dL_law_975 : decode cL_law 975 = .ok (.iadd, 1) := by decide +kernel
theorem dL_law_976 : decode cL_law 976 = .ok (.iaload, 1) := by decide +kernel
theorem dL_law_977 : decode cL_law 977 = .ok (.invokevirtual 140, 3) := by decide +kernel
theorem dL_law_980 : decode cL_law 980 = .ok (.if_icmp .eq 285, 3) := by decide +kernel
theorem dL_law_983 : decode cL_law 983 = .ok (.iconst 0, 1) := by decide +kernel
theorem dL_law_984 : decode cL_law 984 = .ok (.ireturn, 1) := by decide +kernel
theorem dL_law_985 : decode cL_law 985 = .ok (.aload_n 1, 1) := by decide +kernel
theorem dL_law_986 : decode cL_law 986 = .ok (.aload_n 0, 1) := by decide +kernel
theorem dL_law_987 : decode cL_law 987 = .ok (.iload 4, 2) := by decide +kernel
theorem dL_law_989 : decode cL_law 989 = .ok (.iconst 1, 1) := by decide +kernel
theorem dL_law_990 : decode cL_law 990 = .ok (.iadd, 1) := by decide +kernel
theorem dL_law_991 : decode cL_law 991 = .ok (.iaload, 1) := by decide +kernel
theorem dL_law_992 : decode cL_law 992 = .ok (.aload_n 0, 1) := by decide +kernel
theorem dL_law_993 : decode cL_law 993 = .ok (.iload 4, 2) := by decide +kernel
theorem dL_law_995 : decode cL_law 995 = .ok (.iconst 2, 1) := by decide +kernel
theorem dL_law_996 : decode cL_law 996 = .ok (.iadd, 1) := by decide +kernel
theorem dL_law_997 : decode cL_law 997 = .ok (.iaload, 1) := by decide +kernel
theorem dL_law_998 : decode cL_law 998 = .ok (.invokevirtual 141, 3) := by decide +kernel
theorem dL_law_1001 : decode cL_law 1001 = .ok (.aload_n 2, 1) := by decide +kernel
theorem dL_law_1002 : decode cL_law 1002 = .ok (.aload_n 0, 1) := by decide +kernel
theorem dL_law_1003 : decode cL_law 1003 = .ok (.iload 4, 2) := by decide +kernel
theorem dL_law_1005 : decode cL_law 1005 = .ok (.iconst 1, 1) := by decide +kernel
theorem dL_law_1006 : decode cL_law 1006 = .ok (.iadd, 1) := by decide +kernel
theorem dL_law_1007 : decode cL_law 1007 = .ok (.iaload, 1) := by decide +kernel
theorem dL_law_1008 : decode cL_law 1008 = .ok (.aload_n 0, 1) := by decide +kernel
theorem dL_law_1009 : decode cL_law 1009 = .ok (.iload 4, 2) := by decide +kernel
theorem dL_law_1011 : decode cL_law 1011 = .ok (.iconst 2, 1) := by decide +kernel
theorem dL_law_1012 : decode cL_law 1012 = .ok (.iadd, 1) := by decide +kernel
theorem dL_law_1013 : decode cL_law 1013 = .ok (.iaload, 1) := by decide +kernel
theorem dL_law_1014 : decode cL_law 1014 = .ok (.invokevirtual 144, 3) := by decide +kernel
theorem dL_law_1017 : decode cL_law 1017 = .ok (.if_icmp .eq 248, 3) := by decide +kernel
theorem dL_law_1020 : decode cL_law 1020 = .ok (.iconst 0, 1) := by decide +kernel
theorem dL_law_1021 : decode cL_law 1021 = .ok (.ireturn, 1) := by decide +kernel
theorem dL_law_1022 : decode cL_law 1022 = .ok (.aload_n 1, 1) := by decide +kernel
theorem dL_law_1023 : decode cL_law 1023 = .ok (.aload_n 0, 1) := by decide +kernel
theorem dL_law_1024 : decode cL_law 1024 = .ok (.iload 4, 2) := by decide +kernel
theorem dL_law_1026 : decode cL_law 1026 = .ok (.iconst 1, 1) := by decide +kernel
theorem dL_law_1027 : decode cL_law 1027 = .ok (.iadd, 1) := by decide +kernel
theorem dL_law_1028 : decode cL_law 1028 = .ok (.iaload, 1) := by decide +kernel
theorem dL_law_1029 : decode cL_law 1029 = .ok (.aload_n 0, 1) := by decide +kernel
theorem dL_law_1030 : decode cL_law 1030 = .ok (.iload 4, 2) := by decide +kernel
theorem dL_law_1032 : decode cL_law 1032 = .ok (.iconst 2, 1) := by decide +kernel
theorem dL_law_1033 : decode cL_law 1033 = .ok (.iadd, 1) := by decide +kernel
theorem dL_law_1034 : decode cL_law 1034 = .ok (.iaload, 1) := by decide +kernel
theorem dL_law_1035 : decode cL_law 1035 = .ok (.invokevirtual 145, 3) := by decide +kernel
theorem dL_law_1038 : decode cL_law 1038 = .ok (.aload_n 2, 1) := by decide +kernel
theorem dL_law_1039 : decode cL_law 1039 = .ok (.aload_n 0, 1) := by decide +kernel
theorem dL_law_1040 : decode cL_law 1040 = .ok (.iload 4, 2) := by decide +kernel
theorem dL_law_1042 : decode cL_law 1042 = .ok (.iconst 1, 1) := by decide +kernel
theorem dL_law_1043 : decode cL_law 1043 = .ok (.iadd, 1) := by decide +kernel
theorem dL_law_1044 : decode cL_law 1044 = .ok (.iaload, 1) := by decide +kernel
theorem dL_law_1045 : decode cL_law 1045 = .ok (.aload_n 0, 1) := by decide +kernel
theorem dL_law_1046 : decode cL_law 1046 = .ok (.iload 4, 2) := by decide +kernel
theorem dL_law_1048 : decode cL_law 1048 = .ok (.iconst 2, 1) := by decide +kernel
theorem dL_law_1049 : decode cL_law 1049 = .ok (.iadd, 1) := by decide +kernel
theorem dL_law_1050 : decode cL_law 1050 = .ok (.iaload, 1) := by decide +kernel
theorem dL_law_1051 : decode cL_law 1051 = .ok (.invokevirtual 148, 3) := by decide +kernel
theorem dL_law_1054 : decode cL_law 1054 = .ok (.if_icmp .eq 211, 3) := by decide +kernel
theorem dL_law_1057 : decode cL_law 1057 = .ok (.iconst 0, 1) := by decide +kernel
theorem dL_law_1058 : decode cL_law 1058 = .ok (.ireturn, 1) := by decide +kernel
theorem dL_law_1059 : decode cL_law 1059 = .ok (.aload_n 1, 1) := by decide +kernel
theorem dL_law_1060 : decode cL_law 1060 = .ok (.invokevirtual 149, 3) := by decide +kernel
theorem dL_law_1063 : decode cL_law 1063 = .ok (.aload_n 2, 1) := by decide +kernel
theorem dL_law_1064 : decode cL_law 1064 = .ok (.invokevirtual 152, 3) := by decide +kernel
theorem dL_law_1067 : decode cL_law 1067 = .ok (.if_icmp .eq 198, 3) := by decide +kernel
theorem dL_law_1070 : decode cL_law 1070 = .ok (.iconst 0, 1) := by decide +kernel
theorem dL_law_1071 : decode cL_law 1071 = .ok (.ireturn, 1) := by decide +kernel
theorem dL_law_1072 : decode cL_law 1072 = .ok (.aload_n 1, 1) := by decide +kernel
theorem dL_law_1073 : decode cL_law 1073 = .ok (.invokevirtual 153, 3) := by decide +kernel
theorem dL_law_1076 : decode cL_law 1076 = .ok (.aload_n 2, 1) := by decide +kernel
theorem dL_law_1077 : decode cL_law 1077 = .ok (.invokevirtual 156, 3) := by decide +kernel
theorem dL_law_1080 : decode cL_law 1080 = .ok (.if_icmp .eq 185, 3) := by decide +kernel
theorem dL_law_1083 : decode cL_law 1083 = .ok (.iconst 0, 1) := by decide +kernel
theorem dL_law_1084 : decode cL_law 1084 = .ok (.ireturn, 1) := by decide +kernel
theorem dL_law_1085 : decode cL_law 1085 = .ok (.aload_n 1, 1) := by decide +kernel
theorem dL_law_1086 : decode cL_law 1086 = .ok (.invokevirtual 157, 3) := by decide +kernel
theorem dL_law_1089 : decode cL_law 1089 = .ok (.aload_n 2, 1) := by decide +kernel
theorem dL_law_1090 : decode cL_law 1090 = .ok (.invokevirtual 160, 3) := by decide +kernel
theorem dL_law_1093 : decode cL_law 1093 = .ok (.if_icmp .eq 172, 3) := by decide +kernel
theorem dL_law_1096 : decode cL_law 1096 = .ok (.iconst 0, 1) := by decide +kernel
theorem dL_law_1097 : decode cL_law 1097 = .ok (.ireturn, 1) := by decide +kernel
theorem dL_law_1098 : decode cL_law 1098 = .ok (.aload_n 1, 1) := by decide +kernel
theorem dL_law_1099 : decode cL_law 1099 = .ok (.aload_n 0, 1) := by decide +kernel
theorem dL_law_1100 : decode cL_law 1100 = .ok (.iload 4, 2) := by decide +kernel
theorem dL_law_1102 : decode cL_law 1102 = .ok (.iconst 1, 1) := by decide +kernel
theorem dL_law_1103 : decode cL_law 1103 = .ok (.iadd, 1) := by decide +kernel
theorem dL_law_1104 : decode cL_law 1104 = .ok (.iaload, 1) := by decide +kernel
theorem dL_law_1105 : decode cL_law 1105 = .ok (.aload_n 0, 1) := by decide +kernel
theorem dL_law_1106 : decode cL_law 1106 = .ok (.iload 4, 2) := by decide +kernel
theorem dL_law_1108 : decode cL_law 1108 = .ok (.iconst 2, 1) := by decide +kernel
theorem dL_law_1109 : decode cL_law 1109 = .ok (.iadd, 1) := by decide +kernel
theorem dL_law_1110 : decode cL_law 1110 = .ok (.iaload, 1) := by decide +kernel
theorem dL_law_1111 : decode cL_law 1111 = .ok (.invokevirtual 161, 3) := by decide +kernel
theorem dL_law_1114 : decode cL_law 1114 = .ok (.aload_n 2, 1) := by decide +kernel
theorem dL_law_1115 : decode cL_law 1115 = .ok (.aload_n 0, 1) := by decide +kernel
theorem dL_law_1116 : decode cL_law 1116 = .ok (.iload 4, 2) := by decide +kernel
theorem dL_law_1118 : decode cL_law 1118 = .ok (.iconst 1, 1) := by decide +kernel
theorem dL_law_1119 : decode cL_law 1119 = .ok (.iadd, 1) := by decide +kernel
theorem dL_law_1120 : decode cL_law 1120 = .ok (.iaload, 1) := by decide +kernel
theorem dL_law_1121 : decode cL_law 1121 = .ok (.aload_n 0, 1) := by decide +kernel
theorem dL_law_1122 : decode cL_law 1122 = .ok (.iload 4, 2) := by decide +kernel
theorem dL_law_1124 : decode cL_law 1124 = .ok (.iconst 2, 1) := by decide +kernel
theorem dL_law_1125 : decode cL_law 1125 = .ok (.iadd, 1) := by decide +kernel
theorem dL_law_1126 : decode cL_law 1126 = .ok (.iaload, 1) := by decide +kernel
theorem dL_law_1127 : decode cL_law 1127 = .ok (.invokevirtual 164, 3) := by decide +kernel
theorem dL_law_1130 : decode cL_law 1130 = .ok (.if_icmp .eq 135, 3) := by decide +kernel
theorem dL_law_1133 : decode cL_law 1133 = .ok (.iconst 0, 1) := by decide +kernel
theorem dL_law_1134 : decode cL_law 1134 = .ok (.ireturn, 1) := by decide +kernel
theorem dL_law_1135 : decode cL_law 1135 = .ok (.aload_n 1, 1) := by decide +kernel
theorem dL_law_1136 : decode cL_law 1136 = .ok (.aload_n 0, 1) := by decide +kernel
theorem dL_law_1137 : decode cL_law 1137 = .ok (.iload 4, 2) := by decide +kernel
theorem dL_law_1139 : decode cL_law 1139 = .ok (.iconst 1, 1) := by decide +kernel
theorem dL_law_1140 : decode cL_law 1140 = .ok (.iadd, 1) := by decide +kernel
theorem dL_law_1141 : decode cL_law 1141 = .ok (.iaload, 1) := by decide +kernel
theorem dL_law_1142 : decode cL_law 1142 = .ok (.invokevirtual 165, 3) := by decide +kernel
theorem dL_law_1145 : decode cL_law 1145 = .ok (.aload_n 2, 1) := by decide +kernel
theorem dL_law_1146 : decode cL_law 1146 = .ok (.aload_n 0, 1) := by decide +kernel
theorem dL_law_1147 : decode cL_law 1147 = .ok (.iload 4, 2) := by decide +kernel
theorem dL_law_1149 : decode cL_law 1149 = .ok (.iconst 1, 1) := by decide +kernel
theorem dL_law_1150 : decode cL_law 1150 = .ok (.iadd, 1) := by decide +kernel
theorem dL_law_1151 : decode cL_law 1151 = .ok (.iaload, 1) := by decide +kernel
theorem dL_law_1152 : decode cL_law 1152 = .ok (.invokevirtual 168, 3) := by decide +kernel
theorem dL_law_1155 : decode cL_law 1155 = .ok (.if_icmp .eq 110, 3) := by decide +kernel
theorem dL_law_1158 : decode cL_law 1158 = .ok (.iconst 0, 1) := by decide +kernel
theorem dL_law_1159 : decode cL_law 1159 = .ok (.ireturn, 1) := by decide +kernel
theorem dL_law_1160 : decode cL_law 1160 = .ok (.aload_n 1, 1) := by decide +kernel
theorem dL_law_1161 : decode cL_law 1161 = .ok (.aload_n 0, 1) := by decide +kernel
theorem dL_law_1162 : decode cL_law 1162 = .ok (.iload 4, 2) := by decide +kernel
theorem dL_law_1164 : decode cL_law 1164 = .ok (.iconst 1, 1) := by decide +kernel
theorem dL_law_1165 : decode cL_law 1165 = .ok (.iadd, 1) := by decide +kernel
theorem dL_law_1166 : decode cL_law 1166 = .ok (.iaload, 1) := by decide +kernel
theorem dL_law_1167 : decode cL_law 1167 = .ok (.invokevirtual 169, 3) := by decide +kernel
theorem dL_law_1170 : decode cL_law 1170 = .ok (.aload_n 2, 1) := by decide +kernel
theorem dL_law_1171 : decode cL_law 1171 = .ok (.aload_n 0, 1) := by decide +kernel
theorem dL_law_1172 : decode cL_law 1172 = .ok (.iload 4, 2) := by decide +kernel
theorem dL_law_1174 : decode cL_law 1174 = .ok (.iconst 1, 1) := by decide +kernel
theorem dL_law_1175 : decode cL_law 1175 = .ok (.iadd, 1) := by decide +kernel
theorem dL_law_1176 : decode cL_law 1176 = .ok (.iaload, 1) := by decide +kernel
theorem dL_law_1177 : decode cL_law 1177 = .ok (.invokevirtual 172, 3) := by decide +kernel
theorem dL_law_1180 : decode cL_law 1180 = .ok (.if_icmp .eq 85, 3) := by decide +kernel
theorem dL_law_1183 : decode cL_law 1183 = .ok (.iconst 0, 1) := by decide +kernel
theorem dL_law_1184 : decode cL_law 1184 = .ok (.ireturn, 1) := by decide +kernel
theorem dL_law_1185 : decode cL_law 1185 = .ok (.aload_n 1, 1) := by decide +kernel
theorem dL_law_1186 : decode cL_law 1186 = .ok (.aload_n 0, 1) := by decide +kernel
theorem dL_law_1187 : decode cL_law 1187 = .ok (.iload 4, 2) := by decide +kernel
theorem dL_law_1189 : decode cL_law 1189 = .ok (.iconst 1, 1) := by decide +kernel
theorem dL_law_1190 : decode cL_law 1190 = .ok (.iadd, 1) := by decide +kernel
theorem dL_law_1191 : decode cL_law 1191 = .ok (.iaload, 1) := by decide +kernel
theorem dL_law_1192 : decode cL_law 1192 = .ok (.invokevirtual 173, 3) := by decide +kernel
theorem dL_law_1195 : decode cL_law 1195 = .ok (.aload_n 2, 1) := by decide +kernel
theorem dL_law_1196 : decode cL_law 1196 = .ok (.aload_n 0, 1) := by decide +kernel
theorem dL_law_1197 : decode cL_law 1197 = .ok (.iload 4, 2) := by decide +kernel
theorem dL_law_1199 : decode cL_law 1199 = .ok (.iconst 1, 1) := by decide +kernel
theorem dL_law_1200 : decode cL_law 1200 = .ok (.iadd, 1) := by decide +kernel
theorem dL_law_1201 : decode cL_law 1201 = .ok (.iaload, 1) := by decide +kernel
theorem dL_law_1202 : decode cL_law 1202 = .ok (.invokevirtual 176, 3) := by decide +kernel
theorem dL_law_1205 : decode cL_law 1205 = .ok (.if_icmp .eq 60, 3) := by decide +kernel
theorem dL_law_1208 : decode cL_law 1208 = .ok (.iconst 0, 1) := by decide +kernel
theorem dL_law_1209 : decode cL_law 1209 = .ok (.ireturn, 1) := by decide +kernel
theorem dL_law_1210 : decode cL_law 1210 = .ok (.aload_n 1, 1) := by decide +kernel
theorem dL_law_1211 : decode cL_law 1211 = .ok (.aload_n 0, 1) := by decide +kernel
theorem dL_law_1212 : decode cL_law 1212 = .ok (.iload 4, 2) := by decide +kernel
theorem dL_law_1214 : decode cL_law 1214 = .ok (.iconst 1, 1) := by decide +kernel
theorem dL_law_1215 : decode cL_law 1215 = .ok (.iadd, 1) := by decide +kernel
theorem dL_law_1216 : decode cL_law 1216 = .ok (.iaload, 1) := by decide +kernel
theorem dL_law_1217 : decode cL_law 1217 = .ok (.aload_n 3, 1) := by decide +kernel
theorem dL_law_1218 : decode cL_law 1218 = .ok (.invokestatic 177, 3) := by decide +kernel
theorem dL_law_1221 : decode cL_law 1221 = .ok (.istore 5, 2) := by decide +kernel
theorem dL_law_1223 : decode cL_law 1223 = .ok (.aload_n 2, 1) := by decide +kernel
theorem dL_law_1224 : decode cL_law 1224 = .ok (.aload_n 0, 1) := by decide +kernel
theorem dL_law_1225 : decode cL_law 1225 = .ok (.iload 4, 2) := by decide +kernel
theorem dL_law_1227 : decode cL_law 1227 = .ok (.iconst 1, 1) := by decide +kernel
theorem dL_law_1228 : decode cL_law 1228 = .ok (.iadd, 1) := by decide +kernel
theorem dL_law_1229 : decode cL_law 1229 = .ok (.iaload, 1) := by decide +kernel
theorem dL_law_1230 : decode cL_law 1230 = .ok (.invokevirtual 179, 3) := by decide +kernel
theorem dL_law_1233 : decode cL_law 1233 = .ok (.lstore 6, 2) := by decide +kernel
theorem dL_law_1235 : decode cL_law 1235 = .ok (.aload_n 2, 1) := by decide +kernel
theorem dL_law_1236 : decode cL_law 1236 = .ok (.invokevirtual 71, 3) := by decide +kernel
theorem dL_law_1239 : decode cL_law 1239 = .ok (.iload 5, 2) := by decide +kernel
theorem dL_law_1241 : decode cL_law 1241 = .ok (.if_icmp .eq 5, 3) := by decide +kernel
theorem dL_law_1244 : decode cL_law 1244 = .ok (.iconst 0, 1) := by decide +kernel
theorem dL_law_1245 : decode cL_law 1245 = .ok (.ireturn, 1) := by decide +kernel
theorem dL_law_1246 : decode cL_law 1246 = .ok (.iload 5, 2) := by decide +kernel
theorem dL_law_1248 : decode cL_law 1248 = .ok (.ifCond .ne 14, 3) := by decide +kernel
theorem dL_law_1251 : decode cL_law 1251 = .ok (.aload_n 3, 1) := by decide +kernel
theorem dL_law_1252 : decode cL_law 1252 = .ok (.iconst 0, 1) := by decide +kernel
theorem dL_law_1253 : decode cL_law 1253 = .ok (.laload, 1) := by decide +kernel
theorem dL_law_1254 : decode cL_law 1254 = .ok (.lload 6, 2) := by decide +kernel
theorem dL_law_1256 : decode cL_law 1256 = .ok (.lcmp, 1) := by decide +kernel
theorem dL_law_1257 : decode cL_law 1257 = .ok (.ifCond .eq 5, 3) := by decide +kernel
theorem dL_law_1260 : decode cL_law 1260 = .ok (.iconst 0, 1) := by decide +kernel
theorem dL_law_1261 : decode cL_law 1261 = .ok (.ireturn, 1) := by decide +kernel
theorem dL_law_1262 : decode cL_law 1262 = .ok (.goto 3, 3) := by decide +kernel
theorem dL_law_1265 : decode cL_law 1265 = .ok (.iinc 4 3, 3) := by decide +kernel
theorem dL_law_1268 : decode cL_law 1268 = .ok (.goto (-1245), 3) := by decide +kernel
theorem dL_law_1271 : decode cL_law 1271 = .ok (.iconst 1, 1) := by decide +kernel
theorem dL_law_1272 : decode cL_law 1272 = .ok (.ireturn, 1) := by decide +kernel
