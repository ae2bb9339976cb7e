theorem dX0_init_0 : decode cX0_init 0 = .ok (.aload_n 0, 1) := by decide +kernel
theorem dX0_init_1 : decode cX0_init 1 = .ok (.invokespecial 3, 3) := by decide +kernel
theorem dX0_init_4 : decode cX0_init 4 = .ok (.aload_n 0, 1) := by decide +kernel
theorem dX0_init_5 : decode cX0_init 5 = .ok (.new 9, 3) := by decide +kernel
theorem dX0_init_8 : decode cX0_init 8 = .ok (.dup, 1) := by decide +kernel
theorem dX0_init_9 : decode cX0_init 9 = .ok (.invokespecial 11, 3) := by decide +kernel
theorem dX0_init_12 : decode cX0_init 12 = .ok (.putfield 12, 3) := by decide +kernel
theorem dX0_init_15 : decode cX0_init 15 = .ok (.aload_n 0, 1) := by decide +kernel
theorem dX0_init_16 : decode cX0_init 16 = .ok (.new 18, 3) := by decide +kernel
theorem dX0_init_19 : decode cX0_init 19 = .ok (.dup, 1) := by decide +kernel
theorem dX0_init_20 : decode cX0_init 20 = .ok (.invokespecial 20, 3) := by decide +kernel
theorem dX0_init_23 : decode cX0_init 23 = .ok (.putfield 21, 3) := by decide +kernel
theorem dX0_init_26 : decode cX0_init 26 = .ok (.return_, 1) := by decide +kernel
theorem dX0_link_0 : decode cX0_link 0 = .ok (.aload_n 1, 1) := by decide +kernel
theorem dX0_link_1 : decode cX0_link 1 = .ok (.iload_n 2, 1) := by decide +kernel
theorem dX0_link_2 : decode cX0_link 2 = .ok (.iload_n 3, 1) := by decide +kernel
theorem dX0_link_3 : decode cX0_link 3 = .ok (.invokevirtual 25, 3) := by decide +kernel
theorem dX0_link_6 : decode cX0_link 6 = .ok (.ifCond .ne 5, 3) := by decide +kernel
theorem dX0_link_9 : decode cX0_link 9 = .ok (.iconst (-1), 1) := by decide +kernel
theorem dX0_link_10 : decode cX0_link 10 = .ok (.ireturn, 1) := by decide +kernel
theorem dX0_link_11 : decode cX0_link 11 = .ok (.aload_n 1, 1) := by decide +kernel
theorem dX0_link_12 : decode cX0_link 12 = .ok (.getfield 31, 3) := by decide +kernel
theorem dX0_link_15 : decode cX0_link 15 = .ok (.iload_n 2, 1) := by decide +kernel
theorem dX0_link_16 : decode cX0_link 16 = .ok (.iaload, 1) := by decide +kernel
theorem dX0_link_17 : decode cX0_link 17 = .ok (.iload_n 3, 1) := by decide +kernel
theorem dX0_link_18 : decode cX0_link 18 = .ok (.invokestatic 35, 3) := by decide +kernel
theorem dX0_link_21 : decode cX0_link 21 = .ok (.ifCond .eq 6, 3) := by decide +kernel
theorem dX0_link_24 : decode cX0_link 24 = .ok (.bipush (-2), 2) := by decide +kernel
theorem dX0_link_26 : decode cX0_link 26 = .ok (.ireturn, 1) := by decide +kernel
theorem dX0_link_27 : decode cX0_link 27 = .ok (.aload_n 0, 1) := by decide +kernel
theorem dX0_link_28 : decode cX0_link 28 = .ok (.getfield 12, 3) := by decide +kernel
theorem dX0_link_31 : decode cX0_link 31 = .ok (.aload_n 1, 1) := by decide +kernel
theorem dX0_link_32 : decode cX0_link 32 = .ok (.iload_n 3, 1) := by decide +kernel
theorem dX0_link_33 : decode cX0_link 33 = .ok (.iload_n 2, 1) := by decide +kernel
theorem dX0_link_34 : decode cX0_link 34 = .ok (.iconst 1, 1) := by decide +kernel
theorem dX0_link_35 : decode cX0_link 35 = .ok (.invokevirtual 38, 3) := by decide +kernel
theorem dX0_link_38 : decode cX0_link 38 = .ok (.ifCond .le 19, 3) := by decide +kernel
theorem dX0_link_41 : decode cX0_link 41 = .ok (.aload_n 0, 1) := by decide +kernel
theorem dX0_link_42 : decode cX0_link 42 = .ok (.getfield 12, 3) := by decide +kernel
theorem dX0_link_45 : decode cX0_link 45 = .ok (.aload_n 1, 1) := by decide +kernel
theorem dX0_link_46 : decode cX0_link 46 = .ok (.iload_n 3, 1) := by decide +kernel
theorem dX0_link_47 : decode cX0_link 47 = .ok (.aload_n 0, 1) := by decide +kernel
theorem dX0_link_48 : decode cX0_link 48 = .ok (.getfield 21, 3) := by decide +kernel
theorem dX0_link_51 : decode cX0_link 51 = .ok (.invokevirtual 42, 3) := by decide +kernel
theorem dX0_link_54 : decode cX0_link 54 = .ok (.bipush (-4), 2) := by decide +kernel
theorem dX0_link_56 : decode cX0_link 56 = .ok (.ireturn, 1) := by decide +kernel
theorem dX0_link_57 : decode cX0_link 57 = .ok (.aload_n 1, 1) := by decide +kernel
theorem dX0_link_58 : decode cX0_link 58 = .ok (.iload_n 2, 1) := by decide +kernel
theorem dX0_link_59 : decode cX0_link 59 = .ok (.iload_n 3, 1) := by decide +kernel
theorem dX0_link_60 : decode cX0_link 60 = .ok (.invokevirtual 46, 3) := by decide +kernel
theorem dX0_link_63 : decode cX0_link 63 = .ok (.ireturn, 1) := by decide +kernel
theorem dX0_linkOrPass_0 : decode cX0_linkOrPass 0 = .ok (.aload_n 0, 1) := by decide +kernel
theorem dX0_linkOrPass_1 : decode cX0_linkOrPass 1 = .ok (.aload_n 1, 1) := by decide +kernel
theorem dX0_linkOrPass_2 : decode cX0_linkOrPass 2 = .ok (.iload_n 2, 1) := by decide +kernel
theorem dX0_linkOrPass_3 : decode cX0_linkOrPass 3 = .ok (.bipush 100, 2) := by decide +kernel
theorem dX0_linkOrPass_5 : decode cX0_linkOrPass 5 = .ok (.idiv, 1) := by decide +kernel
theorem dX0_linkOrPass_6 : decode cX0_linkOrPass 6 = .ok (.iload_n 2, 1) := by decide +kernel
theorem dX0_linkOrPass_7 : decode cX0_linkOrPass 7 = .ok (.bipush 100, 2) := by decide +kernel
theorem dX0_linkOrPass_9 : decode cX0_linkOrPass 9 = .ok (.irem, 1) := by decide +kernel
theorem dX0_linkOrPass_10 : decode cX0_linkOrPass 10 = .ok (.invokevirtual 50, 3) := by decide +kernel
theorem dX0_linkOrPass_13 : decode cX0_linkOrPass 13 = .ok (.istore_n 3, 1) := by decide +kernel
theorem dX0_linkOrPass_14 : decode cX0_linkOrPass 14 = .ok (.iload_n 3, 1) := by decide +kernel
theorem dX0_linkOrPass_15 : decode cX0_linkOrPass 15 = .ok (.ifCond .ge 9, 3) := by decide +kernel
theorem dX0_linkOrPass_18 : decode cX0_linkOrPass 18 = .ok (.iload_n 3, 1) := by decide +kernel
theorem dX0_linkOrPass_19 : decode cX0_linkOrPass 19 = .ok (.bipush (-2), 2) := by decide +kernel
theorem dX0_linkOrPass_21 : decode cX0_linkOrPass 21 = .ok (.if_icmp .ne 7, 3) := by decide +kernel
theorem dX0_linkOrPass_24 : decode cX0_linkOrPass 24 = .ok (.iconst 1, 1) := by decide +kernel
theorem dX0_linkOrPass_25 : decode cX0_linkOrPass 25 = .ok (.goto 4, 3) := by decide +kernel
theorem dX0_linkOrPass_28 : decode cX0_linkOrPass 28 = .ok (.iconst 0, 1) := by decide +kernel
theorem dX0_linkOrPass_29 : decode cX0_linkOrPass 29 = .ok (.ireturn, 1) := by decide +kernel
theorem dX0_unlink_0 : decode cX0_unlink 0 = .ok (.aload_n 1, 1) := by decide +kernel
theorem dX0_unlink_1 : decode cX0_unlink 1 = .ok (.iload_n 2, 1) := by decide +kernel
theorem dX0_unlink_2 : decode cX0_unlink 2 = .ok (.iload_n 3, 1) := by decide +kernel
theorem dX0_unlink_3 : decode cX0_unlink 3 = .ok (.invokevirtual 25, 3) := by decide +kernel
theorem dX0_unlink_6 : decode cX0_unlink 6 = .ok (.ifCond .ne 5, 3) := by decide +kernel
theorem dX0_unlink_9 : decode cX0_unlink 9 = .ok (.iconst (-1), 1) := by decide +kernel
theorem dX0_unlink_10 : decode cX0_unlink 10 = .ok (.ireturn, 1) := by decide +kernel
theorem dX0_unlink_11 : decode cX0_unlink 11 = .ok (.aload_n 1, 1) := by decide +kernel
theorem dX0_unlink_12 : decode cX0_unlink 12 = .ok (.getfield 31, 3) := by decide +kernel
theorem dX0_unlink_15 : decode cX0_unlink 15 = .ok (.iload_n 2, 1) := by decide +kernel
theorem dX0_unlink_16 : decode cX0_unlink 16 = .ok (.iaload, 1) := by decide +kernel
theorem dX0_unlink_17 : decode cX0_unlink 17 = .ok (.iload_n 3, 1) := by decide +kernel
theorem dX0_unlink_18 : decode cX0_unlink 18 = .ok (.invokestatic 35, 3) := by decide +kernel
theorem dX0_unlink_21 : decode cX0_unlink 21 = .ok (.ifCond .ne 6, 3) := by decide +kernel
theorem dX0_unlink_24 : decode cX0_unlink 24 = .ok (.bipush (-2), 2) := by decide +kernel
theorem dX0_unlink_26 : decode cX0_unlink 26 = .ok (.ireturn, 1) := by decide +kernel
theorem dX0_unlink_27 : decode cX0_unlink 27 = .ok (.aload_n 1, 1) := by decide +kernel
theorem dX0_unlink_28 : decode cX0_unlink 28 = .ok (.getfield 31, 3) := by decide +kernel
theorem dX0_unlink_31 : decode cX0_unlink 31 = .ok (.iload_n 2, 1) := by decide +kernel
theorem dX0_unlink_32 : decode cX0_unlink 32 = .ok (.dup2, 1) := by decide +kernel
theorem dX0_unlink_33 : decode cX0_unlink 33 = .ok (.iaload, 1) := by decide +kernel
theorem dX0_unlink_34 : decode cX0_unlink 34 = .ok (.iconst 1, 1) := by decide +kernel
theorem dX0_unlink_35 : decode cX0_unlink 35 = .ok (.iload_n 3, 1) := by decide +kernel
theorem dX0_unlink_36 : decode cX0_unlink 36 = .ok (.ishl, 1) := by decide +kernel
theorem dX0_unlink_37 : decode cX0_unlink 37 = .ok (.iconst (-1), 1) := by decide +kernel
theorem dX0_unlink_38 : decode cX0_unlink 38 = .ok (.ixor, 1) := by decide +kernel
theorem dX0_unlink_39 : decode cX0_unlink 39 = .ok (.iand, 1) := by decide +kernel
theorem dX0_unlink_40 : decode cX0_unlink 40 = .ok (.iastore, 1) := by decide +kernel
theorem dX0_unlink_41 : decode cX0_unlink 41 = .ok (.aload_n 1, 1) := by decide +kernel
theorem dX0_unlink_42 : decode cX0_unlink 42 = .ok (.invokevirtual 54, 3) := by decide +kernel
theorem dX0_unlink_45 : decode cX0_unlink 45 = .ok (.ireturn, 1) := by decide +kernel
theorem dX0_post_0 : decode cX0_post 0 = .ok (.aload_n 1, 1) := by decide +kernel
theorem dX0_post_1 : decode cX0_post 1 = .ok (.iload_n 3, 1) := by decide +kernel
theorem dX0_post_2 : decode cX0_post 2 = .ok (.invokevirtual 58, 3) := by decide +kernel
theorem dX0_post_5 : decode cX0_post 5 = .ok (.ifCond .eq 10, 3) := by decide +kernel
theorem dX0_post_8 : decode cX0_post 8 = .ok (.iload_n 2, 1) := by decide +kernel
theorem dX0_post_9 : decode cX0_post 9 = .ok (.invokestatic 62, 3) := by decide +kernel
theorem dX0_post_12 : decode cX0_post 12 = .ok (.ifCond .ne 5, 3) := by decide +kernel
theorem dX0_post_15 : decode cX0_post 15 = .ok (.iconst (-1), 1) := by decide +kernel
theorem dX0_post_16 : decode cX0_post 16 = .ok (.ireturn, 1) := by decide +kernel
theorem dX0_post_17 : decode cX0_post 17 = .ok (.aload_n 1, 1) := by decide +kernel
theorem dX0_post_18 : decode cX0_post 18 = .ok (.getfield 65, 3) := by decide +kernel
theorem dX0_post_21 : decode cX0_post 21 = .ok (.iload_n 3, 1) := by decide +kernel
theorem dX0_post_22 : decode cX0_post 22 = .ok (.laload, 1) := by decide +kernel
theorem dX0_post_23 : decode cX0_post 23 = .ok (.iload_n 2, 1) := by decide +kernel
theorem dX0_post_24 : decode cX0_post 24 = .ok (.lshr, 1) := by decide +kernel
theorem dX0_post_25 : decode cX0_post 25 = .ok (.lconst 1, 1) := by decide +kernel
theorem dX0_post_26 : decode cX0_post 26 = .ok (.land, 1) := by decide +kernel
theorem dX0_post_27 : decode cX0_post 27 = .ok (.lconst 0, 1) := by decide +kernel
theorem dX0_post_28 : decode cX0_post 28 = .ok (.lcmp, 1) := by decide +kernel
theorem dX0_post_29 : decode cX0_post 29 = .ok (.ifCond .eq 6, 3) := by decide +kernel
theorem dX0_post_32 : decode cX0_post 32 = .ok (.bipush (-2), 2) := by decide +kernel
theorem dX0_post_34 : decode cX0_post 34 = .ok (.ireturn, 1) := by decide +kernel
theorem dX0_post_35 : decode cX0_post 35 = .ok (.aload_n 1, 1) := by decide +kernel
theorem dX0_post_36 : decode cX0_post 36 = .ok (.getfield 65, 3) := by decide +kernel
theorem dX0_post_39 : decode cX0_post 39 = .ok (.iload_n 3, 1) := by decide +kernel
theorem dX0_post_40 : decode cX0_post 40 = .ok (.dup2, 1) := by decide +kernel
theorem dX0_post_41 : decode cX0_post 41 = .ok (.laload, 1) := by decide +kernel
theorem dX0_post_42 : decode cX0_post 42 = .ok (.lconst 1, 1) := by decide +kernel
theorem dX0_post_43 : decode cX0_post 43 = .ok (.iload_n 2, 1) := by decide +kernel
theorem dX0_post_44 : decode cX0_post 44 = .ok (.lshl, 1) := by decide +kernel
theorem dX0_post_45 : decode cX0_post 45 = .ok (.lor, 1) := by decide +kernel
theorem dX0_post_46 : decode cX0_post 46 = .ok (.lastore, 1) := by decide +kernel
theorem dX0_post_47 : decode cX0_post 47 = .ok (.aload_n 1, 1) := by decide +kernel
theorem dX0_post_48 : decode cX0_post 48 = .ok (.getfield 65, 3) := by decide +kernel
theorem dX0_post_51 : decode cX0_post 51 = .ok (.iload_n 3, 1) := by decide +kernel
theorem dX0_post_52 : decode cX0_post 52 = .ok (.laload, 1) := by decide +kernel
theorem dX0_post_53 : decode cX0_post 53 = .ok (.invokestatic 69, 3) := by decide +kernel
theorem dX0_post_56 : decode cX0_post 56 = .ok (.ireturn, 1) := by decide +kernel
theorem dX0_unpost_0 : decode cX0_unpost 0 = .ok (.aload_n 1, 1) := by decide +kernel
theorem dX0_unpost_1 : decode cX0_unpost 1 = .ok (.iload_n 3, 1) := by decide +kernel
theorem dX0_unpost_2 : decode cX0_unpost 2 = .ok (.invokevirtual 58, 3) := by decide +kernel
theorem dX0_unpost_5 : decode cX0_unpost 5 = .ok (.ifCond .eq 10, 3) := by decide +kernel
theorem dX0_unpost_8 : decode cX0_unpost 8 = .ok (.iload_n 2, 1) := by decide +kernel
theorem dX0_unpost_9 : decode cX0_unpost 9 = .ok (.invokestatic 62, 3) := by decide +kernel
theorem dX0_unpost_12 : decode cX0_unpost 12 = .ok (.ifCond .ne 5, 3) := by decide +kernel
theorem dX0_unpost_15 : decode cX0_unpost 15 = .ok (.iconst (-1), 1) := by decide +kernel
theorem dX0_unpost_16 : decode cX0_unpost 16 = .ok (.ireturn, 1) := by decide +kernel
theorem dX0_unpost_17 : decode cX0_unpost 17 = .ok (.aload_n 1, 1) := by decide +kernel
theorem dX0_unpost_18 : decode cX0_unpost 18 = .ok (.getfield 65, 3) := by decide +kernel
theorem dX0_unpost_21 : decode cX0_unpost 21 = .ok (.iload_n 3, 1) := by decide +kernel
theorem dX0_unpost_22 : decode cX0_unpost 22 = .ok (.laload, 1) := by decide +kernel
theorem dX0_unpost_23 : decode cX0_unpost 23 = .ok (.iload_n 2, 1) := by decide +kernel
theorem dX0_unpost_24 : decode cX0_unpost 24 = .ok (.lshr, 1) := by decide +kernel
theorem dX0_unpost_25 : decode cX0_unpost 25 = .ok (.lconst 1, 1) := by decide +kernel
theorem dX0_unpost_26 : decode cX0_unpost 26 = .ok (.land, 1) := by decide +kernel
theorem dX0_unpost_27 : decode cX0_unpost 27 = .ok (.lconst 0, 1) := by decide +kernel
theorem dX0_unpost_28 : decode cX0_unpost 28 = .ok (.lcmp, 1) := by decide +kernel
theorem dX0_unpost_29 : decode cX0_unpost 29 = .ok (.ifCond .ne 6, 3) := by decide +kernel
theorem dX0_unpost_32 : decode cX0_unpost 32 = .ok (.bipush (-2), 2) := by decide +kernel
theorem dX0_unpost_34 : decode cX0_unpost 34 = .ok (.ireturn, 1) := by decide +kernel
theorem dX0_unpost_35 : decode cX0_unpost 35 = .ok (.aload_n 1, 1) := by decide +kernel
theorem dX0_unpost_36 : decode cX0_unpost 36 = .ok (.getfield 65, 3) := by decide +kernel
theorem dX0_unpost_39 : decode cX0_unpost 39 = .ok (.iload_n 3, 1) := by decide +kernel
theorem dX0_unpost_40 : decode cX0_unpost 40 = .ok (.dup2, 1) := by decide +kernel
theorem dX0_unpost_41 : decode cX0_unpost 41 = .ok (.laload, 1) := by decide +kernel
theorem dX0_unpost_42 : decode cX0_unpost 42 = .ok (.lconst 1, 1) := by decide +kernel
theorem dX0_unpost_43 : decode cX0_unpost 43 = .ok (.iload_n 2, 1) := by decide +kernel
theorem dX0_unpost_44 : decode cX0_unpost 44 = .ok (.lshl, 1) := by decide +kernel
theorem dX0_unpost_45 : decode cX0_unpost 45 = .ok (.ldc2_w 75, 3) := by decide +kernel
theorem dX0_unpost_48 : decode cX0_unpost 48 = .ok (.lxor, 1) := by decide +kernel
theorem dX0_unpost_49 : decode cX0_unpost 49 = .ok (.land, 1) := by decide +kernel
theorem dX0_unpost_50 : decode cX0_unpost 50 = .ok (.lastore, 1) := by decide +kernel
theorem dX0_unpost_51 : decode cX0_unpost 51 = .ok (.aload_n 1, 1) := by decide +kernel
theorem dX0_unpost_52 : decode cX0_unpost 52 = .ok (.getfield 65, 3) := by decide +kernel
theorem dX0_unpost_55 : decode cX0_unpost 55 = .ok (.iload_n 3, 1) := by decide +kernel
theorem dX0_unpost_56 : decode cX0_unpost 56 = .ok (.laload, 1) := by decide +kernel
theorem dX0_unpost_57 : decode cX0_unpost 57 = .ok (.invokestatic 69, 3) := by decide +kernel
theorem dX0_unpost_60 : decode cX0_unpost 60 = .ok (.ireturn, 1) := by decide +kernel
theorem dX0_leave_0 : decode cX0_leave 0 = .ok (.aload_n 1, 1) := by decide +kernel
theorem dX0_leave_1 : decode cX0_leave 1 = .ok (.iload_n 2, 1) := by decide +kernel
theorem dX0_leave_2 : decode cX0_leave 2 = .ok (.invokevirtual 58, 3) := by decide +kernel
theorem dX0_leave_5 : decode cX0_leave 5 = .ok (.ifCond .eq 12, 3) := by decide +kernel
theorem dX0_leave_8 : decode cX0_leave 8 = .ok (.iload_n 3, 1) := by decide +kernel
theorem dX0_leave_9 : decode cX0_leave 9 = .ok (.ifCond .lt 8, 3) := by decide +kernel
theorem dX0_leave_12 : decode cX0_leave 12 = .ok (.iload_n 3, 1) := by decide +kernel
theorem dX0_leave_13 : decode cX0_leave 13 = .ok (.iconst 1, 1) := by decide +kernel
theorem dX0_leave_14 : decode cX0_leave 14 = .ok (.if_icmp .le 5, 3) := by decide +kernel
theorem dX0_leave_17 : decode cX0_leave 17 = .ok (.iconst (-1), 1) := by decide +kernel
theorem dX0_leave_18 : decode cX0_leave 18 = .ok (.ireturn, 1) := by decide +kernel
theorem dX0_leave_19 : decode cX0_leave 19 = .ok (.iload_n 3, 1) := by decide +kernel
theorem dX0_leave_20 : decode cX0_leave 20 = .ok (.iconst 1, 1) := by decide +kernel
theorem dX0_leave_21 : decode cX0_leave 21 = .ok (.if_icmp .ne 11, 3) := by decide +kernel
theorem dX0_leave_24 : decode cX0_leave 24 = .ok (.aload_n 1, 1) := by decide +kernel
theorem dX0_leave_25 : decode cX0_leave 25 = .ok (.iload_n 2, 1) := by decide +kernel
theorem dX0_leave_26 : decode cX0_leave 26 = .ok (.invokevirtual 77, 3) := by decide +kernel
theorem dX0_leave_29 : decode cX0_leave 29 = .ok (.goto 4, 3) := by decide +kernel
theorem dX0_leave_32 : decode cX0_leave 32 = .ok (.iconst 0, 1) := by decide +kernel
theorem dX0_leave_33 : decode cX0_leave 33 = .ok (.istore 4, 2) := by decide +kernel
theorem dX0_leave_35 : decode cX0_leave 35 = .ok (.aload_n 1, 1) := by decide +kernel
theorem dX0_leave_36 : decode cX0_leave 36 = .ok (.getfield 31, 3) := by decide +kernel
theorem dX0_leave_39 : decode cX0_leave 39 = .ok (.iload_n 2, 1) := by decide +kernel
theorem dX0_leave_40 : decode cX0_leave 40 = .ok (.iaload, 1) := by decide +kernel
theorem dX0_leave_41 : decode cX0_leave 41 = .ok (.istore 5, 2) := by decide +kernel
theorem dX0_leave_43 : decode cX0_leave 43 = .ok (.aload_n 1, 1) := by decide +kernel
theorem dX0_leave_44 : decode cX0_leave 44 = .ok (.getfield 65, 3) := by decide +kernel
theorem dX0_leave_47 : decode cX0_leave 47 = .ok (.iload_n 2, 1) := by decide +kernel
theorem dX0_leave_48 : decode cX0_leave 48 = .ok (.laload, 1) := by decide +kernel
theorem dX0_leave_49 : decode cX0_leave 49 = .ok (.lstore 6, 2) := by decide +kernel
theorem dX0_leave_51 : decode cX0_leave 51 = .ok (.aload_n 1, 1) := by decide +kernel
theorem dX0_leave_52 : decode cX0_leave 52 = .ok (.iload_n 2, 1) := by decide +kernel
theorem dX0_leave_53 : decode cX0_leave 53 = .ok (.invokevirtual 81, 3) := by decide +kernel
theorem dX0_leave_56 : decode cX0_leave 56 = .ok (.iconst 0, 1) := by decide +kernel
theorem dX0_leave_57 : decode cX0_leave 57 = .ok (.istore 8, 2) := by decide +kernel
theorem dX0_leave_59 : decode cX0_leave 59 = .ok (.iload 8, 2) := by decide +kernel
theorem dX0_leave_61 : decode cX0_leave 61 = .ok (.bipush 24, 2) := by decide +kernel
theorem dX0_leave_63 : decode cX0_leave 63 = .ok (.if_icmp .ge 39, 3) := by decide +kernel
theorem dX0_leave_66 : decode cX0_leave 66 = .ok (.iload 4, 2) := by decide +kernel
theorem dX0_leave_68 : decode cX0_leave 68 = .ok (.iload 8, 2) := by decide +kernel
theorem dX0_leave_70 : decode cX0_leave 70 = .ok (.invokestatic 35, 3) := by decide +kernel
theorem dX0_leave_73 : decode cX0_leave 73 = .ok (.ifCond .eq 23, 3) := by decide +kernel
theorem dX0_leave_76 : decode cX0_leave 76 = .ok (.aload_n 1, 1) := by decide +kernel
theorem dX0_leave_77 : decode cX0_leave 77 = .ok (.getfield 65, 3) := by decide +kernel
theorem dX0_leave_80 : decode cX0_leave 80 = .ok (.iload 8, 2) := by decide +kernel
theorem dX0_leave_82 : decode cX0_leave 82 = .ok (.dup2, 1) := by decide +kernel
theorem dX0_leave_83 : decode cX0_leave 83 = .ok (.laload, 1) := by decide +kernel
theorem dX0_leave_84 : decode cX0_leave 84 = .ok (.lload 6, 2) := by decide +kernel
theorem dX0_leave_86 : decode cX0_leave 86 = .ok (.lor, 1) := by decide +kernel
theorem dX0_leave_87 : decode cX0_leave 87 = .ok (.lastore, 1) := by decide +kernel
theorem dX0_leave_88 : decode cX0_leave 88 = .ok (.aload_n 1, 1) := by decide +kernel
theorem dX0_leave_89 : decode cX0_leave 89 = .ok (.iload 8, 2) := by decide +kernel
theorem dX0_leave_91 : decode cX0_leave 91 = .ok (.iload 5, 2) := by decide +kernel
theorem dX0_leave_93 : decode cX0_leave 93 = .ok (.invokevirtual 85, 3) := by decide +kernel
theorem dX0_leave_96 : decode cX0_leave 96 = .ok (.iinc 8 1, 3) := by decide +kernel
theorem dX0_leave_99 : decode cX0_leave 99 = .ok (.goto (-40), 3) := by decide +kernel
theorem dX0_leave_102 : decode cX0_leave 102 = .ok (.aload_n 1, 1) := by decide +kernel
theorem dX0_leave_103 : decode cX0_leave 103 = .ok (.getfield 89, 3) := by decide +kernel
theorem dX0_leave_106 : decode cX0_leave 106 = .ok (.ireturn, 1) := by decide +kernel
theorem dX0_merge_0 : decode cX0_merge 0 = .ok (.aload_n 1, 1) := by decide +kernel
theorem dX0_merge_1 : decode cX0_merge 1 = .ok (.iload_n 2, 1) := by decide +kernel
theorem dX0_merge_2 : decode cX0_merge 2 = .ok (.iload_n 3, 1) := by decide +kernel
theorem dX0_merge_3 : decode cX0_merge 3 = .ok (.invokevirtual 25, 3) := by decide +kernel
theorem dX0_merge_6 : decode cX0_merge 6 = .ok (.ifCond .ne 5, 3) := by decide +kernel
theorem dX0_merge_9 : decode cX0_merge 9 = .ok (.iconst (-1), 1) := by decide +kernel
theorem dX0_merge_10 : decode cX0_merge 10 = .ok (.ireturn, 1) := by decide +kernel
theorem dX0_merge_11 : decode cX0_merge 11 = .ok (.aload_n 0, 1) := by decide +kernel
theorem dX0_merge_12 : decode cX0_merge 12 = .ok (.aload_n 1, 1) := by decide +kernel
theorem dX0_merge_13 : decode cX0_merge 13 = .ok (.iload_n 2, 1) := by decide +kernel
theorem dX0_merge_14 : decode cX0_merge 14 = .ok (.iload_n 3, 1) := by decide +kernel
theorem dX0_merge_15 : decode cX0_merge 15 = .ok (.invokevirtual 93, 3) := by decide +kernel
theorem dX0_merge_18 : decode cX0_merge 18 = .ok (.ifCond .ne 13, 3) := by decide +kernel
theorem dX0_merge_21 : decode cX0_merge 21 = .ok (.aload_n 0, 1) := by decide +kernel
theorem dX0_merge_22 : decode cX0_merge 22 = .ok (.aload_n 1, 1) := by decide +kernel
theorem dX0_merge_23 : decode cX0_merge 23 = .ok (.iload_n 3, 1) := by decide +kernel
theorem dX0_merge_24 : decode cX0_merge 24 = .ok (.iload_n 2, 1) := by decide +kernel
theorem dX0_merge_25 : decode cX0_merge 25 = .ok (.invokevirtual 93, 3) := by decide +kernel
theorem dX0_merge_28 : decode cX0_merge 28 = .ok (.ifCond .eq 6, 3) := by decide +kernel
theorem dX0_merge_31 : decode cX0_merge 31 = .ok (.bipush (-4), 2) := by decide +kernel
theorem dX0_merge_33 : decode cX0_merge 33 = .ok (.ireturn, 1) := by decide +kernel
theorem dX0_merge_34 : decode cX0_merge 34 = .ok (.aload_n 1, 1) := by decide +kernel
theorem dX0_merge_35 : decode cX0_merge 35 = .ok (.getfield 31, 3) := by decide +kernel
theorem dX0_merge_38 : decode cX0_merge 38 = .ok (.iload_n 3, 1) := by decide +kernel
theorem dX0_merge_39 : decode cX0_merge 39 = .ok (.iaload, 1) := by decide +kernel
theorem dX0_merge_40 : decode cX0_merge 40 = .ok (.iconst 1, 1) := by decide +kernel
theorem dX0_merge_41 : decode cX0_merge 41 = .ok (.iload_n 2, 1) := by decide +kernel
theorem dX0_merge_42 : decode cX0_merge 42 = .ok (.ishl, 1) := by decide +kernel
theorem dX0_merge_43 : decode cX0_merge 43 = .ok (.iconst (-1), 1) := by decide +kernel
theorem dX0_merge_44 : decode cX0_merge 44 = .ok (.ixor, 1) := by decide +kernel
theorem dX0_merge_45 : decode cX0_merge 45 = .ok (.iand, 1) := by decide +kernel
theorem dX0_merge_46 : decode cX0_merge 46 = .ok (.istore 4, 2) := by decide +kernel
theorem dX0_merge_48 : decode cX0_merge 48 = .ok (.aload_n 1, 1) := by decide +kernel
theorem dX0_merge_49 : decode cX0_merge 49 = .ok (.iload_n 3, 1) := by decide +kernel
theorem dX0_merge_50 : decode cX0_merge 50 = .ok (.invokevirtual 77, 3) := by decide +kernel
theorem dX0_merge_53 : decode cX0_merge 53 = .ok (.iconst 1, 1) := by decide +kernel
theorem dX0_merge_54 : decode cX0_merge 54 = .ok (.iload_n 2, 1) := by decide +kernel
theorem dX0_merge_55 : decode cX0_merge 55 = .ok (.ishl, 1) := by decide +kernel
theorem dX0_merge_56 : decode cX0_merge 56 = .ok (.iconst (-1), 1) := by decide +kernel
theorem dX0_merge_57 : decode cX0_merge 57 = .ok (.ixor, 1) := by decide +kernel
theorem dX0_merge_58 : decode cX0_merge 58 = .ok (.iand, 1) := by decide +kernel
theorem dX0_merge_59 : decode cX0_merge 59 = .ok (.istore 5, 2) := by decide +kernel
theorem dX0_merge_61 : decode cX0_merge 61 = .ok (.aload_n 1, 1) := by decide +kernel
theorem dX0_merge_62 : decode cX0_merge 62 = .ok (.getfield 65, 3) := by decide +kernel
theorem dX0_merge_65 : decode cX0_merge 65 = .ok (.iload_n 2, 1) := by decide +kernel
theorem dX0_merge_66 : decode cX0_merge 66 = .ok (.dup2, 1) := by decide +kernel
theorem dX0_merge_67 : decode cX0_merge 67 = .ok (.laload, 1) := by decide +kernel
theorem dX0_merge_68 : decode cX0_merge 68 = .ok (.aload_n 1, 1) := by decide +kernel
theorem dX0_merge_69 : decode cX0_merge 69 = .ok (.getfield 65, 3) := by decide +kernel
theorem dX0_merge_72 : decode cX0_merge 72 = .ok (.iload_n 3, 1) := by decide +kernel
theorem dX0_merge_73 : decode cX0_merge 73 = .ok (.laload, 1) := by decide +kernel
theorem dX0_merge_74 : decode cX0_merge 74 = .ok (.lor, 1) := by decide +kernel
theorem dX0_merge_75 : decode cX0_merge 75 = .ok (.lastore, 1) := by decide +kernel
theorem dX0_merge_76 : decode cX0_merge 76 = .ok (.aload_n 1, 1) := by decide +kernel
theorem dX0_merge_77 : decode cX0_merge 77 = .ok (.iload_n 3, 1) := by decide +kernel
theorem dX0_merge_78 : decode cX0_merge 78 = .ok (.iload_n 2, 1) := by decide +kernel
theorem dX0_merge_79 : decode cX0_merge 79 = .ok (.invokevirtual 97, 3) := by decide +kernel
theorem dX0_merge_82 : decode cX0_merge 82 = .ok (.aload_n 1, 1) := by decide +kernel
theorem dX0_merge_83 : decode cX0_merge 83 = .ok (.iload_n 3, 1) := by decide +kernel
theorem dX0_merge_84 : decode cX0_merge 84 = .ok (.invokevirtual 81, 3) := by decide +kernel
theorem dX0_merge_87 : decode cX0_merge 87 = .ok (.aload_n 1, 1) := by decide +kernel
theorem dX0_merge_88 : decode cX0_merge 88 = .ok (.iload_n 2, 1) := by decide +kernel
theorem dX0_merge_89 : decode cX0_merge 89 = .ok (.iload 4, 2) := by decide +kernel
theorem dX0_merge_91 : decode cX0_merge 91 = .ok (.invokevirtual 85, 3) := by decide +kernel
theorem dX0_merge_94 : decode cX0_merge 94 = .ok (.iconst 0, 1) := by decide +kernel
theorem dX0_merge_95 : decode cX0_merge 95 = .ok (.istore 6, 2) := by decide +kernel
theorem dX0_merge_97 : decode cX0_merge 97 = .ok (.iload 6, 2) := by decide +kernel
theorem dX0_merge_99 : decode cX0_merge 99 = .ok (.bipush 24, 2) := by decide +kernel
theorem dX0_merge_101 : decode cX0_merge 101 = .ok (.if_icmp .ge 28, 3) := by decide +kernel
theorem dX0_merge_104 : decode cX0_merge 104 = .ok (.iload 5, 2) := by decide +kernel
theorem dX0_merge_106 : decode cX0_merge 106 = .ok (.iload 6, 2) := by decide +kernel
theorem dX0_merge_108 : decode cX0_merge 108 = .ok (.invokestatic 35, 3) := by decide +kernel
theorem dX0_merge_111 : decode cX0_merge 111 = .ok (.ifCond .eq 12, 3) := by decide +kernel
theorem dX0_merge_114 : decode cX0_merge 114 = .ok (.aload_n 1, 1) := by decide +kernel
theorem dX0_merge_115 : decode cX0_merge 115 = .ok (.iload 6, 2) := by decide +kernel
theorem dX0_merge_117 : decode cX0_merge 117 = .ok (.iconst 1, 1) := by decide +kernel
theorem dX0_merge_118 : decode cX0_merge 118 = .ok (.iload_n 2, 1) := by decide +kernel
theorem dX0_merge_119 : decode cX0_merge 119 = .ok (.ishl, 1) := by decide +kernel
theorem dX0_merge_120 : decode cX0_merge 120 = .ok (.invokevirtual 85, 3) := by decide +kernel
theorem dX0_merge_123 : decode cX0_merge 123 = .ok (.iinc 6 1, 3) := by decide +kernel
theorem dX0_merge_126 : decode cX0_merge 126 = .ok (.goto (-29), 3) := by decide +kernel
theorem dX0_merge_129 : decode cX0_merge 129 = .ok (.aload_n 1, 1) := by decide +kernel
theorem dX0_merge_130 : decode cX0_merge 130 = .ok (.getfield 89, 3) := by decide +kernel
theorem dX0_merge_133 : decode cX0_merge 133 = .ok (.ireturn, 1) := by decide +kernel
theorem dX0_tellsWayOverOthers_0 : decode cX0_tellsWayOverOthers 0 = .ok (.aload_n 0, 1) := by decide +kernel
theorem dX0_tellsWayOverOthers_1 : decode cX0_tellsWayOverOthers 1 = .ok (.getfield 12, 3) := by decide +kernel
theorem dX0_tellsWayOverOthers_4 : decode cX0_tellsWayOverOthers 4 = .ok (.aload_n 1, 1) := by decide +kernel
theorem dX0_tellsWayOverOthers_5 : decode cX0_tellsWayOverOthers 5 = .ok (.iload_n 2, 1) := by decide +kernel
theorem dX0_tellsWayOverOthers_6 : decode cX0_tellsWayOverOthers 6 = .ok (.iload_n 3, 1) := by decide +kernel
theorem dX0_tellsWayOverOthers_7 : decode cX0_tellsWayOverOthers 7 = .ok (.iconst 0, 1) := by decide +kernel
theorem dX0_tellsWayOverOthers_8 : decode cX0_tellsWayOverOthers 8 = .ok (.invokevirtual 38, 3) := by decide +kernel
theorem dX0_tellsWayOverOthers_11 : decode cX0_tellsWayOverOthers 11 = .ok (.ifCond .ne 5, 3) := by decide +kernel
theorem dX0_tellsWayOverOthers_14 : decode cX0_tellsWayOverOthers 14 = .ok (.iconst 0, 1) := by decide +kernel
theorem dX0_tellsWayOverOthers_15 : decode cX0_tellsWayOverOthers 15 = .ok (.ireturn, 1) := by decide +kernel
theorem dX0_tellsWayOverOthers_16 : decode cX0_tellsWayOverOthers 16 = .ok (.aload_n 0, 1) := by decide +kernel
theorem dX0_tellsWayOverOthers_17 : decode cX0_tellsWayOverOthers 17 = .ok (.getfield 12, 3) := by decide +kernel
theorem dX0_tellsWayOverOthers_20 : decode cX0_tellsWayOverOthers 20 = .ok (.aload_n 1, 1) := by decide +kernel
theorem dX0_tellsWayOverOthers_21 : decode cX0_tellsWayOverOthers 21 = .ok (.iload_n 2, 1) := by decide +kernel
theorem dX0_tellsWayOverOthers_22 : decode cX0_tellsWayOverOthers 22 = .ok (.aload_n 0, 1) := by decide +kernel
theorem dX0_tellsWayOverOthers_23 : decode cX0_tellsWayOverOthers 23 = .ok (.getfield 21, 3) := by decide +kernel
theorem dX0_tellsWayOverOthers_26 : decode cX0_tellsWayOverOthers 26 = .ok (.invokevirtual 42, 3) := by decide +kernel
theorem dX0_tellsWayOverOthers_29 : decode cX0_tellsWayOverOthers 29 = .ok (.iconst 1, 1) := by decide +kernel
theorem dX0_tellsWayOverOthers_30 : decode cX0_tellsWayOverOthers 30 = .ok (.ireturn, 1) := by decide +kernel
theorem dX0_thin_0 : decode cX0_thin 0 = .ok (.iconst 0, 1) := by decide +kernel
theorem dX0_thin_1 : decode cX0_thin 1 = .ok (.istore_n 2, 1) := by decide +kernel
theorem dX0_thin_2 : decode cX0_thin 2 = .ok (.iconst 0, 1) := by decide +kernel
theorem dX0_thin_3 : decode cX0_thin 3 = .ok (.istore_n 3, 1) := by decide +kernel
theorem dX0_thin_4 : decode cX0_thin 4 = .ok (.iload_n 3, 1) := by decide +kernel
theorem dX0_thin_5 : decode cX0_thin 5 = .ok (.bipush 24, 2) := by decide +kernel
theorem dX0_thin_7 : decode cX0_thin 7 = .ok (.if_icmp .ge 37, 3) := by decide +kernel
theorem dX0_thin_10 : decode cX0_thin 10 = .ok (.aload_n 1, 1) := by decide +kernel
theorem dX0_thin_11 : decode cX0_thin 11 = .ok (.iload_n 3, 1) := by decide +kernel
theorem dX0_thin_12 : decode cX0_thin 12 = .ok (.invokevirtual 100, 3) := by decide +kernel
theorem dX0_thin_15 : decode cX0_thin 15 = .ok (.istore 4, 2) := by decide +kernel
theorem dX0_thin_17 : decode cX0_thin 17 = .ok (.aload_n 1, 1) := by decide +kernel
theorem dX0_thin_18 : decode cX0_thin 18 = .ok (.getfield 31, 3) := by decide +kernel
theorem dX0_thin_21 : decode cX0_thin 21 = .ok (.iload_n 3, 1) := by decide +kernel
theorem dX0_thin_22 : decode cX0_thin 22 = .ok (.dup2, 1) := by decide +kernel
theorem dX0_thin_23 : decode cX0_thin 23 = .ok (.iaload, 1) := by decide +kernel
theorem dX0_thin_24 : decode cX0_thin 24 = .ok (.iload 4, 2) := by decide +kernel
theorem dX0_thin_26 : decode cX0_thin 26 = .ok (.iconst (-1), 1) := by decide +kernel
theorem dX0_thin_27 : decode cX0_thin 27 = .ok (.ixor, 1) := by decide +kernel
theorem dX0_thin_28 : decode cX0_thin 28 = .ok (.iand, 1) := by decide +kernel
theorem dX0_thin_29 : decode cX0_thin 29 = .ok (.iastore, 1) := by decide +kernel
theorem dX0_thin_30 : decode cX0_thin 30 = .ok (.iload_n 2, 1) := by decide +kernel
theorem dX0_thin_31 : decode cX0_thin 31 = .ok (.iload 4, 2) := by decide +kernel
theorem dX0_thin_33 : decode cX0_thin 33 = .ok (.invokestatic 103, 3) := by decide +kernel
theorem dX0_thin_36 : decode cX0_thin 36 = .ok (.iadd, 1) := by decide +kernel
theorem dX0_thin_37 : decode cX0_thin 37 = .ok (.istore_n 2, 1) := by decide +kernel
theorem dX0_thin_38 : decode cX0_thin 38 = .ok (.iinc 3 1, 3) := by decide +kernel
theorem dX0_thin_41 : decode cX0_thin 41 = .ok (.goto (-37), 3) := by decide +kernel
theorem dX0_thin_44 : decode cX0_thin 44 = .ok (.iload_n 2, 1) := by decide +kernel
theorem dX0_thin_45 : decode cX0_thin 45 = .ok (.ifCond .le 7, 3) := by decide +kernel
theorem dX0_thin_48 : decode cX0_thin 48 = .ok (.iload_n 2, 1) := by decide +kernel
theorem dX0_thin_49 : decode cX0_thin 49 = .ok (.goto 5, 3) := by decide +kernel
theorem dX0_thin_52 : decode cX0_thin 52 = .ok (.bipush (-2), 2) := by decide +kernel
theorem dX0_thin_54 : decode cX0_thin 54 = .ok (.ireturn, 1) := by decide +kernel
theorem dX0_actOf_0 : decode cX0_actOf 0 = .ok (.iload_n 2, 1) := by decide +kernel
theorem dX0_actOf_1 : decode cX0_actOf 1 = .ok (.sipush 10000, 3) := by decide +kernel
theorem dX0_actOf_4 : decode cX0_actOf 4 = .ok (.irem, 1) := by decide +kernel
theorem dX0_actOf_5 : decode cX0_actOf 5 = .ok (.istore_n 3, 1) := by decide +kernel
theorem dX0_actOf_6 : decode cX0_actOf 6 = .ok (.iload_n 2, 1) := by decide +kernel
theorem dX0_actOf_7 : decode cX0_actOf 7 = .ok (.sipush 10000, 3) := by decide +kernel
theorem dX0_actOf_10 : decode cX0_actOf 10 = .ok (.idiv, 1) := by decide +kernel
theorem dX0_actOf_11 : decode cX0_actOf 11 = .ok (.tableswitch 143 103 117 #[115, 143, 143, 143, 143, 73, 101, 143, 143, 129, 143, 143, 143, 143, 87], 73) := by decide +kernel
theorem dX0_actOf_84 : decode cX0_actOf 84 = .ok (.aload_n 0, 1) := by decide +kernel
theorem dX0_actOf_85 : decode cX0_actOf 85 = .ok (.aload_n 1, 1) := by decide +kernel
theorem dX0_actOf_86 : decode cX0_actOf 86 = .ok (.iload_n 3, 1) := by decide +kernel
theorem dX0_actOf_87 : decode cX0_actOf 87 = .ok (.bipush 100, 2) := by decide +kernel
theorem dX0_actOf_89 : decode cX0_actOf 89 = .ok (.idiv, 1) := by decide +kernel
theorem dX0_actOf_90 : decode cX0_actOf 90 = .ok (.iload_n 3, 1) := by decide +kernel
theorem dX0_actOf_91 : decode cX0_actOf 91 = .ok (.bipush 100, 2) := by decide +kernel
theorem dX0_actOf_93 : decode cX0_actOf 93 = .ok (.irem, 1) := by decide +kernel
theorem dX0_actOf_94 : decode cX0_actOf 94 = .ok (.invokevirtual 50, 3) := by decide +kernel
theorem dX0_actOf_97 : decode cX0_actOf 97 = .ok (.ireturn, 1) := by decide +kernel
theorem dX0_actOf_98 : decode cX0_actOf 98 = .ok (.aload_n 0, 1) := by decide +kernel
theorem dX0_actOf_99 : decode cX0_actOf 99 = .ok (.aload_n 1, 1) := by decide +kernel
theorem dX0_actOf_100 : decode cX0_actOf 100 = .ok (.iload_n 3, 1) := by decide +kernel
theorem dX0_actOf_101 : decode cX0_actOf 101 = .ok (.bipush 100, 2) := by decide +kernel
theorem dX0_actOf_103 : decode cX0_actOf 103 = .ok (.idiv, 1) := by decide +kernel
theorem dX0_actOf_104 : decode cX0_actOf 104 = .ok (.iload_n 3, 1) := by decide +kernel
theorem dX0_actOf_105 : decode cX0_actOf 105 = .ok (.bipush 100, 2) := by decide +kernel
theorem dX0_actOf_107 : decode cX0_actOf 107 = .ok (.irem, 1) := by decide +kernel
theorem dX0_actOf_108 : decode cX0_actOf 108 = .ok (.invokevirtual 107, 3) := by decide +kernel
theorem dX0_actOf_111 : decode cX0_actOf 111 = .ok (.ireturn, 1) := by decide +kernel
theorem dX0_actOf_112 : decode cX0_actOf 112 = .ok (.aload_n 0, 1) := by decide +kernel
theorem dX0_actOf_113 : decode cX0_actOf 113 = .ok (.aload_n 1, 1) := by decide +kernel
theorem dX0_actOf_114 : decode cX0_actOf 114 = .ok (.iload_n 3, 1) := by decide +kernel
theorem dX0_actOf_115 : decode cX0_actOf 115 = .ok (.bipush 100, 2) := by decide +kernel
theorem dX0_actOf_117 : decode cX0_actOf 117 = .ok (.idiv, 1) := by decide +kernel
theorem dX0_actOf_118 : decode cX0_actOf 118 = .ok (.iload_n 3, 1) := by decide +kernel
theorem dX0_actOf_119 : decode cX0_actOf 119 = .ok (.bipush 100, 2) := by decide +kernel
theorem dX0_actOf_121 : decode cX0_actOf 121 = .ok (.irem, 1) := by decide +kernel
theorem dX0_actOf_122 : decode cX0_actOf 122 = .ok (.invokevirtual 110, 3) := by decide +kernel
theorem dX0_actOf_125 : decode cX0_actOf 125 = .ok (.ireturn, 1) := by decide +kernel
theorem dX0_actOf_126 : decode cX0_actOf 126 = .ok (.aload_n 0, 1) := by decide +kernel
theorem dX0_actOf_127 : decode cX0_actOf 127 = .ok (.aload_n 1, 1) := by decide +kernel
theorem dX0_actOf_128 : decode cX0_actOf 128 = .ok (.iload_n 3, 1) := by decide +kernel
theorem dX0_actOf_129 : decode cX0_actOf 129 = .ok (.bipush 10, 2) := by decide +kernel
theorem dX0_actOf_131 : decode cX0_actOf 131 = .ok (.idiv, 1) := by decide +kernel
theorem dX0_actOf_132 : decode cX0_actOf 132 = .ok (.iload_n 3, 1) := by decide +kernel
theorem dX0_actOf_133 : decode cX0_actOf 133 = .ok (.bipush 10, 2) := by decide +kernel
theorem dX0_actOf_135 : decode cX0_actOf 135 = .ok (.irem, 1) := by decide +kernel
theorem dX0_actOf_136 : decode cX0_actOf 136 = .ok (.invokevirtual 113, 3) := by decide +kernel
theorem dX0_actOf_139 : decode cX0_actOf 139 = .ok (.ireturn, 1) := by decide +kernel
theorem dX0_actOf_140 : decode cX0_actOf 140 = .ok (.aload_n 0, 1) := by decide +kernel
theorem dX0_actOf_141 : decode cX0_actOf 141 = .ok (.aload_n 1, 1) := by decide +kernel
theorem dX0_actOf_142 : decode cX0_actOf 142 = .ok (.iload_n 3, 1) := by decide +kernel
theorem dX0_actOf_143 : decode cX0_actOf 143 = .ok (.bipush 100, 2) := by decide +kernel
theorem dX0_actOf_145 : decode cX0_actOf 145 = .ok (.idiv, 1) := by decide +kernel
theorem dX0_actOf_146 : decode cX0_actOf 146 = .ok (.iload_n 3, 1) := by decide +kernel
theorem dX0_actOf_147 : decode cX0_actOf 147 = .ok (.bipush 100, 2) := by decide +kernel
theorem dX0_actOf_149 : decode cX0_actOf 149 = .ok (.irem, 1) := by decide +kernel
theorem dX0_actOf_150 : decode cX0_actOf 150 = .ok (.invokevirtual 116, 3) := by decide +kernel
theorem dX0_actOf_153 : decode cX0_actOf 153 = .ok (.ireturn, 1) := by decide +kernel
theorem dX0_actOf_154 : decode cX0_actOf 154 = .ok (.aload_n 0, 1) := by decide +kernel
theorem dX0_actOf_155 : decode cX0_actOf 155 = .ok (.aload_n 1, 1) := by decide +kernel
theorem dX0_actOf_156 : decode cX0_actOf 156 = .ok (.invokevirtual 119, 3) := by decide +kernel
theorem dX0_actOf_159 : decode cX0_actOf 159 = .ok (.ireturn, 1) := by decide +kernel
theorem dX1_init_0 : decode cX1_init 0 = .ok (.aload_n 0, 1) := by decide +kernel
theorem dX1_init_1 : decode cX1_init 1 = .ok (.invokespecial 3, 3) := by decide +kernel
theorem dX1_init_4 : decode cX1_init 4 = .ok (.aload_n 0, 1) := by decide +kernel
theorem dX1_init_5 : decode cX1_init 5 = .ok (.bipush 24, 2) := by decide +kernel
theorem dX1_init_7 : decode cX1_init 7 = .ok (.newarray .int, 2) := by decide +kernel
theorem dX1_init_9 : decode cX1_init 9 = .ok (.putfield 9, 3) := by decide +kernel
theorem dX1_init_12 : decode cX1_init 12 = .ok (.aload_n 0, 1) := by decide +kernel
theorem dX1_init_13 : decode cX1_init 13 = .ok (.bipush 24, 2) := by decide +kernel
theorem dX1_init_15 : decode cX1_init 15 = .ok (.newarray .long, 2) := by decide +kernel
theorem dX1_init_17 : decode cX1_init 17 = .ok (.putfield 15, 3) := by decide +kernel
theorem dX1_init_20 : decode cX1_init 20 = .ok (.aload_n 0, 1) := by decide +kernel
theorem dX1_init_21 : decode cX1_init 21 = .ok (.bipush 24, 2) := by decide +kernel
theorem dX1_init_23 : decode cX1_init 23 = .ok (.newarray .int, 2) := by decide +kernel
theorem dX1_init_25 : decode cX1_init 25 = .ok (.putfield 19, 3) := by decide +kernel
theorem dX1_init_28 : decode cX1_init 28 = .ok (.aload_n 0, 1) := by decide +kernel
theorem dX1_init_29 : decode cX1_init 29 = .ok (.bipush 24, 2) := by decide +kernel
theorem dX1_init_31 : decode cX1_init 31 = .ok (.newarray .int, 2) := by decide +kernel
theorem dX1_init_33 : decode cX1_init 33 = .ok (.putfield 22, 3) := by decide +kernel
theorem dX1_init_36 : decode cX1_init 36 = .ok (.aload_n 0, 1) := by decide +kernel
theorem dX1_init_37 : decode cX1_init 37 = .ok (.bipush 24, 2) := by decide +kernel
theorem dX1_init_39 : decode cX1_init 39 = .ok (.newarray .int, 2) := by decide +kernel
theorem dX1_init_41 : decode cX1_init 41 = .ok (.putfield 25, 3) := by decide +kernel
theorem dX1_init_44 : decode cX1_init 44 = .ok (.aload_n 0, 1) := by decide +kernel
theorem dX1_init_45 : decode cX1_init 45 = .ok (.bipush 24, 2) := by decide +kernel
theorem dX1_init_47 : decode cX1_init 47 = .ok (.newarray .int, 2) := by decide +kernel
theorem dX1_init_49 : decode cX1_init 49 = .ok (.putfield 28, 3) := by decide +kernel
theorem dX1_init_52 : decode cX1_init 52 = .ok (.return_, 1) := by decide +kernel
theorem dX1_findWay_0 : decode cX1_findWay 0 = .ok (.aload_n 0, 1) := by decide +kernel
theorem dX1_findWay_1 : decode cX1_findWay 1 = .ok (.getfield 19, 3) := by decide +kernel
theorem dX1_findWay_4 : decode cX1_findWay 4 = .ok (.iconst 0, 1) := by decide +kernel
theorem dX1_findWay_5 : decode cX1_findWay 5 = .ok (.iconst 1, 1) := by decide +kernel
theorem dX1_findWay_6 : decode cX1_findWay 6 = .ok (.iload_n 3, 1) := by decide +kernel
theorem dX1_findWay_7 : decode cX1_findWay 7 = .ok (.ishl, 1) := by decide +kernel
theorem dX1_findWay_8 : decode cX1_findWay 8 = .ok (.iastore, 1) := by decide +kernel
theorem dX1_findWay_9 : decode cX1_findWay 9 = .ok (.aload_n 0, 1) := by decide +kernel
theorem dX1_findWay_10 : decode cX1_findWay 10 = .ok (.getfield 19, 3) := by decide +kernel
theorem dX1_findWay_13 : decode cX1_findWay 13 = .ok (.iconst 0, 1) := by decide +kernel
theorem dX1_findWay_14 : decode cX1_findWay 14 = .ok (.iaload, 1) := by decide +kernel
theorem dX1_findWay_15 : decode cX1_findWay 15 = .ok (.istore 5, 2) := by decide +kernel
theorem dX1_findWay_17 : decode cX1_findWay 17 = .ok (.aload_n 0, 1) := by decide +kernel
theorem dX1_findWay_18 : decode cX1_findWay 18 = .ok (.iconst 0, 1) := by decide +kernel
theorem dX1_findWay_19 : decode cX1_findWay 19 = .ok (.putfield 31, 3) := by decide +kernel
theorem dX1_findWay_22 : decode cX1_findWay 22 = .ok (.iconst 1, 1) := by decide +kernel
theorem dX1_findWay_23 : decode cX1_findWay 23 = .ok (.istore 6, 2) := by decide +kernel
theorem dX1_findWay_25 : decode cX1_findWay 25 = .ok (.iload 6, 2) := by decide +kernel
theorem dX1_findWay_27 : decode cX1_findWay 27 = .ok (.bipush 24, 2) := by decide +kernel
theorem dX1_findWay_29 : decode cX1_findWay 29 = .ok (.if_icmp .ge 136, 3) := by decide +kernel
theorem dX1_findWay_32 : decode cX1_findWay 32 = .ok (.aload_n 0, 1) := by decide +kernel
theorem dX1_findWay_33 : decode cX1_findWay 33 = .ok (.getfield 31, 3) := by decide +kernel
theorem dX1_findWay_36 : decode cX1_findWay 36 = .ok (.ifCond .ne 129, 3) := by decide +kernel
theorem dX1_findWay_39 : decode cX1_findWay 39 = .ok (.iconst 0, 1) := by decide +kernel
theorem dX1_findWay_40 : decode cX1_findWay 40 = .ok (.istore 7, 2) := by decide +kernel
theorem dX1_findWay_42 : decode cX1_findWay 42 = .ok (.iconst 0, 1) := by decide +kernel
theorem dX1_findWay_43 : decode cX1_findWay 43 = .ok (.istore 8, 2) := by decide +kernel
theorem dX1_findWay_45 : decode cX1_findWay 45 = .ok (.iload 8, 2) := by decide +kernel
theorem dX1_findWay_47 : decode cX1_findWay 47 = .ok (.bipush 24, 2) := by decide +kernel
theorem dX1_findWay_49 : decode cX1_findWay 49 = .ok (.if_icmp .ge 77, 3) := by decide +kernel
theorem dX1_findWay_52 : decode cX1_findWay 52 = .ok (.iload 5, 2) := by decide +kernel
theorem dX1_findWay_54 : decode cX1_findWay 54 = .ok (.iload 8, 2) := by decide +kernel
theorem dX1_findWay_56 : decode cX1_findWay 56 = .ok (.invokestatic 35, 3) := by decide +kernel
theorem dX1_findWay_59 : decode cX1_findWay 59 = .ok (.ifCond .ne 20, 3) := by decide +kernel
theorem dX1_findWay_62 : decode cX1_findWay 62 = .ok (.iload 8, 2) := by decide +kernel
theorem dX1_findWay_64 : decode cX1_findWay 64 = .ok (.iload_n 2, 1) := by decide +kernel
theorem dX1_findWay_65 : decode cX1_findWay 65 = .ok (.if_icmp .ne 18, 3) := by decide +kernel
theorem dX1_findWay_68 : decode cX1_findWay 68 = .ok (.iload 6, 2) := by decide +kernel
theorem dX1_findWay_70 : decode cX1_findWay 70 = .ok (.iconst 1, 1) := by decide +kernel
theorem dX1_findWay_71 : decode cX1_findWay 71 = .ok (.if_icmp .ne 12, 3) := by decide +kernel
theorem dX1_findWay_74 : decode cX1_findWay 74 = .ok (.iload 4, 2) := by decide +kernel
theorem dX1_findWay_76 : decode cX1_findWay 76 = .ok (.ifCond .ne 7, 3) := by decide +kernel
theorem dX1_findWay_79 : decode cX1_findWay 79 = .ok (.iconst 1, 1) := by decide +kernel
theorem dX1_findWay_80 : decode cX1_findWay 80 = .ok (.goto 4, 3) := by decide +kernel
theorem dX1_findWay_83 : decode cX1_findWay 83 = .ok (.iconst 0, 1) := by decide +kernel
theorem dX1_findWay_84 : decode cX1_findWay 84 = .ok (.istore 9, 2) := by decide +kernel
theorem dX1_findWay_86 : decode cX1_findWay 86 = .ok (.iload 9, 2) := by decide +kernel
theorem dX1_findWay_88 : decode cX1_findWay 88 = .ok (.ifCond .ne 32, 3) := by decide +kernel
theorem dX1_findWay_91 : decode cX1_findWay 91 = .ok (.aload_n 1, 1) := by decide +kernel
theorem dX1_findWay_92 : decode cX1_findWay 92 = .ok (.getfield 39, 3) := by decide +kernel
theorem dX1_findWay_95 : decode cX1_findWay 95 = .ok (.iload 8, 2) := by decide +kernel
theorem dX1_findWay_97 : decode cX1_findWay 97 = .ok (.iaload, 1) := by decide +kernel
theorem dX1_findWay_98 : decode cX1_findWay 98 = .ok (.aload_n 0, 1) := by decide +kernel
theorem dX1_findWay_99 : decode cX1_findWay 99 = .ok (.getfield 19, 3) := by decide +kernel
theorem dX1_findWay_102 : decode cX1_findWay 102 = .ok (.iload 6, 2) := by decide +kernel
theorem dX1_findWay_104 : decode cX1_findWay 104 = .ok (.iconst 1, 1) := by decide +kernel
theorem dX1_findWay_105 : decode cX1_findWay 105 = .ok (.isub, 1) := by decide +kernel
theorem dX1_findWay_106 : decode cX1_findWay 106 = .ok (.iaload, 1) := by decide +kernel
theorem dX1_findWay_107 : decode cX1_findWay 107 = .ok (.iand, 1) := by decide +kernel
theorem dX1_findWay_108 : decode cX1_findWay 108 = .ok (.ifCond .eq 12, 3) := by decide +kernel
theorem dX1_findWay_111 : decode cX1_findWay 111 = .ok (.iload 7, 2) := by decide +kernel
theorem dX1_findWay_113 : decode cX1_findWay 113 = .ok (.iconst 1, 1) := by decide +kernel
theorem dX1_findWay_114 : decode cX1_findWay 114 = .ok (.iload 8, 2) := by decide +kernel
theorem dX1_findWay_116 : decode cX1_findWay 116 = .ok (.ishl, 1) := by decide +kernel
theorem dX1_findWay_117 : decode cX1_findWay 117 = .ok (.ior, 1) := by decide +kernel
theorem dX1_findWay_118 : decode cX1_findWay 118 = .ok (.istore 7, 2) := by decide +kernel
theorem dX1_findWay_120 : decode cX1_findWay 120 = .ok (.iinc 8 1, 3) := by decide +kernel
theorem dX1_findWay_123 : decode cX1_findWay 123 = .ok (.goto (-78), 3) := by decide +kernel
theorem dX1_findWay_126 : decode cX1_findWay 126 = .ok (.aload_n 0, 1) := by decide +kernel
theorem dX1_findWay_127 : decode cX1_findWay 127 = .ok (.getfield 19, 3) := by decide +kernel
theorem dX1_findWay_130 : decode cX1_findWay 130 = .ok (.iload 6, 2) := by decide +kernel
theorem dX1_findWay_132 : decode cX1_findWay 132 = .ok (.iload 7, 2) := by decide +kernel
theorem dX1_findWay_134 : decode cX1_findWay 134 = .ok (.iastore, 1) := by decide +kernel
theorem dX1_findWay_135 : decode cX1_findWay 135 = .ok (.iload 5, 2) := by decide +kernel
theorem dX1_findWay_137 : decode cX1_findWay 137 = .ok (.iload 7, 2) := by decide +kernel
theorem dX1_findWay_139 : decode cX1_findWay 139 = .ok (.ior, 1) := by decide +kernel
theorem dX1_findWay_140 : decode cX1_findWay 140 = .ok (.istore 5, 2) := by decide +kernel
theorem dX1_findWay_142 : decode cX1_findWay 142 = .ok (.iload 7, 2) := by decide +kernel
theorem dX1_findWay_144 : decode cX1_findWay 144 = .ok (.iload_n 2, 1) := by decide +kernel
theorem dX1_findWay_145 : decode cX1_findWay 145 = .ok (.invokestatic 35, 3) := by decide +kernel
theorem dX1_findWay_148 : decode cX1_findWay 148 = .ok (.ifCond .eq 11, 3) := by decide +kernel
theorem dX1_findWay_151 : decode cX1_findWay 151 = .ok (.aload_n 0, 1) := by decide +kernel
theorem dX1_findWay_152 : decode cX1_findWay 152 = .ok (.iload 6, 2) := by decide +kernel
theorem dX1_findWay_154 : decode cX1_findWay 154 = .ok (.iconst 1, 1) := by decide +kernel
theorem dX1_findWay_155 : decode cX1_findWay 155 = .ok (.iadd, 1) := by decide +kernel
theorem dX1_findWay_156 : decode cX1_findWay 156 = .ok (.putfield 31, 3) := by decide +kernel
theorem dX1_findWay_159 : decode cX1_findWay 159 = .ok (.iinc 6 1, 3) := by decide +kernel
theorem dX1_findWay_162 : decode cX1_findWay 162 = .ok (.goto (-137), 3) := by decide +kernel
theorem dX1_findWay_165 : decode cX1_findWay 165 = .ok (.aload_n 0, 1) := by decide +kernel
theorem dX1_findWay_166 : decode cX1_findWay 166 = .ok (.getfield 31, 3) := by decide +kernel
theorem dX1_findWay_169 : decode cX1_findWay 169 = .ok (.ireturn, 1) := by decide +kernel
theorem dX1_tellWay_0 : decode cX1_tellWay 0 = .ok (.aload_n 3, 1) := by decide +kernel
theorem dX1_tellWay_1 : decode cX1_tellWay 1 = .ok (.iload_n 2, 1) := by decide +kernel
theorem dX1_tellWay_2 : decode cX1_tellWay 2 = .ok (.i2l, 1) := by decide +kernel
theorem dX1_tellWay_3 : decode cX1_tellWay 3 = .ok (.invokevirtual 44, 3) := by decide +kernel
theorem dX1_tellWay_6 : decode cX1_tellWay 6 = .ok (.iload_n 2, 1) := by decide +kernel
theorem dX1_tellWay_7 : decode cX1_tellWay 7 = .ok (.istore 4, 2) := by decide +kernel
theorem dX1_tellWay_9 : decode cX1_tellWay 9 = .ok (.aload_n 0, 1) := by decide +kernel
theorem dX1_tellWay_10 : decode cX1_tellWay 10 = .ok (.getfield 31, 3) := by decide +kernel
theorem dX1_tellWay_13 : decode cX1_tellWay 13 = .ok (.iconst 2, 1) := by decide +kernel
theorem dX1_tellWay_14 : decode cX1_tellWay 14 = .ok (.isub, 1) := by decide +kernel
theorem dX1_tellWay_15 : decode cX1_tellWay 15 = .ok (.istore 5, 2) := by decide +kernel
theorem dX1_tellWay_17 : decode cX1_tellWay 17 = .ok (.iload 5, 2) := by decide +kernel
theorem dX1_tellWay_19 : decode cX1_tellWay 19 = .ok (.ifCond .lt 36, 3) := by decide +kernel
theorem dX1_tellWay_22 : decode cX1_tellWay 22 = .ok (.aload_n 1, 1) := by decide +kernel
theorem dX1_tellWay_23 : decode cX1_tellWay 23 = .ok (.getfield 39, 3) := by decide +kernel
theorem dX1_tellWay_26 : decode cX1_tellWay 26 = .ok (.iload 4, 2) := by decide +kernel
theorem dX1_tellWay_28 : decode cX1_tellWay 28 = .ok (.iaload, 1) := by decide +kernel
theorem dX1_tellWay_29 : decode cX1_tellWay 29 = .ok (.aload_n 0, 1) := by decide +kernel
theorem dX1_tellWay_30 : decode cX1_tellWay 30 = .ok (.getfield 19, 3) := by decide +kernel
theorem dX1_tellWay_33 : decode cX1_tellWay 33 = .ok (.iload 5, 2) := by decide +kernel
theorem dX1_tellWay_35 : decode cX1_tellWay 35 = .ok (.iaload, 1) := by decide +kernel
theorem dX1_tellWay_36 : decode cX1_tellWay 36 = .ok (.iand, 1) := by decide +kernel
theorem dX1_tellWay_37 : decode cX1_tellWay 37 = .ok (.invokestatic 50, 3) := by decide +kernel
theorem dX1_tellWay_40 : decode cX1_tellWay 40 = .ok (.istore 4, 2) := by decide +kernel
theorem dX1_tellWay_42 : decode cX1_tellWay 42 = .ok (.aload_n 3, 1) := by decide +kernel
theorem dX1_tellWay_43 : decode cX1_tellWay 43 = .ok (.iload 4, 2) := by decide +kernel
theorem dX1_tellWay_45 : decode cX1_tellWay 45 = .ok (.i2l, 1) := by decide +kernel
theorem dX1_tellWay_46 : decode cX1_tellWay 46 = .ok (.invokevirtual 54, 3) := by decide +kernel
theorem dX1_tellWay_49 : decode cX1_tellWay 49 = .ok (.iinc 5 (-1), 3) := by decide +kernel
theorem dX1_tellWay_52 : decode cX1_tellWay 52 = .ok (.goto (-35), 3) := by decide +kernel
theorem dX1_tellWay_55 : decode cX1_tellWay 55 = .ok (.return_, 1) := by decide +kernel
theorem dX1_leastOf_0 : decode cX1_leastOf 0 = .ok (.iconst 0, 1) := by decide +kernel
theorem dX1_leastOf_1 : decode cX1_leastOf 1 = .ok (.istore_n 1, 1) := by decide +kernel
theorem dX1_leastOf_2 : decode cX1_leastOf 2 = .ok (.iload_n 1, 1) := by decide +kernel
theorem dX1_leastOf_3 : decode cX1_leastOf 3 = .ok (.bipush 23, 2) := by decide +kernel
theorem dX1_leastOf_5 : decode cX1_leastOf 5 = .ok (.if_icmp .ge 17, 3) := by decide +kernel
theorem dX1_leastOf_8 : decode cX1_leastOf 8 = .ok (.iload_n 0, 1) := by decide +kernel
theorem dX1_leastOf_9 : decode cX1_leastOf 9 = .ok (.iload_n 1, 1) := by decide +kernel
theorem dX1_leastOf_10 : decode cX1_leastOf 10 = .ok (.invokestatic 35, 3) := by decide +kernel
theorem dX1_leastOf_13 : decode cX1_leastOf 13 = .ok (.ifCond .ne 9, 3) := by decide +kernel
theorem dX1_leastOf_16 : decode cX1_leastOf 16 = .ok (.iinc 1 1, 3) := by decide +kernel
theorem dX1_leastOf_19 : decode cX1_leastOf 19 = .ok (.goto (-17), 3) := by decide +kernel
theorem dX1_leastOf_22 : decode cX1_leastOf 22 = .ok (.iload_n 1, 1) := by decide +kernel
theorem dX1_leastOf_23 : decode cX1_leastOf 23 = .ok (.ireturn, 1) := by decide +kernel
theorem dX1_countWays_0 : decode cX1_countWays 0 = .ok (.iconst 0, 1) := by decide +kernel
theorem dX1_countWays_1 : decode cX1_countWays 1 = .ok (.istore_n 3, 1) := by decide +kernel
theorem dX1_countWays_2 : decode cX1_countWays 2 = .ok (.iload_n 3, 1) := by decide +kernel
theorem dX1_countWays_3 : decode cX1_countWays 3 = .ok (.bipush 24, 2) := by decide +kernel
theorem dX1_countWays_5 : decode cX1_countWays 5 = .ok (.if_icmp .ge 41, 3) := by decide +kernel
theorem dX1_countWays_8 : decode cX1_countWays 8 = .ok (.aload_n 0, 1) := by decide +kernel
theorem dX1_countWays_9 : decode cX1_countWays 9 = .ok (.getfield 15, 3) := by decide +kernel
theorem dX1_countWays_12 : decode cX1_countWays 12 = .ok (.iload_n 3, 1) := by decide +kernel
theorem dX1_countWays_13 : decode cX1_countWays 13 = .ok (.iload_n 3, 1) := by decide +kernel
theorem dX1_countWays_14 : decode cX1_countWays 14 = .ok (.iload_n 2, 1) := by decide +kernel
theorem dX1_countWays_15 : decode cX1_countWays 15 = .ok (.if_icmp .ne 7, 3) := by decide +kernel
theorem dX1_countWays_18 : decode cX1_countWays 18 = .ok (.lconst 1, 1) := by decide +kernel
theorem dX1_countWays_19 : decode cX1_countWays 19 = .ok (.goto 4, 3) := by decide +kernel
theorem dX1_countWays_22 : decode cX1_countWays 22 = .ok (.lconst 0, 1) := by decide +kernel
theorem dX1_countWays_23 : decode cX1_countWays 23 = .ok (.lastore, 1) := by decide +kernel
theorem dX1_countWays_24 : decode cX1_countWays 24 = .ok (.aload_n 0, 1) := by decide +kernel
theorem dX1_countWays_25 : decode cX1_countWays 25 = .ok (.getfield 9, 3) := by decide +kernel
theorem dX1_countWays_28 : decode cX1_countWays 28 = .ok (.iload_n 3, 1) := by decide +kernel
theorem dX1_countWays_29 : decode cX1_countWays 29 = .ok (.iload_n 3, 1) := by decide +kernel
theorem dX1_countWays_30 : decode cX1_countWays 30 = .ok (.iload_n 2, 1) := by decide +kernel
theorem dX1_countWays_31 : decode cX1_countWays 31 = .ok (.if_icmp .ne 7, 3) := by decide +kernel
theorem dX1_countWays_34 : decode cX1_countWays 34 = .ok (.iconst 1, 1) := by decide +kernel
theorem dX1_countWays_35 : decode cX1_countWays 35 = .ok (.goto 4, 3) := by decide +kernel
theorem dX1_countWays_38 : decode cX1_countWays 38 = .ok (.iconst 0, 1) := by decide +kernel
theorem dX1_countWays_39 : decode cX1_countWays 39 = .ok (.iastore, 1) := by decide +kernel
theorem dX1_countWays_40 : decode cX1_countWays 40 = .ok (.iinc 3 1, 3) := by decide +kernel
theorem dX1_countWays_43 : decode cX1_countWays 43 = .ok (.goto (-41), 3) := by decide +kernel
theorem dX1_countWays_46 : decode cX1_countWays 46 = .ok (.iconst 0, 1) := by decide +kernel
theorem dX1_countWays_47 : decode cX1_countWays 47 = .ok (.istore_n 3, 1) := by decide +kernel
theorem dX1_countWays_48 : decode cX1_countWays 48 = .ok (.iload_n 3, 1) := by decide +kernel
theorem dX1_countWays_49 : decode cX1_countWays 49 = .ok (.aload_n 1, 1) := by decide +kernel
theorem dX1_countWays_50 : decode cX1_countWays 50 = .ok (.getfield 57, 3) := by decide +kernel
theorem dX1_countWays_53 : decode cX1_countWays 53 = .ok (.if_icmp .ge 103, 3) := by decide +kernel
theorem dX1_countWays_56 : decode cX1_countWays 56 = .ok (.aload_n 1, 1) := by decide +kernel
theorem dX1_countWays_57 : decode cX1_countWays 57 = .ok (.getfield 60, 3) := by decide +kernel
theorem dX1_countWays_60 : decode cX1_countWays 60 = .ok (.iload_n 3, 1) := by decide +kernel
theorem dX1_countWays_61 : decode cX1_countWays 61 = .ok (.iaload, 1) := by decide +kernel
theorem dX1_countWays_62 : decode cX1_countWays 62 = .ok (.istore 4, 2) := by decide +kernel
theorem dX1_countWays_64 : decode cX1_countWays 64 = .ok (.iconst 0, 1) := by decide +kernel
theorem dX1_countWays_65 : decode cX1_countWays 65 = .ok (.istore 5, 2) := by decide +kernel
theorem dX1_countWays_67 : decode cX1_countWays 67 = .ok (.iload 5, 2) := by decide +kernel
theorem dX1_countWays_69 : decode cX1_countWays 69 = .ok (.bipush 24, 2) := by decide +kernel
theorem dX1_countWays_71 : decode cX1_countWays 71 = .ok (.if_icmp .ge 79, 3) := by decide +kernel
theorem dX1_countWays_74 : decode cX1_countWays 74 = .ok (.aload_n 0, 1) := by decide +kernel
theorem dX1_countWays_75 : decode cX1_countWays 75 = .ok (.getfield 15, 3) := by decide +kernel
theorem dX1_countWays_78 : decode cX1_countWays 78 = .ok (.iload 4, 2) := by decide +kernel
theorem dX1_countWays_80 : decode cX1_countWays 80 = .ok (.laload, 1) := by decide +kernel
theorem dX1_countWays_81 : decode cX1_countWays 81 = .ok (.lconst 0, 1) := by decide +kernel
theorem dX1_countWays_82 : decode cX1_countWays 82 = .ok (.lcmp, 1) := by decide +kernel
theorem dX1_countWays_83 : decode cX1_countWays 83 = .ok (.ifCond .le 61, 3) := by decide +kernel
theorem dX1_countWays_86 : decode cX1_countWays 86 = .ok (.aload_n 1, 1) := by decide +kernel
theorem dX1_countWays_87 : decode cX1_countWays 87 = .ok (.getfield 39, 3) := by decide +kernel
theorem dX1_countWays_90 : decode cX1_countWays 90 = .ok (.iload 4, 2) := by decide +kernel
theorem dX1_countWays_92 : decode cX1_countWays 92 = .ok (.iaload, 1) := by decide +kernel
theorem dX1_countWays_93 : decode cX1_countWays 93 = .ok (.iload 5, 2) := by decide +kernel
theorem dX1_countWays_95 : decode cX1_countWays 95 = .ok (.invokestatic 35, 3) := by decide +kernel
theorem dX1_countWays_98 : decode cX1_countWays 98 = .ok (.ifCond .eq 46, 3) := by decide +kernel
theorem dX1_countWays_101 : decode cX1_countWays 101 = .ok (.aload_n 0, 1) := by decide +kernel
theorem dX1_countWays_102 : decode cX1_countWays 102 = .ok (.getfield 15, 3) := by decide +kernel
theorem dX1_countWays_105 : decode cX1_countWays 105 = .ok (.iload 5, 2) := by decide +kernel
theorem dX1_countWays_107 : decode cX1_countWays 107 = .ok (.dup2, 1) := by decide +kernel
theorem dX1_countWays_108 : decode cX1_countWays 108 = .ok (.laload, 1) := by decide +kernel
theorem dX1_countWays_109 : decode cX1_countWays 109 = .ok (.aload_n 0, 1) := by decide +kernel
theorem dX1_countWays_110 : decode cX1_countWays 110 = .ok (.getfield 15, 3) := by decide +kernel
theorem dX1_countWays_113 : decode cX1_countWays 113 = .ok (.iload 4, 2) := by decide +kernel
theorem dX1_countWays_115 : decode cX1_countWays 115 = .ok (.laload, 1) := by decide +kernel
theorem dX1_countWays_116 : decode cX1_countWays 116 = .ok (.ladd, 1) := by decide +kernel
theorem dX1_countWays_117 : decode cX1_countWays 117 = .ok (.lastore, 1) := by decide +kernel
theorem dX1_countWays_118 : decode cX1_countWays 118 = .ok (.aload_n 0, 1) := by decide +kernel
theorem dX1_countWays_119 : decode cX1_countWays 119 = .ok (.getfield 9, 3) := by decide +kernel
theorem dX1_countWays_122 : decode cX1_countWays 122 = .ok (.iload 5, 2) := by decide +kernel
theorem dX1_countWays_124 : decode cX1_countWays 124 = .ok (.aload_n 0, 1) := by decide +kernel
theorem dX1_countWays_125 : decode cX1_countWays 125 = .ok (.getfield 9, 3) := by decide +kernel
theorem dX1_countWays_128 : decode cX1_countWays 128 = .ok (.iload 5, 2) := by decide +kernel
theorem dX1_countWays_130 : decode cX1_countWays 130 = .ok (.iaload, 1) := by decide +kernel
theorem dX1_countWays_131 : decode cX1_countWays 131 = .ok (.aload_n 0, 1) := by decide +kernel
theorem dX1_countWays_132 : decode cX1_countWays 132 = .ok (.getfield 9, 3) := by decide +kernel
theorem dX1_countWays_135 : decode cX1_countWays 135 = .ok (.iload 4, 2) := by decide +kernel
theorem dX1_countWays_137 : decode cX1_countWays 137 = .ok (.iaload, 1) := by decide +kernel
theorem dX1_countWays_138 : decode cX1_countWays 138 = .ok (.iconst 1, 1) := by decide +kernel
theorem dX1_countWays_139 : decode cX1_countWays 139 = .ok (.iadd, 1) := by decide +kernel
theorem dX1_countWays_140 : decode cX1_countWays 140 = .ok (.invokestatic 63, 3) := by decide +kernel
theorem dX1_countWays_143 : decode cX1_countWays 143 = .ok (.iastore, 1) := by decide +kernel
theorem dX1_countWays_144 : decode cX1_countWays 144 = .ok (.iinc 5 1, 3) := by decide +kernel
theorem dX1_countWays_147 : decode cX1_countWays 147 = .ok (.goto (-80), 3) := by decide +kernel
theorem dX1_countWays_150 : decode cX1_countWays 150 = .ok (.iinc 3 1, 3) := by decide +kernel
theorem dX1_countWays_153 : decode cX1_countWays 153 = .ok (.goto (-105), 3) := by decide +kernel
theorem dX1_countWays_156 : decode cX1_countWays 156 = .ok (.return_, 1) := by decide +kernel
theorem dX1_measureDownwards_0 : decode cX1_measureDownwards 0 = .ok (.aload_n 0, 1) := by decide +kernel
theorem dX1_measureDownwards_1 : decode cX1_measureDownwards 1 = .ok (.invokevirtual 69, 3) := by decide +kernel
theorem dX1_measureDownwards_4 : decode cX1_measureDownwards 4 = .ok (.iconst 0, 1) := by decide +kernel
theorem dX1_measureDownwards_5 : decode cX1_measureDownwards 5 = .ok (.istore_n 2, 1) := by decide +kernel
theorem dX1_measureDownwards_6 : decode cX1_measureDownwards 6 = .ok (.iload_n 2, 1) := by decide +kernel
theorem dX1_measureDownwards_7 : decode cX1_measureDownwards 7 = .ok (.aload_n 1, 1) := by decide +kernel
theorem dX1_measureDownwards_8 : decode cX1_measureDownwards 8 = .ok (.getfield 57, 3) := by decide +kernel
theorem dX1_measureDownwards_11 : decode cX1_measureDownwards 11 = .ok (.if_icmp .ge 71, 3) := by decide +kernel
theorem dX1_measureDownwards_14 : decode cX1_measureDownwards 14 = .ok (.aload_n 1, 1) := by decide +kernel
theorem dX1_measureDownwards_15 : decode cX1_measureDownwards 15 = .ok (.getfield 60, 3) := by decide +kernel
theorem dX1_measureDownwards_18 : decode cX1_measureDownwards 18 = .ok (.iload_n 2, 1) := by decide +kernel
theorem dX1_measureDownwards_19 : decode cX1_measureDownwards 19 = .ok (.iaload, 1) := by decide +kernel
theorem dX1_measureDownwards_20 : decode cX1_measureDownwards 20 = .ok (.istore_n 3, 1) := by decide +kernel
theorem dX1_measureDownwards_21 : decode cX1_measureDownwards 21 = .ok (.iconst 0, 1) := by decide +kernel
theorem dX1_measureDownwards_22 : decode cX1_measureDownwards 22 = .ok (.istore 4, 2) := by decide +kernel
theorem dX1_measureDownwards_24 : decode cX1_measureDownwards 24 = .ok (.iload 4, 2) := by decide +kernel
theorem dX1_measureDownwards_26 : decode cX1_measureDownwards 26 = .ok (.bipush 24, 2) := by decide +kernel
theorem dX1_measureDownwards_28 : decode cX1_measureDownwards 28 = .ok (.if_icmp .ge 48, 3) := by decide +kernel
theorem dX1_measureDownwards_31 : decode cX1_measureDownwards 31 = .ok (.aload_n 1, 1) := by decide +kernel
theorem dX1_measureDownwards_32 : decode cX1_measureDownwards 32 = .ok (.getfield 39, 3) := by decide +kernel
theorem dX1_measureDownwards_35 : decode cX1_measureDownwards 35 = .ok (.iload_n 3, 1) := by decide +kernel
theorem dX1_measureDownwards_36 : decode cX1_measureDownwards 36 = .ok (.iaload, 1) := by decide +kernel
theorem dX1_measureDownwards_37 : decode cX1_measureDownwards 37 = .ok (.iload 4, 2) := by decide +kernel
theorem dX1_measureDownwards_39 : decode cX1_measureDownwards 39 = .ok (.invokestatic 35, 3) := by decide +kernel
theorem dX1_measureDownwards_42 : decode cX1_measureDownwards 42 = .ok (.ifCond .eq 28, 3) := by decide +kernel
theorem dX1_measureDownwards_45 : decode cX1_measureDownwards 45 = .ok (.aload_n 0, 1) := by decide +kernel
theorem dX1_measureDownwards_46 : decode cX1_measureDownwards 46 = .ok (.getfield 9, 3) := by decide +kernel
theorem dX1_measureDownwards_49 : decode cX1_measureDownwards 49 = .ok (.iload 4, 2) := by decide +kernel
theorem dX1_measureDownwards_51 : decode cX1_measureDownwards 51 = .ok (.aload_n 0, 1) := by decide +kernel
theorem dX1_measureDownwards_52 : decode cX1_measureDownwards 52 = .ok (.getfield 9, 3) := by decide +kernel
theorem dX1_measureDownwards_55 : decode cX1_measureDownwards 55 = .ok (.iload 4, 2) := by decide +kernel
theorem dX1_measureDownwards_57 : decode cX1_measureDownwards 57 = .ok (.iaload, 1) := by decide +kernel
theorem dX1_measureDownwards_58 : decode cX1_measureDownwards 58 = .ok (.aload_n 0, 1) := by decide +kernel
theorem dX1_measureDownwards_59 : decode cX1_measureDownwards 59 = .ok (.getfield 9, 3) := by decide +kernel
theorem dX1_measureDownwards_62 : decode cX1_measureDownwards 62 = .ok (.iload_n 3, 1) := by decide +kernel
theorem dX1_measureDownwards_63 : decode cX1_measureDownwards 63 = .ok (.iaload, 1) := by decide +kernel
theorem dX1_measureDownwards_64 : decode cX1_measureDownwards 64 = .ok (.iconst 1, 1) := by decide +kernel
theorem dX1_measureDownwards_65 : decode cX1_measureDownwards 65 = .ok (.iadd, 1) := by decide +kernel
theorem dX1_measureDownwards_66 : decode cX1_measureDownwards 66 = .ok (.invokestatic 63, 3) := by decide +kernel
theorem dX1_measureDownwards_69 : decode cX1_measureDownwards 69 = .ok (.iastore, 1) := by decide +kernel
theorem dX1_measureDownwards_70 : decode cX1_measureDownwards 70 = .ok (.iinc 4 1, 3) := by decide +kernel
theorem dX1_measureDownwards_73 : decode cX1_measureDownwards 73 = .ok (.goto (-49), 3) := by decide +kernel
theorem dX1_measureDownwards_76 : decode cX1_measureDownwards 76 = .ok (.iinc 2 1, 3) := by decide +kernel
theorem dX1_measureDownwards_79 : decode cX1_measureDownwards 79 = .ok (.goto (-73), 3) := by decide +kernel
theorem dX1_measureDownwards_82 : decode cX1_measureDownwards 82 = .ok (.return_, 1) := by decide +kernel
theorem dX1_measureUpwards_0 : decode cX1_measureUpwards 0 = .ok (.aload_n 0, 1) := by decide +kernel
theorem dX1_measureUpwards_1 : decode cX1_measureUpwards 1 = .ok (.invokevirtual 69, 3) := by decide +kernel
theorem dX1_measureUpwards_4 : decode cX1_measureUpwards 4 = .ok (.aload_n 1, 1) := by decide +kernel
theorem dX1_measureUpwards_5 : decode cX1_measureUpwards 5 = .ok (.getfield 57, 3) := by decide +kernel
theorem dX1_measureUpwards_8 : decode cX1_measureUpwards 8 = .ok (.iconst 1, 1) := by decide +kernel
theorem dX1_measureUpwards_9 : decode cX1_measureUpwards 9 = .ok (.isub, 1) := by decide +kernel
theorem dX1_measureUpwards_10 : decode cX1_measureUpwards 10 = .ok (.istore_n 2, 1) := by decide +kernel
theorem dX1_measureUpwards_11 : decode cX1_measureUpwards 11 = .ok (.iload_n 2, 1) := by decide +kernel
theorem dX1_measureUpwards_12 : decode cX1_measureUpwards 12 = .ok (.ifCond .lt 70, 3) := by decide +kernel
theorem dX1_measureUpwards_15 : decode cX1_measureUpwards 15 = .ok (.aload_n 1, 1) := by decide +kernel
theorem dX1_measureUpwards_16 : decode cX1_measureUpwards 16 = .ok (.getfield 60, 3) := by decide +kernel
theorem dX1_measureUpwards_19 : decode cX1_measureUpwards 19 = .ok (.iload_n 2, 1) := by decide +kernel
theorem dX1_measureUpwards_20 : decode cX1_measureUpwards 20 = .ok (.iaload, 1) := by decide +kernel
theorem dX1_measureUpwards_21 : decode cX1_measureUpwards 21 = .ok (.istore_n 3, 1) := by decide +kernel
theorem dX1_measureUpwards_22 : decode cX1_measureUpwards 22 = .ok (.iconst 0, 1) := by decide +kernel
theorem dX1_measureUpwards_23 : decode cX1_measureUpwards 23 = .ok (.istore 4, 2) := by decide +kernel
theorem dX1_measureUpwards_25 : decode cX1_measureUpwards 25 = .ok (.iload 4, 2) := by decide +kernel
theorem dX1_measureUpwards_27 : decode cX1_measureUpwards 27 = .ok (.bipush 24, 2) := by decide +kernel
theorem dX1_measureUpwards_29 : decode cX1_measureUpwards 29 = .ok (.if_icmp .ge 47, 3) := by decide +kernel
theorem dX1_measureUpwards_32 : decode cX1_measureUpwards 32 = .ok (.aload_n 1, 1) := by decide +kernel
theorem dX1_measureUpwards_33 : decode cX1_measureUpwards 33 = .ok (.getfield 39, 3) := by decide +kernel
theorem dX1_measureUpwards_36 : decode cX1_measureUpwards 36 = .ok (.iload_n 3, 1) := by decide +kernel
theorem dX1_measureUpwards_37 : decode cX1_measureUpwards 37 = .ok (.iaload, 1) := by decide +kernel
theorem dX1_measureUpwards_38 : decode cX1_measureUpwards 38 = .ok (.iload 4, 2) := by decide +kernel
theorem dX1_measureUpwards_40 : decode cX1_measureUpwards 40 = .ok (.invokestatic 35, 3) := by decide +kernel
theorem dX1_measureUpwards_43 : decode cX1_measureUpwards 43 = .ok (.ifCond .eq 27, 3) := by decide +kernel
theorem dX1_measureUpwards_46 : decode cX1_measureUpwards 46 = .ok (.aload_n 0, 1) := by decide +kernel
theorem dX1_measureUpwards_47 : decode cX1_measureUpwards 47 = .ok (.getfield 9, 3) := by decide +kernel
theorem dX1_measureUpwards_50 : decode cX1_measureUpwards 50 = .ok (.iload_n 3, 1) := by decide +kernel
theorem dX1_measureUpwards_51 : decode cX1_measureUpwards 51 = .ok (.aload_n 0, 1) := by decide +kernel
theorem dX1_measureUpwards_52 : decode cX1_measureUpwards 52 = .ok (.getfield 9, 3) := by decide +kernel
theorem dX1_measureUpwards_55 : decode cX1_measureUpwards 55 = .ok (.iload_n 3, 1) := by decide +kernel
theorem dX1_measureUpwards_56 : decode cX1_measureUpwards 56 = .ok (.iaload, 1) := by decide +kernel
theorem dX1_measureUpwards_57 : decode cX1_measureUpwards 57 = .ok (.aload_n 0, 1) := by decide +kernel
theorem dX1_measureUpwards_58 : decode cX1_measureUpwards 58 = .ok (.getfield 9, 3) := by decide +kernel
theorem dX1_measureUpwards_61 : decode cX1_measureUpwards 61 = .ok (.iload 4, 2) := by decide +kernel
theorem dX1_measureUpwards_63 : decode cX1_measureUpwards 63 = .ok (.iaload, 1) := by decide +kernel
theorem dX1_measureUpwards_64 : decode cX1_measureUpwards 64 = .ok (.iconst 1, 1) := by decide +kernel
theorem dX1_measureUpwards_65 : decode cX1_measureUpwards 65 = .ok (.iadd, 1) := by decide +kernel
theorem dX1_measureUpwards_66 : decode cX1_measureUpwards 66 = .ok (.invokestatic 63, 3) := by decide +kernel
theorem dX1_measureUpwards_69 : decode cX1_measureUpwards 69 = .ok (.iastore, 1) := by decide +kernel
theorem dX1_measureUpwards_70 : decode cX1_measureUpwards 70 = .ok (.iinc 4 1, 3) := by decide +kernel
theorem dX1_measureUpwards_73 : decode cX1_measureUpwards 73 = .ok (.goto (-48), 3) := by decide +kernel
theorem dX1_measureUpwards_76 : decode cX1_measureUpwards 76 = .ok (.iinc 2 (-1), 3) := by decide +kernel
theorem dX1_measureUpwards_79 : decode cX1_measureUpwards 79 = .ok (.goto (-68), 3) := by decide +kernel
theorem dX1_measureUpwards_82 : decode cX1_measureUpwards 82 = .ok (.return_, 1) := by decide +kernel
theorem dX1_clearLongest_0 : decode cX1_clearLongest 0 = .ok (.iconst 0, 1) := by decide +kernel
theorem dX1_clearLongest_1 : decode cX1_clearLongest 1 = .ok (.istore_n 1, 1) := by decide +kernel
theorem dX1_clearLongest_2 : decode cX1_clearLongest 2 = .ok (.iload_n 1, 1) := by decide +kernel
theorem dX1_clearLongest_3 : decode cX1_clearLongest 3 = .ok (.bipush 24, 2) := by decide +kernel
theorem dX1_clearLongest_5 : decode cX1_clearLongest 5 = .ok (.if_icmp .ge 16, 3) := by decide +kernel
theorem dX1_clearLongest_8 : decode cX1_clearLongest 8 = .ok (.aload_n 0, 1) := by decide +kernel
theorem dX1_clearLongest_9 : decode cX1_clearLongest 9 = .ok (.getfield 9, 3) := by decide +kernel
theorem dX1_clearLongest_12 : decode cX1_clearLongest 12 = .ok (.iload_n 1, 1) := by decide +kernel
theorem dX1_clearLongest_13 : decode cX1_clearLongest 13 = .ok (.iconst 0, 1) := by decide +kernel
theorem dX1_clearLongest_14 : decode cX1_clearLongest 14 = .ok (.iastore, 1) := by decide +kernel
theorem dX1_clearLongest_15 : decode cX1_clearLongest 15 = .ok (.iinc 1 1, 3) := by decide +kernel
theorem dX1_clearLongest_18 : decode cX1_clearLongest 18 = .ok (.goto (-16), 3) := by decide +kernel
theorem dX1_clearLongest_21 : decode cX1_clearLongest 21 = .ok (.return_, 1) := by decide +kernel
theorem dX1_matchBelow_0 : decode cX1_matchBelow 0 = .ok (.iconst 0, 1) := by decide +kernel
theorem dX1_matchBelow_1 : decode cX1_matchBelow 1 = .ok (.istore_n 2, 1) := by decide +kernel
theorem dX1_matchBelow_2 : decode cX1_matchBelow 2 = .ok (.iload_n 2, 1) := by decide +kernel
theorem dX1_matchBelow_3 : decode cX1_matchBelow 3 = .ok (.bipush 24, 2) := by decide +kernel
theorem dX1_matchBelow_5 : decode cX1_matchBelow 5 = .ok (.if_icmp .ge 16, 3) := by decide +kernel
theorem dX1_matchBelow_8 : decode cX1_matchBelow 8 = .ok (.aload_n 0, 1) := by decide +kernel
theorem dX1_matchBelow_9 : decode cX1_matchBelow 9 = .ok (.getfield 22, 3) := by decide +kernel
theorem dX1_matchBelow_12 : decode cX1_matchBelow 12 = .ok (.iload_n 2, 1) := by decide +kernel
theorem dX1_matchBelow_13 : decode cX1_matchBelow 13 = .ok (.iconst (-1), 1) := by decide +kernel
theorem dX1_matchBelow_14 : decode cX1_matchBelow 14 = .ok (.iastore, 1) := by decide +kernel
theorem dX1_matchBelow_15 : decode cX1_matchBelow 15 = .ok (.iinc 2 1, 3) := by decide +kernel
theorem dX1_matchBelow_18 : decode cX1_matchBelow 18 = .ok (.goto (-16), 3) := by decide +kernel
theorem dX1_matchBelow_21 : decode cX1_matchBelow 21 = .ok (.iconst 0, 1) := by decide +kernel
theorem dX1_matchBelow_22 : decode cX1_matchBelow 22 = .ok (.istore_n 2, 1) := by decide +kernel
theorem dX1_matchBelow_23 : decode cX1_matchBelow 23 = .ok (.iconst 0, 1) := by decide +kernel
theorem dX1_matchBelow_24 : decode cX1_matchBelow 24 = .ok (.istore_n 3, 1) := by decide +kernel
theorem dX1_matchBelow_25 : decode cX1_matchBelow 25 = .ok (.iload_n 3, 1) := by decide +kernel
theorem dX1_matchBelow_26 : decode cX1_matchBelow 26 = .ok (.aload_n 1, 1) := by decide +kernel
theorem dX1_matchBelow_27 : decode cX1_matchBelow 27 = .ok (.getfield 57, 3) := by decide +kernel
theorem dX1_matchBelow_30 : decode cX1_matchBelow 30 = .ok (.if_icmp .ge 26, 3) := by decide +kernel
theorem dX1_matchBelow_33 : decode cX1_matchBelow 33 = .ok (.aload_n 0, 1) := by decide +kernel
theorem dX1_matchBelow_34 : decode cX1_matchBelow 34 = .ok (.aload_n 1, 1) := by decide +kernel
theorem dX1_matchBelow_35 : decode cX1_matchBelow 35 = .ok (.aload_n 1, 1) := by decide +kernel
theorem dX1_matchBelow_36 : decode cX1_matchBelow 36 = .ok (.getfield 60, 3) := by decide +kernel
theorem dX1_matchBelow_39 : decode cX1_matchBelow 39 = .ok (.iload_n 3, 1) := by decide +kernel
theorem dX1_matchBelow_40 : decode cX1_matchBelow 40 = .ok (.iaload, 1) := by decide +kernel
theorem dX1_matchBelow_41 : decode cX1_matchBelow 41 = .ok (.invokevirtual 72, 3) := by decide +kernel
theorem dX1_matchBelow_44 : decode cX1_matchBelow 44 = .ok (.ifCond .eq 6, 3) := by decide +kernel
theorem dX1_matchBelow_47 : decode cX1_matchBelow 47 = .ok (.iinc 2 1, 3) := by decide +kernel
theorem dX1_matchBelow_50 : decode cX1_matchBelow 50 = .ok (.iinc 3 1, 3) := by decide +kernel
theorem dX1_matchBelow_53 : decode cX1_matchBelow 53 = .ok (.goto (-28), 3) := by decide +kernel
theorem dX1_matchBelow_56 : decode cX1_matchBelow 56 = .ok (.iload_n 2, 1) := by decide +kernel
theorem dX1_matchBelow_57 : decode cX1_matchBelow 57 = .ok (.ireturn, 1) := by decide +kernel
theorem dX1_findFollower_0 : decode cX1_findFollower 0 = .ok (.iconst 0, 1) := by decide +kernel
theorem dX1_findFollower_1 : decode cX1_findFollower 1 = .ok (.istore_n 3, 1) := by decide +kernel
theorem dX1_findFollower_2 : decode cX1_findFollower 2 = .ok (.iconst 1, 1) := by decide +kernel
theorem dX1_findFollower_3 : decode cX1_findFollower 3 = .ok (.istore 4, 2) := by decide +kernel
theorem dX1_findFollower_5 : decode cX1_findFollower 5 = .ok (.aload_n 0, 1) := by decide +kernel
theorem dX1_findFollower_6 : decode cX1_findFollower 6 = .ok (.getfield 28, 3) := by decide +kernel
theorem dX1_findFollower_9 : decode cX1_findFollower 9 = .ok (.iconst 0, 1) := by decide +kernel
theorem dX1_findFollower_10 : decode cX1_findFollower 10 = .ok (.iload_n 2, 1) := by decide +kernel
theorem dX1_findFollower_11 : decode cX1_findFollower 11 = .ok (.iastore, 1) := by decide +kernel
theorem dX1_findFollower_12 : decode cX1_findFollower 12 = .ok (.iconst 0, 1) := by decide +kernel
theorem dX1_findFollower_13 : decode cX1_findFollower 13 = .ok (.istore 5, 2) := by decide +kernel
theorem dX1_findFollower_15 : decode cX1_findFollower 15 = .ok (.iload 5, 2) := by decide +kernel
theorem dX1_findFollower_17 : decode cX1_findFollower 17 = .ok (.bipush 24, 2) := by decide +kernel
theorem dX1_findFollower_19 : decode cX1_findFollower 19 = .ok (.if_icmp .ge 130, 3) := by decide +kernel
theorem dX1_findFollower_22 : decode cX1_findFollower 22 = .ok (.iload 5, 2) := by decide +kernel
theorem dX1_findFollower_24 : decode cX1_findFollower 24 = .ok (.iload 4, 2) := by decide +kernel
theorem dX1_findFollower_26 : decode cX1_findFollower 26 = .ok (.if_icmp .ge 123, 3) := by decide +kernel
theorem dX1_findFollower_29 : decode cX1_findFollower 29 = .ok (.aload_n 0, 1) := by decide +kernel
theorem dX1_findFollower_30 : decode cX1_findFollower 30 = .ok (.getfield 28, 3) := by decide +kernel
theorem dX1_findFollower_33 : decode cX1_findFollower 33 = .ok (.iload 5, 2) := by decide +kernel
theorem dX1_findFollower_35 : decode cX1_findFollower 35 = .ok (.iaload, 1) := by decide +kernel
theorem dX1_findFollower_36 : decode cX1_findFollower 36 = .ok (.istore 6, 2) := by decide +kernel
theorem dX1_findFollower_38 : decode cX1_findFollower 38 = .ok (.aload_n 1, 1) := by decide +kernel
theorem dX1_findFollower_39 : decode cX1_findFollower 39 = .ok (.iload 6, 2) := by decide +kernel
theorem dX1_findFollower_41 : decode cX1_findFollower 41 = .ok (.invokevirtual 76, 3) := by decide +kernel
theorem dX1_findFollower_44 : decode cX1_findFollower 44 = .ok (.iconst 1, 1) := by decide +kernel
theorem dX1_findFollower_45 : decode cX1_findFollower 45 = .ok (.iload 6, 2) := by decide +kernel
theorem dX1_findFollower_47 : decode cX1_findFollower 47 = .ok (.ishl, 1) := by decide +kernel
theorem dX1_findFollower_48 : decode cX1_findFollower 48 = .ok (.iconst (-1), 1) := by decide +kernel
theorem dX1_findFollower_49 : decode cX1_findFollower 49 = .ok (.ixor, 1) := by decide +kernel
theorem dX1_findFollower_50 : decode cX1_findFollower 50 = .ok (.iand, 1) := by decide +kernel
theorem dX1_findFollower_51 : decode cX1_findFollower 51 = .ok (.iload_n 3, 1) := by decide +kernel
theorem dX1_findFollower_52 : decode cX1_findFollower 52 = .ok (.iconst (-1), 1) := by decide +kernel
theorem dX1_findFollower_53 : decode cX1_findFollower 53 = .ok (.ixor, 1) := by decide +kernel
theorem dX1_findFollower_54 : decode cX1_findFollower 54 = .ok (.iand, 1) := by decide +kernel
theorem dX1_findFollower_55 : decode cX1_findFollower 55 = .ok (.istore 7, 2) := by decide +kernel
theorem dX1_findFollower_57 : decode cX1_findFollower 57 = .ok (.iload_n 3, 1) := by decide +kernel
theorem dX1_findFollower_58 : decode cX1_findFollower 58 = .ok (.iload 7, 2) := by decide +kernel
theorem dX1_findFollower_60 : decode cX1_findFollower 60 = .ok (.ior, 1) := by decide +kernel
theorem dX1_findFollower_61 : decode cX1_findFollower 61 = .ok (.istore_n 3, 1) := by decide +kernel
theorem dX1_findFollower_62 : decode cX1_findFollower 62 = .ok (.iconst 0, 1) := by decide +kernel
theorem dX1_findFollower_63 : decode cX1_findFollower 63 = .ok (.istore 8, 2) := by decide +kernel
theorem dX1_findFollower_65 : decode cX1_findFollower 65 = .ok (.iload 8, 2) := by decide +kernel
theorem dX1_findFollower_67 : decode cX1_findFollower 67 = .ok (.bipush 24, 2) := by decide +kernel
theorem dX1_findFollower_69 : decode cX1_findFollower 69 = .ok (.if_icmp .ge 74, 3) := by decide +kernel
theorem dX1_findFollower_72 : decode cX1_findFollower 72 = .ok (.iload 7, 2) := by decide +kernel
theorem dX1_findFollower_74 : decode cX1_findFollower 74 = .ok (.iload 8, 2) := by decide +kernel
theorem dX1_findFollower_76 : decode cX1_findFollower 76 = .ok (.invokestatic 35, 3) := by decide +kernel
theorem dX1_findFollower_79 : decode cX1_findFollower 79 = .ok (.ifCond .ne 6, 3) := by decide +kernel
theorem dX1_findFollower_82 : decode cX1_findFollower 82 = .ok (.goto 55, 3) := by decide +kernel
theorem dX1_findFollower_85 : decode cX1_findFollower 85 = .ok (.aload_n 0, 1) := by decide +kernel
theorem dX1_findFollower_86 : decode cX1_findFollower 86 = .ok (.getfield 25, 3) := by decide +kernel
theorem dX1_findFollower_89 : decode cX1_findFollower 89 = .ok (.iload 8, 2) := by decide +kernel
theorem dX1_findFollower_91 : decode cX1_findFollower 91 = .ok (.iload 6, 2) := by decide +kernel
theorem dX1_findFollower_93 : decode cX1_findFollower 93 = .ok (.iastore, 1) := by decide +kernel
theorem dX1_findFollower_94 : decode cX1_findFollower 94 = .ok (.aload_n 0, 1) := by decide +kernel
theorem dX1_findFollower_95 : decode cX1_findFollower 95 = .ok (.getfield 22, 3) := by decide +kernel
theorem dX1_findFollower_98 : decode cX1_findFollower 98 = .ok (.iload 8, 2) := by decide +kernel
theorem dX1_findFollower_100 : decode cX1_findFollower 100 = .ok (.iaload, 1) := by decide +kernel
theorem dX1_findFollower_101 : decode cX1_findFollower 101 = .ok (.ifCond .ge 12, 3) := by decide +kernel
theorem dX1_findFollower_104 : decode cX1_findFollower 104 = .ok (.aload_n 0, 1) := by decide +kernel
theorem dX1_findFollower_105 : decode cX1_findFollower 105 = .ok (.iload_n 2, 1) := by decide +kernel
theorem dX1_findFollower_106 : decode cX1_findFollower 106 = .ok (.iload 8, 2) := by decide +kernel
theorem dX1_findFollower_108 : decode cX1_findFollower 108 = .ok (.invokevirtual 79, 3) := by decide +kernel
theorem dX1_findFollower_111 : decode cX1_findFollower 111 = .ok (.iconst 1, 1) := by decide +kernel
theorem dX1_findFollower_112 : decode cX1_findFollower 112 = .ok (.ireturn, 1) := by decide +kernel
theorem dX1_findFollower_113 : decode cX1_findFollower 113 = .ok (.iload 4, 2) := by decide +kernel
theorem dX1_findFollower_115 : decode cX1_findFollower 115 = .ok (.bipush 24, 2) := by decide +kernel
theorem dX1_findFollower_117 : decode cX1_findFollower 117 = .ok (.if_icmp .ge 20, 3) := by decide +kernel
theorem dX1_findFollower_120 : decode cX1_findFollower 120 = .ok (.aload_n 0, 1) := by decide +kernel
theorem dX1_findFollower_121 : decode cX1_findFollower 121 = .ok (.getfield 28, 3) := by decide +kernel
theorem dX1_findFollower_124 : decode cX1_findFollower 124 = .ok (.iload 4, 2) := by decide +kernel
theorem dX1_findFollower_126 : decode cX1_findFollower 126 = .ok (.aload_n 0, 1) := by decide +kernel
theorem dX1_findFollower_127 : decode cX1_findFollower 127 = .ok (.getfield 22, 3) := by decide +kernel
theorem dX1_findFollower_130 : decode cX1_findFollower 130 = .ok (.iload 8, 2) := by decide +kernel
theorem dX1_findFollower_132 : decode cX1_findFollower 132 = .ok (.iaload, 1) := by decide +kernel
theorem dX1_findFollower_133 : decode cX1_findFollower 133 = .ok (.iastore, 1) := by decide +kernel
theorem dX1_findFollower_134 : decode cX1_findFollower 134 = .ok (.iinc 4 1, 3) := by decide +kernel
theorem dX1_findFollower_137 : decode cX1_findFollower 137 = .ok (.iinc 8 1, 3) := by decide +kernel
theorem dX1_findFollower_140 : decode cX1_findFollower 140 = .ok (.goto (-75), 3) := by decide +kernel
theorem dX1_findFollower_143 : decode cX1_findFollower 143 = .ok (.iinc 5 1, 3) := by decide +kernel
theorem dX1_findFollower_146 : decode cX1_findFollower 146 = .ok (.goto (-131), 3) := by decide +kernel
theorem dX1_findFollower_149 : decode cX1_findFollower 149 = .ok (.iconst 0, 1) := by decide +kernel
theorem dX1_findFollower_150 : decode cX1_findFollower 150 = .ok (.ireturn, 1) := by decide +kernel
theorem dX1_changeFollowers_0 : decode cX1_changeFollowers 0 = .ok (.iload_n 2, 1) := by decide +kernel
theorem dX1_changeFollowers_1 : decode cX1_changeFollowers 1 = .ok (.istore_n 3, 1) := by decide +kernel
theorem dX1_changeFollowers_2 : decode cX1_changeFollowers 2 = .ok (.iconst 0, 1) := by decide +kernel
theorem dX1_changeFollowers_3 : decode cX1_changeFollowers 3 = .ok (.istore 4, 2) := by decide +kernel
theorem dX1_changeFollowers_5 : decode cX1_changeFollowers 5 = .ok (.iload 4, 2) := by decide +kernel
theorem dX1_changeFollowers_7 : decode cX1_changeFollowers 7 = .ok (.bipush 24, 2) := by decide +kernel
theorem dX1_changeFollowers_9 : decode cX1_changeFollowers 9 = .ok (.if_icmp .ge 50, 3) := by decide +kernel
theorem dX1_changeFollowers_12 : decode cX1_changeFollowers 12 = .ok (.iload_n 3, 1) := by decide +kernel
theorem dX1_changeFollowers_13 : decode cX1_changeFollowers 13 = .ok (.ifCond .lt 46, 3) := by decide +kernel
theorem dX1_changeFollowers_16 : decode cX1_changeFollowers 16 = .ok (.aload_n 0, 1) := by decide +kernel
theorem dX1_changeFollowers_17 : decode cX1_changeFollowers 17 = .ok (.getfield 25, 3) := by decide +kernel
theorem dX1_changeFollowers_20 : decode cX1_changeFollowers 20 = .ok (.iload_n 3, 1) := by decide +kernel
theorem dX1_changeFollowers_21 : decode cX1_changeFollowers 21 = .ok (.iaload, 1) := by decide +kernel
theorem dX1_changeFollowers_22 : decode cX1_changeFollowers 22 = .ok (.istore 5, 2) := by decide +kernel
theorem dX1_changeFollowers_24 : decode cX1_changeFollowers 24 = .ok (.iload 5, 2) := by decide +kernel
theorem dX1_changeFollowers_26 : decode cX1_changeFollowers 26 = .ok (.iload_n 1, 1) := by decide +kernel
theorem dX1_changeFollowers_27 : decode cX1_changeFollowers 27 = .ok (.if_icmp .ne 7, 3) := by decide +kernel
theorem dX1_changeFollowers_30 : decode cX1_changeFollowers 30 = .ok (.iconst (-1), 1) := by decide +kernel
theorem dX1_changeFollowers_31 : decode cX1_changeFollowers 31 = .ok (.goto 9, 3) := by decide +kernel
theorem dX1_changeFollowers_34 : decode cX1_changeFollowers 34 = .ok (.aload_n 0, 1) := by decide +kernel
theorem dX1_changeFollowers_35 : decode cX1_changeFollowers 35 = .ok (.iload 5, 2) := by decide +kernel
theorem dX1_changeFollowers_37 : decode cX1_changeFollowers 37 = .ok (.invokevirtual 83, 3) := by decide +kernel
theorem dX1_changeFollowers_40 : decode cX1_changeFollowers 40 = .ok (.istore 6, 2) := by decide +kernel
theorem dX1_changeFollowers_42 : decode cX1_changeFollowers 42 = .ok (.aload_n 0, 1) := by decide +kernel
theorem dX1_changeFollowers_43 : decode cX1_changeFollowers 43 = .ok (.getfield 22, 3) := by decide +kernel
theorem dX1_changeFollowers_46 : decode cX1_changeFollowers 46 = .ok (.iload_n 3, 1) := by decide +kernel
theorem dX1_changeFollowers_47 : decode cX1_changeFollowers 47 = .ok (.iload 5, 2) := by decide +kernel
theorem dX1_changeFollowers_49 : decode cX1_changeFollowers 49 = .ok (.iastore, 1) := by decide +kernel
theorem dX1_changeFollowers_50 : decode cX1_changeFollowers 50 = .ok (.iload 6, 2) := by decide +kernel
theorem dX1_changeFollowers_52 : decode cX1_changeFollowers 52 = .ok (.istore_n 3, 1) := by decide +kernel
theorem dX1_changeFollowers_53 : decode cX1_changeFollowers 53 = .ok (.iinc 4 1, 3) := by decide +kernel
theorem dX1_changeFollowers_56 : decode cX1_changeFollowers 56 = .ok (.goto (-51), 3) := by decide +kernel
theorem dX1_changeFollowers_59 : decode cX1_changeFollowers 59 = .ok (.return_, 1) := by decide +kernel
theorem dX1_followerOf_0 : decode cX1_followerOf 0 = .ok (.iconst 0, 1) := by decide +kernel
theorem dX1_followerOf_1 : decode cX1_followerOf 1 = .ok (.istore_n 2, 1) := by decide +kernel
theorem dX1_followerOf_2 : decode cX1_followerOf 2 = .ok (.iload_n 2, 1) := by decide +kernel
theorem dX1_followerOf_3 : decode cX1_followerOf 3 = .ok (.bipush 24, 2) := by decide +kernel
theorem dX1_followerOf_5 : decode cX1_followerOf 5 = .ok (.if_icmp .ge 21, 3) := by decide +kernel
theorem dX1_followerOf_8 : decode cX1_followerOf 8 = .ok (.aload_n 0, 1) := by decide +kernel
theorem dX1_followerOf_9 : decode cX1_followerOf 9 = .ok (.getfield 22, 3) := by decide +kernel
theorem dX1_followerOf_12 : decode cX1_followerOf 12 = .ok (.iload_n 2, 1) := by decide +kernel
theorem dX1_followerOf_13 : decode cX1_followerOf 13 = .ok (.iaload, 1) := by decide +kernel
theorem dX1_followerOf_14 : decode cX1_followerOf 14 = .ok (.iload_n 1, 1) := by decide +kernel
theorem dX1_followerOf_15 : decode cX1_followerOf 15 = .ok (.if_icmp .ne 5, 3) := by decide +kernel
theorem dX1_followerOf_18 : decode cX1_followerOf 18 = .ok (.iload_n 2, 1) := by decide +kernel
theorem dX1_followerOf_19 : decode cX1_followerOf 19 = .ok (.ireturn, 1) := by decide +kernel
theorem dX1_followerOf_20 : decode cX1_followerOf 20 = .ok (.iinc 2 1, 3) := by decide +kernel
theorem dX1_followerOf_23 : decode cX1_followerOf 23 = .ok (.goto (-21), 3) := by decide +kernel
theorem dX1_followerOf_26 : decode cX1_followerOf 26 = .ok (.iconst (-1), 1) := by decide +kernel
theorem dX1_followerOf_27 : decode cX1_followerOf 27 = .ok (.ireturn, 1) := by decide +kernel
theorem dX2_init_0 : decode cX2_init 0 = .ok (.aload_n 0, 1) := by decide +kernel
theorem dX2_init_1 : decode cX2_init 1 = .ok (.invokespecial 3, 3) := by decide +kernel
theorem dX2_init_4 : decode cX2_init 4 = .ok (.aload_n 0, 1) := by decide +kernel
theorem dX2_init_5 : decode cX2_init 5 = .ok (.bipush 24, 2) := by decide +kernel
theorem dX2_init_7 : decode cX2_init 7 = .ok (.newarray .int, 2) := by decide +kernel
theorem dX2_init_9 : decode cX2_init 9 = .ok (.putfield 9, 3) := by decide +kernel
theorem dX2_init_12 : decode cX2_init 12 = .ok (.aload_n 0, 1) := by decide +kernel
theorem dX2_init_13 : decode cX2_init 13 = .ok (.bipush 24, 2) := by decide +kernel
theorem dX2_init_15 : decode cX2_init 15 = .ok (.newarray .int, 2) := by decide +kernel
theorem dX2_init_17 : decode cX2_init 17 = .ok (.putfield 15, 3) := by decide +kernel
theorem dX2_init_20 : decode cX2_init 20 = .ok (.aload_n 0, 1) := by decide +kernel
theorem dX2_init_21 : decode cX2_init 21 = .ok (.bipush 24, 2) := by decide +kernel
theorem dX2_init_23 : decode cX2_init 23 = .ok (.newarray .long, 2) := by decide +kernel
theorem dX2_init_25 : decode cX2_init 25 = .ok (.putfield 18, 3) := by decide +kernel
theorem dX2_init_28 : decode cX2_init 28 = .ok (.aload_n 0, 1) := by decide +kernel
theorem dX2_init_29 : decode cX2_init 29 = .ok (.bipush 40, 2) := by decide +kernel
theorem dX2_init_31 : decode cX2_init 31 = .ok (.newarray .int, 2) := by decide +kernel
theorem dX2_init_33 : decode cX2_init 33 = .ok (.putfield 22, 3) := by decide +kernel
theorem dX2_init_36 : decode cX2_init 36 = .ok (.aload_n 0, 1) := by decide +kernel
theorem dX2_init_37 : decode cX2_init 37 = .ok (.bipush 40, 2) := by decide +kernel
theorem dX2_init_39 : decode cX2_init 39 = .ok (.newarray .int, 2) := by decide +kernel
theorem dX2_init_41 : decode cX2_init 41 = .ok (.putfield 25, 3) := by decide +kernel
theorem dX2_init_44 : decode cX2_init 44 = .ok (.aload_n 0, 1) := by decide +kernel
theorem dX2_init_45 : decode cX2_init 45 = .ok (.bipush 24, 2) := by decide +kernel
theorem dX2_init_47 : decode cX2_init 47 = .ok (.newarray .int, 2) := by decide +kernel
theorem dX2_init_49 : decode cX2_init 49 = .ok (.putfield 28, 3) := by decide +kernel
theorem dX2_init_52 : decode cX2_init 52 = .ok (.return_, 1) := by decide +kernel
theorem dX2_copyFrom_0 : decode cX2_copyFrom 0 = .ok (.aload_n 1, 1) := by decide +kernel
theorem dX2_copyFrom_1 : decode cX2_copyFrom 1 = .ok (.getfield 9, 3) := by decide +kernel
theorem dX2_copyFrom_4 : decode cX2_copyFrom 4 = .ok (.iconst 0, 1) := by decide +kernel
theorem dX2_copyFrom_5 : decode cX2_copyFrom 5 = .ok (.aload_n 0, 1) := by decide +kernel
theorem dX2_copyFrom_6 : decode cX2_copyFrom 6 = .ok (.getfield 9, 3) := by decide +kernel
theorem dX2_copyFrom_9 : decode cX2_copyFrom 9 = .ok (.iconst 0, 1) := by decide +kernel
theorem dX2_copyFrom_10 : decode cX2_copyFrom 10 = .ok (.bipush 24, 2) := by decide +kernel
theorem dX2_copyFrom_12 : decode cX2_copyFrom 12 = .ok (.invokestatic 31, 3) := by decide +kernel
theorem dX2_copyFrom_15 : decode cX2_copyFrom 15 = .ok (.aload_n 1, 1) := by decide +kernel
theorem dX2_copyFrom_16 : decode cX2_copyFrom 16 = .ok (.getfield 15, 3) := by decide +kernel
theorem dX2_copyFrom_19 : decode cX2_copyFrom 19 = .ok (.iconst 0, 1) := by decide +kernel
theorem dX2_copyFrom_20 : decode cX2_copyFrom 20 = .ok (.aload_n 0, 1) := by decide +kernel
theorem dX2_copyFrom_21 : decode cX2_copyFrom 21 = .ok (.getfield 15, 3) := by decide +kernel
theorem dX2_copyFrom_24 : decode cX2_copyFrom 24 = .ok (.iconst 0, 1) := by decide +kernel
theorem dX2_copyFrom_25 : decode cX2_copyFrom 25 = .ok (.bipush 24, 2) := by decide +kernel
theorem dX2_copyFrom_27 : decode cX2_copyFrom 27 = .ok (.invokestatic 31, 3) := by decide +kernel
theorem dX2_copyFrom_30 : decode cX2_copyFrom 30 = .ok (.aload_n 1, 1) := by decide +kernel
theorem dX2_copyFrom_31 : decode cX2_copyFrom 31 = .ok (.getfield 18, 3) := by decide +kernel
theorem dX2_copyFrom_34 : decode cX2_copyFrom 34 = .ok (.iconst 0, 1) := by decide +kernel
theorem dX2_copyFrom_35 : decode cX2_copyFrom 35 = .ok (.aload_n 0, 1) := by decide +kernel
theorem dX2_copyFrom_36 : decode cX2_copyFrom 36 = .ok (.getfield 18, 3) := by decide +kernel
theorem dX2_copyFrom_39 : decode cX2_copyFrom 39 = .ok (.iconst 0, 1) := by decide +kernel
theorem dX2_copyFrom_40 : decode cX2_copyFrom 40 = .ok (.bipush 24, 2) := by decide +kernel
theorem dX2_copyFrom_42 : decode cX2_copyFrom 42 = .ok (.invokestatic 31, 3) := by decide +kernel
theorem dX2_copyFrom_45 : decode cX2_copyFrom 45 = .ok (.aload_n 1, 1) := by decide +kernel
theorem dX2_copyFrom_46 : decode cX2_copyFrom 46 = .ok (.getfield 22, 3) := by decide +kernel
theorem dX2_copyFrom_49 : decode cX2_copyFrom 49 = .ok (.iconst 0, 1) := by decide +kernel
theorem dX2_copyFrom_50 : decode cX2_copyFrom 50 = .ok (.aload_n 0, 1) := by decide +kernel
theorem dX2_copyFrom_51 : decode cX2_copyFrom 51 = .ok (.getfield 22, 3) := by decide +kernel
theorem dX2_copyFrom_54 : decode cX2_copyFrom 54 = .ok (.iconst 0, 1) := by decide +kernel
theorem dX2_copyFrom_55 : decode cX2_copyFrom 55 = .ok (.bipush 40, 2) := by decide +kernel
theorem dX2_copyFrom_57 : decode cX2_copyFrom 57 = .ok (.invokestatic 31, 3) := by decide +kernel
theorem dX2_copyFrom_60 : decode cX2_copyFrom 60 = .ok (.aload_n 1, 1) := by decide +kernel
theorem dX2_copyFrom_61 : decode cX2_copyFrom 61 = .ok (.getfield 25, 3) := by decide +kernel
theorem dX2_copyFrom_64 : decode cX2_copyFrom 64 = .ok (.iconst 0, 1) := by decide +kernel
theorem dX2_copyFrom_65 : decode cX2_copyFrom 65 = .ok (.aload_n 0, 1) := by decide +kernel
theorem dX2_copyFrom_66 : decode cX2_copyFrom 66 = .ok (.getfield 25, 3) := by decide +kernel
theorem dX2_copyFrom_69 : decode cX2_copyFrom 69 = .ok (.iconst 0, 1) := by decide +kernel
theorem dX2_copyFrom_70 : decode cX2_copyFrom 70 = .ok (.bipush 40, 2) := by decide +kernel
theorem dX2_copyFrom_72 : decode cX2_copyFrom 72 = .ok (.invokestatic 31, 3) := by decide +kernel
theorem dX2_copyFrom_75 : decode cX2_copyFrom 75 = .ok (.aload_n 0, 1) := by decide +kernel
theorem dX2_copyFrom_76 : decode cX2_copyFrom 76 = .ok (.aload_n 1, 1) := by decide +kernel
theorem dX2_copyFrom_77 : decode cX2_copyFrom 77 = .ok (.getfield 37, 3) := by decide +kernel
theorem dX2_copyFrom_80 : decode cX2_copyFrom 80 = .ok (.putfield 37, 3) := by decide +kernel
theorem dX2_copyFrom_83 : decode cX2_copyFrom 83 = .ok (.aload_n 0, 1) := by decide +kernel
theorem dX2_copyFrom_84 : decode cX2_copyFrom 84 = .ok (.aload_n 1, 1) := by decide +kernel
theorem dX2_copyFrom_85 : decode cX2_copyFrom 85 = .ok (.getfield 41, 3) := by decide +kernel
theorem dX2_copyFrom_88 : decode cX2_copyFrom 88 = .ok (.putfield 41, 3) := by decide +kernel
theorem dX2_copyFrom_91 : decode cX2_copyFrom 91 = .ok (.aload_n 0, 1) := by decide +kernel
theorem dX2_copyFrom_92 : decode cX2_copyFrom 92 = .ok (.aload_n 1, 1) := by decide +kernel
theorem dX2_copyFrom_93 : decode cX2_copyFrom 93 = .ok (.getfield 44, 3) := by decide +kernel
theorem dX2_copyFrom_96 : decode cX2_copyFrom 96 = .ok (.putfield 44, 3) := by decide +kernel
theorem dX2_copyFrom_99 : decode cX2_copyFrom 99 = .ok (.return_, 1) := by decide +kernel
theorem dX2_has_0 : decode cX2_has 0 = .ok (.iload_n 1, 1) := by decide +kernel
theorem dX2_has_1 : decode cX2_has 1 = .ok (.ifCond .lt 24, 3) := by decide +kernel
theorem dX2_has_4 : decode cX2_has 4 = .ok (.iload_n 1, 1) := by decide +kernel
theorem dX2_has_5 : decode cX2_has 5 = .ok (.bipush 24, 2) := by decide +kernel
theorem dX2_has_7 : decode cX2_has 7 = .ok (.if_icmp .ge 18, 3) := by decide +kernel
theorem dX2_has_10 : decode cX2_has 10 = .ok (.aload_n 0, 1) := by decide +kernel
theorem dX2_has_11 : decode cX2_has 11 = .ok (.getfield 37, 3) := by decide +kernel
theorem dX2_has_14 : decode cX2_has 14 = .ok (.iload_n 1, 1) := by decide +kernel
theorem dX2_has_15 : decode cX2_has 15 = .ok (.invokestatic 47, 3) := by decide +kernel
theorem dX2_has_18 : decode cX2_has 18 = .ok (.ifCond .eq 7, 3) := by decide +kernel
theorem dX2_has_21 : decode cX2_has 21 = .ok (.iconst 1, 1) := by decide +kernel
theorem dX2_has_22 : decode cX2_has 22 = .ok (.goto 4, 3) := by decide +kernel
theorem dX2_has_25 : decode cX2_has 25 = .ok (.iconst 0, 1) := by decide +kernel
theorem dX2_has_26 : decode cX2_has 26 = .ok (.ireturn, 1) := by decide +kernel
theorem dX2_hasPair_0 : decode cX2_hasPair 0 = .ok (.aload_n 0, 1) := by decide +kernel
theorem dX2_hasPair_1 : decode cX2_hasPair 1 = .ok (.iload_n 1, 1) := by decide +kernel
theorem dX2_hasPair_2 : decode cX2_hasPair 2 = .ok (.invokevirtual 51, 3) := by decide +kernel
theorem dX2_hasPair_5 : decode cX2_hasPair 5 = .ok (.ifCond .eq 20, 3) := by decide +kernel
theorem dX2_hasPair_8 : decode cX2_hasPair 8 = .ok (.aload_n 0, 1) := by decide +kernel
theorem dX2_hasPair_9 : decode cX2_hasPair 9 = .ok (.iload_n 2, 1) := by decide +kernel
theorem dX2_hasPair_10 : decode cX2_hasPair 10 = .ok (.invokevirtual 51, 3) := by decide +kernel
theorem dX2_hasPair_13 : decode cX2_hasPair 13 = .ok (.ifCond .eq 12, 3) := by decide +kernel
theorem dX2_hasPair_16 : decode cX2_hasPair 16 = .ok (.iload_n 1, 1) := by decide +kernel
theorem dX2_hasPair_17 : decode cX2_hasPair 17 = .ok (.iload_n 2, 1) := by decide +kernel
theorem dX2_hasPair_18 : decode cX2_hasPair 18 = .ok (.if_icmp .eq 7, 3) := by decide +kernel
theorem dX2_hasPair_21 : decode cX2_hasPair 21 = .ok (.iconst 1, 1) := by decide +kernel
theorem dX2_hasPair_22 : decode cX2_hasPair 22 = .ok (.goto 4, 3) := by decide +kernel
theorem dX2_hasPair_25 : decode cX2_hasPair 25 = .ok (.iconst 0, 1) := by decide +kernel
theorem dX2_hasPair_26 : decode cX2_hasPair 26 = .ok (.ireturn, 1) := by decide +kernel
theorem dX2_newTerm_0 : decode cX2_newTerm 0 = .ok (.iconst 0, 1) := by decide +kernel
theorem dX2_newTerm_1 : decode cX2_newTerm 1 = .ok (.istore_n 2, 1) := by decide +kernel
theorem dX2_newTerm_2 : decode cX2_newTerm 2 = .ok (.iload_n 2, 1) := by decide +kernel
theorem dX2_newTerm_3 : decode cX2_newTerm 3 = .ok (.bipush 23, 2) := by decide +kernel
theorem dX2_newTerm_5 : decode cX2_newTerm 5 = .ok (.if_icmp .ge 20, 3) := by decide +kernel
theorem dX2_newTerm_8 : decode cX2_newTerm 8 = .ok (.aload_n 0, 1) := by decide +kernel
theorem dX2_newTerm_9 : decode cX2_newTerm 9 = .ok (.getfield 37, 3) := by decide +kernel
theorem dX2_newTerm_12 : decode cX2_newTerm 12 = .ok (.iload_n 2, 1) := by decide +kernel
theorem dX2_newTerm_13 : decode cX2_newTerm 13 = .ok (.invokestatic 47, 3) := by decide +kernel
theorem dX2_newTerm_16 : decode cX2_newTerm 16 = .ok (.ifCond .eq 9, 3) := by decide +kernel
theorem dX2_newTerm_19 : decode cX2_newTerm 19 = .ok (.iinc 2 1, 3) := by decide +kernel
theorem dX2_newTerm_22 : decode cX2_newTerm 22 = .ok (.goto (-20), 3) := by decide +kernel
theorem dX2_newTerm_25 : decode cX2_newTerm 25 = .ok (.aload_n 0, 1) := by decide +kernel
theorem dX2_newTerm_26 : decode cX2_newTerm 26 = .ok (.getfield 41, 3) := by decide +kernel
theorem dX2_newTerm_29 : decode cX2_newTerm 29 = .ok (.bipush 24, 2) := by decide +kernel
theorem dX2_newTerm_31 : decode cX2_newTerm 31 = .ok (.if_icmp .ge 41, 3) := by decide +kernel
theorem dX2_newTerm_34 : decode cX2_newTerm 34 = .ok (.aload_n 0, 1) := by decide +kernel
theorem dX2_newTerm_35 : decode cX2_newTerm 35 = .ok (.dup, 1) := by decide +kernel
theorem dX2_newTerm_36 : decode cX2_newTerm 36 = .ok (.getfield 37, 3) := by decide +kernel
theorem dX2_newTerm_39 : decode cX2_newTerm 39 = .ok (.iconst 1, 1) := by decide +kernel
theorem dX2_newTerm_40 : decode cX2_newTerm 40 = .ok (.iload_n 2, 1) := by decide +kernel
theorem dX2_newTerm_41 : decode cX2_newTerm 41 = .ok (.ishl, 1) := by decide +kernel
theorem dX2_newTerm_42 : decode cX2_newTerm 42 = .ok (.ior, 1) := by decide +kernel
theorem dX2_newTerm_43 : decode cX2_newTerm 43 = .ok (.putfield 37, 3) := by decide +kernel
theorem dX2_newTerm_46 : decode cX2_newTerm 46 = .ok (.aload_n 0, 1) := by decide +kernel
theorem dX2_newTerm_47 : decode cX2_newTerm 47 = .ok (.getfield 15, 3) := by decide +kernel
theorem dX2_newTerm_50 : decode cX2_newTerm 50 = .ok (.aload_n 0, 1) := by decide +kernel
theorem dX2_newTerm_51 : decode cX2_newTerm 51 = .ok (.getfield 41, 3) := by decide +kernel
theorem dX2_newTerm_54 : decode cX2_newTerm 54 = .ok (.iload_n 2, 1) := by decide +kernel
theorem dX2_newTerm_55 : decode cX2_newTerm 55 = .ok (.iastore, 1) := by decide +kernel
theorem dX2_newTerm_56 : decode cX2_newTerm 56 = .ok (.aload_n 0, 1) := by decide +kernel
theorem dX2_newTerm_57 : decode cX2_newTerm 57 = .ok (.dup, 1) := by decide +kernel
theorem dX2_newTerm_58 : decode cX2_newTerm 58 = .ok (.getfield 41, 3) := by decide +kernel
theorem dX2_newTerm_61 : decode cX2_newTerm 61 = .ok (.iconst 1, 1) := by decide +kernel
theorem dX2_newTerm_62 : decode cX2_newTerm 62 = .ok (.iadd, 1) := by decide +kernel
theorem dX2_newTerm_63 : decode cX2_newTerm 63 = .ok (.putfield 41, 3) := by decide +kernel
theorem dX2_newTerm_66 : decode cX2_newTerm 66 = .ok (.aload_n 0, 1) := by decide +kernel
theorem dX2_newTerm_67 : decode cX2_newTerm 67 = .ok (.iload_n 1, 1) := by decide +kernel
theorem dX2_newTerm_68 : decode cX2_newTerm 68 = .ok (.iload_n 2, 1) := by decide +kernel
theorem dX2_newTerm_69 : decode cX2_newTerm 69 = .ok (.invokevirtual 55, 3) := by decide +kernel
theorem dX2_newTerm_72 : decode cX2_newTerm 72 = .ok (.iload_n 2, 1) := by decide +kernel
theorem dX2_newTerm_73 : decode cX2_newTerm 73 = .ok (.ireturn, 1) := by decide +kernel
theorem dX2_remove_0 : decode cX2_remove 0 = .ok (.iconst 0, 1) := by decide +kernel
theorem dX2_remove_1 : decode cX2_remove 1 = .ok (.istore_n 2, 1) := by decide +kernel
theorem dX2_remove_2 : decode cX2_remove 2 = .ok (.iload_n 2, 1) := by decide +kernel
theorem dX2_remove_3 : decode cX2_remove 3 = .ok (.bipush 24, 2) := by decide +kernel
theorem dX2_remove_5 : decode cX2_remove 5 = .ok (.if_icmp .ge 23, 3) := by decide +kernel
theorem dX2_remove_8 : decode cX2_remove 8 = .ok (.aload_n 0, 1) := by decide +kernel
theorem dX2_remove_9 : decode cX2_remove 9 = .ok (.getfield 9, 3) := by decide +kernel
theorem dX2_remove_12 : decode cX2_remove 12 = .ok (.iload_n 2, 1) := by decide +kernel
theorem dX2_remove_13 : decode cX2_remove 13 = .ok (.dup2, 1) := by decide +kernel
theorem dX2_remove_14 : decode cX2_remove 14 = .ok (.iaload, 1) := by decide +kernel
theorem dX2_remove_15 : decode cX2_remove 15 = .ok (.iconst 1, 1) := by decide +kernel
theorem dX2_remove_16 : decode cX2_remove 16 = .ok (.iload_n 1, 1) := by decide +kernel
theorem dX2_remove_17 : decode cX2_remove 17 = .ok (.ishl, 1) := by decide +kernel
theorem dX2_remove_18 : decode cX2_remove 18 = .ok (.iconst (-1), 1) := by decide +kernel
theorem dX2_remove_19 : decode cX2_remove 19 = .ok (.ixor, 1) := by decide +kernel
theorem dX2_remove_20 : decode cX2_remove 20 = .ok (.iand, 1) := by decide +kernel
theorem dX2_remove_21 : decode cX2_remove 21 = .ok (.iastore, 1) := by decide +kernel
theorem dX2_remove_22 : decode cX2_remove 22 = .ok (.iinc 2 1, 3) := by decide +kernel
theorem dX2_remove_25 : decode cX2_remove 25 = .ok (.goto (-23), 3) := by decide +kernel
theorem dX2_remove_28 : decode cX2_remove 28 = .ok (.aload_n 0, 1) := by decide +kernel
theorem dX2_remove_29 : decode cX2_remove 29 = .ok (.getfield 9, 3) := by decide +kernel
theorem dX2_remove_32 : decode cX2_remove 32 = .ok (.iload_n 1, 1) := by decide +kernel
theorem dX2_remove_33 : decode cX2_remove 33 = .ok (.iconst 0, 1) := by decide +kernel
theorem dX2_remove_34 : decode cX2_remove 34 = .ok (.iastore, 1) := by decide +kernel
theorem dX2_remove_35 : decode cX2_remove 35 = .ok (.aload_n 0, 1) := by decide +kernel
theorem dX2_remove_36 : decode cX2_remove 36 = .ok (.getfield 18, 3) := by decide +kernel
theorem dX2_remove_39 : decode cX2_remove 39 = .ok (.iload_n 1, 1) := by decide +kernel
theorem dX2_remove_40 : decode cX2_remove 40 = .ok (.lconst 0, 1) := by decide +kernel
theorem dX2_remove_41 : decode cX2_remove 41 = .ok (.lastore, 1) := by decide +kernel
theorem dX2_remove_42 : decode cX2_remove 42 = .ok (.aload_n 0, 1) := by decide +kernel
theorem dX2_remove_43 : decode cX2_remove 43 = .ok (.dup, 1) := by decide +kernel
theorem dX2_remove_44 : decode cX2_remove 44 = .ok (.getfield 37, 3) := by decide +kernel
theorem dX2_remove_47 : decode cX2_remove 47 = .ok (.iconst 1, 1) := by decide +kernel
theorem dX2_remove_48 : decode cX2_remove 48 = .ok (.iload_n 1, 1) := by decide +kernel
theorem dX2_remove_49 : decode cX2_remove 49 = .ok (.ishl, 1) := by decide +kernel
theorem dX2_remove_50 : decode cX2_remove 50 = .ok (.iconst (-1), 1) := by decide +kernel
theorem dX2_remove_51 : decode cX2_remove 51 = .ok (.ixor, 1) := by decide +kernel
theorem dX2_remove_52 : decode cX2_remove 52 = .ok (.iand, 1) := by decide +kernel
theorem dX2_remove_53 : decode cX2_remove 53 = .ok (.putfield 37, 3) := by decide +kernel
theorem dX2_remove_56 : decode cX2_remove 56 = .ok (.iconst 0, 1) := by decide +kernel
theorem dX2_remove_57 : decode cX2_remove 57 = .ok (.istore_n 2, 1) := by decide +kernel
theorem dX2_remove_58 : decode cX2_remove 58 = .ok (.iconst 0, 1) := by decide +kernel
theorem dX2_remove_59 : decode cX2_remove 59 = .ok (.istore_n 3, 1) := by decide +kernel
theorem dX2_remove_60 : decode cX2_remove 60 = .ok (.iload_n 3, 1) := by decide +kernel
theorem dX2_remove_61 : decode cX2_remove 61 = .ok (.aload_n 0, 1) := by decide +kernel
theorem dX2_remove_62 : decode cX2_remove 62 = .ok (.getfield 41, 3) := by decide +kernel
theorem dX2_remove_65 : decode cX2_remove 65 = .ok (.if_icmp .ge 34, 3) := by decide +kernel
theorem dX2_remove_68 : decode cX2_remove 68 = .ok (.aload_n 0, 1) := by decide +kernel
theorem dX2_remove_69 : decode cX2_remove 69 = .ok (.getfield 15, 3) := by decide +kernel
theorem dX2_remove_72 : decode cX2_remove 72 = .ok (.iload_n 3, 1) := by decide +kernel
theorem dX2_remove_73 : decode cX2_remove 73 = .ok (.iaload, 1) := by decide +kernel
theorem dX2_remove_74 : decode cX2_remove 74 = .ok (.iload_n 1, 1) := by decide +kernel
theorem dX2_remove_75 : decode cX2_remove 75 = .ok (.if_icmp .eq 18, 3) := by decide +kernel
theorem dX2_remove_78 : decode cX2_remove 78 = .ok (.aload_n 0, 1) := by decide +kernel
theorem dX2_remove_79 : decode cX2_remove 79 = .ok (.getfield 15, 3) := by decide +kernel
theorem dX2_remove_82 : decode cX2_remove 82 = .ok (.iload_n 2, 1) := by decide +kernel
theorem dX2_remove_83 : decode cX2_remove 83 = .ok (.aload_n 0, 1) := by decide +kernel
theorem dX2_remove_84 : decode cX2_remove 84 = .ok (.getfield 15, 3) := by decide +kernel
theorem dX2_remove_87 : decode cX2_remove 87 = .ok (.iload_n 3, 1) := by decide +kernel
theorem dX2_remove_88 : decode cX2_remove 88 = .ok (.iaload, 1) := by decide +kernel
theorem dX2_remove_89 : decode cX2_remove 89 = .ok (.iastore, 1) := by decide +kernel
theorem dX2_remove_90 : decode cX2_remove 90 = .ok (.iinc 2 1, 3) := by decide +kernel
theorem dX2_remove_93 : decode cX2_remove 93 = .ok (.iinc 3 1, 3) := by decide +kernel
theorem dX2_remove_96 : decode cX2_remove 96 = .ok (.goto (-36), 3) := by decide +kernel
theorem dX2_remove_99 : decode cX2_remove 99 = .ok (.aload_n 0, 1) := by decide +kernel
theorem dX2_remove_100 : decode cX2_remove 100 = .ok (.iload_n 2, 1) := by decide +kernel
theorem dX2_remove_101 : decode cX2_remove 101 = .ok (.putfield 41, 3) := by decide +kernel
theorem dX2_remove_104 : decode cX2_remove 104 = .ok (.aload_n 0, 1) := by decide +kernel
theorem dX2_remove_105 : decode cX2_remove 105 = .ok (.getfield 44, 3) := by decide +kernel
theorem dX2_remove_108 : decode cX2_remove 108 = .ok (.iconst 1, 1) := by decide +kernel
theorem dX2_remove_109 : decode cX2_remove 109 = .ok (.isub, 1) := by decide +kernel
theorem dX2_remove_110 : decode cX2_remove 110 = .ok (.istore_n 3, 1) := by decide +kernel
theorem dX2_remove_111 : decode cX2_remove 111 = .ok (.iload_n 3, 1) := by decide +kernel
theorem dX2_remove_112 : decode cX2_remove 112 = .ok (.ifCond .lt 24, 3) := by decide +kernel
theorem dX2_remove_115 : decode cX2_remove 115 = .ok (.aload_n 0, 1) := by decide +kernel
theorem dX2_remove_116 : decode cX2_remove 116 = .ok (.getfield 25, 3) := by decide +kernel
theorem dX2_remove_119 : decode cX2_remove 119 = .ok (.iload_n 3, 1) := by decide +kernel
theorem dX2_remove_120 : decode cX2_remove 120 = .ok (.iaload, 1) := by decide +kernel
theorem dX2_remove_121 : decode cX2_remove 121 = .ok (.iload_n 1, 1) := by decide +kernel
theorem dX2_remove_122 : decode cX2_remove 122 = .ok (.if_icmp .ne 8, 3) := by decide +kernel
theorem dX2_remove_125 : decode cX2_remove 125 = .ok (.aload_n 0, 1) := by decide +kernel
theorem dX2_remove_126 : decode cX2_remove 126 = .ok (.iload_n 3, 1) := by decide +kernel
theorem dX2_remove_127 : decode cX2_remove 127 = .ok (.invokevirtual 59, 3) := by decide +kernel
theorem dX2_remove_130 : decode cX2_remove 130 = .ok (.iinc 3 (-1), 3) := by decide +kernel
theorem dX2_remove_133 : decode cX2_remove 133 = .ok (.goto (-22), 3) := by decide +kernel
theorem dX2_remove_136 : decode cX2_remove 136 = .ok (.return_, 1) := by decide +kernel
theorem dX2_ownerOf_0 : decode cX2_ownerOf 0 = .ok (.iconst 0, 1) := by decide +kernel
theorem dX2_ownerOf_1 : decode cX2_ownerOf 1 = .ok (.istore_n 2, 1) := by decide +kernel
theorem dX2_ownerOf_2 : decode cX2_ownerOf 2 = .ok (.iload_n 2, 1) := by decide +kernel
theorem dX2_ownerOf_3 : decode cX2_ownerOf 3 = .ok (.aload_n 0, 1) := by decide +kernel
theorem dX2_ownerOf_4 : decode cX2_ownerOf 4 = .ok (.getfield 44, 3) := by decide +kernel
theorem dX2_ownerOf_7 : decode cX2_ownerOf 7 = .ok (.if_icmp .ge 26, 3) := by decide +kernel
theorem dX2_ownerOf_10 : decode cX2_ownerOf 10 = .ok (.aload_n 0, 1) := by decide +kernel
theorem dX2_ownerOf_11 : decode cX2_ownerOf 11 = .ok (.getfield 22, 3) := by decide +kernel
theorem dX2_ownerOf_14 : decode cX2_ownerOf 14 = .ok (.iload_n 2, 1) := by decide +kernel
theorem dX2_ownerOf_15 : decode cX2_ownerOf 15 = .ok (.iaload, 1) := by decide +kernel
theorem dX2_ownerOf_16 : decode cX2_ownerOf 16 = .ok (.iload_n 1, 1) := by decide +kernel
theorem dX2_ownerOf_17 : decode cX2_ownerOf 17 = .ok (.if_icmp .ne 10, 3) := by decide +kernel
theorem dX2_ownerOf_20 : decode cX2_ownerOf 20 = .ok (.aload_n 0, 1) := by decide +kernel
theorem dX2_ownerOf_21 : decode cX2_ownerOf 21 = .ok (.getfield 25, 3) := by decide +kernel
theorem dX2_ownerOf_24 : decode cX2_ownerOf 24 = .ok (.iload_n 2, 1) := by decide +kernel
theorem dX2_ownerOf_25 : decode cX2_ownerOf 25 = .ok (.iaload, 1) := by decide +kernel
theorem dX2_ownerOf_26 : decode cX2_ownerOf 26 = .ok (.ireturn, 1) := by decide +kernel
theorem dX2_ownerOf_27 : decode cX2_ownerOf 27 = .ok (.iinc 2 1, 3) := by decide +kernel
theorem dX2_ownerOf_30 : decode cX2_ownerOf 30 = .ok (.goto (-28), 3) := by decide +kernel
theorem dX2_ownerOf_33 : decode cX2_ownerOf 33 = .ok (.iconst (-1), 1) := by decide +kernel
theorem dX2_ownerOf_34 : decode cX2_ownerOf 34 = .ok (.ireturn, 1) := by decide +kernel
theorem dX2_namesOf_0 : decode cX2_namesOf 0 = .ok (.iconst 0, 1) := by decide +kernel
theorem dX2_namesOf_1 : decode cX2_namesOf 1 = .ok (.istore_n 2, 1) := by decide +kernel
theorem dX2_namesOf_2 : decode cX2_namesOf 2 = .ok (.iconst 0, 1) := by decide +kernel
theorem dX2_namesOf_3 : decode cX2_namesOf 3 = .ok (.istore_n 3, 1) := by decide +kernel
theorem dX2_namesOf_4 : decode cX2_namesOf 4 = .ok (.iload_n 3, 1) := by decide +kernel
theorem dX2_namesOf_5 : decode cX2_namesOf 5 = .ok (.aload_n 0, 1) := by decide +kernel
theorem dX2_namesOf_6 : decode cX2_namesOf 6 = .ok (.getfield 44, 3) := by decide +kernel
theorem dX2_namesOf_9 : decode cX2_namesOf 9 = .ok (.if_icmp .ge 22, 3) := by decide +kernel
theorem dX2_namesOf_12 : decode cX2_namesOf 12 = .ok (.aload_n 0, 1) := by decide +kernel
theorem dX2_namesOf_13 : decode cX2_namesOf 13 = .ok (.getfield 25, 3) := by decide +kernel
theorem dX2_namesOf_16 : decode cX2_namesOf 16 = .ok (.iload_n 3, 1) := by decide +kernel
theorem dX2_namesOf_17 : decode cX2_namesOf 17 = .ok (.iaload, 1) := by decide +kernel
theorem dX2_namesOf_18 : decode cX2_namesOf 18 = .ok (.iload_n 1, 1) := by decide +kernel
theorem dX2_namesOf_19 : decode cX2_namesOf 19 = .ok (.if_icmp .ne 6, 3) := by decide +kernel
theorem dX2_namesOf_22 : decode cX2_namesOf 22 = .ok (.iinc 2 1, 3) := by decide +kernel
theorem dX2_namesOf_25 : decode cX2_namesOf 25 = .ok (.iinc 3 1, 3) := by decide +kernel
theorem dX2_namesOf_28 : decode cX2_namesOf 28 = .ok (.goto (-24), 3) := by decide +kernel
theorem dX2_namesOf_31 : decode cX2_namesOf 31 = .ok (.iload_n 2, 1) := by decide +kernel
theorem dX2_namesOf_32 : decode cX2_namesOf 32 = .ok (.ireturn, 1) := by decide +kernel
theorem dX2_addName_0 : decode cX2_addName 0 = .ok (.aload_n 0, 1) := by decide +kernel
theorem dX2_addName_1 : decode cX2_addName 1 = .ok (.getfield 44, 3) := by decide +kernel
theorem dX2_addName_4 : decode cX2_addName 4 = .ok (.bipush 40, 2) := by decide +kernel
theorem dX2_addName_6 : decode cX2_addName 6 = .ok (.if_icmp .ge 33, 3) := by decide +kernel
theorem dX2_addName_9 : decode cX2_addName 9 = .ok (.aload_n 0, 1) := by decide +kernel
theorem dX2_addName_10 : decode cX2_addName 10 = .ok (.getfield 22, 3) := by decide +kernel
theorem dX2_addName_13 : decode cX2_addName 13 = .ok (.aload_n 0, 1) := by decide +kernel
theorem dX2_addName_14 : decode cX2_addName 14 = .ok (.getfield 44, 3) := by decide +kernel
theorem dX2_addName_17 : decode cX2_addName 17 = .ok (.iload_n 1, 1) := by decide +kernel
theorem dX2_addName_18 : decode cX2_addName 18 = .ok (.iastore, 1) := by decide +kernel
theorem dX2_addName_19 : decode cX2_addName 19 = .ok (.aload_n 0, 1) := by decide +kernel
theorem dX2_addName_20 : decode cX2_addName 20 = .ok (.getfield 25, 3) := by decide +kernel
theorem dX2_addName_23 : decode cX2_addName 23 = .ok (.aload_n 0, 1) := by decide +kernel
theorem dX2_addName_24 : decode cX2_addName 24 = .ok (.getfield 44, 3) := by decide +kernel
theorem dX2_addName_27 : decode cX2_addName 27 = .ok (.iload_n 2, 1) := by decide +kernel
theorem dX2_addName_28 : decode cX2_addName 28 = .ok (.iastore, 1) := by decide +kernel
theorem dX2_addName_29 : decode cX2_addName 29 = .ok (.aload_n 0, 1) := by decide +kernel
theorem dX2_addName_30 : decode cX2_addName 30 = .ok (.dup, 1) := by decide +kernel
theorem dX2_addName_31 : decode cX2_addName 31 = .ok (.getfield 44, 3) := by decide +kernel
theorem dX2_addName_34 : decode cX2_addName 34 = .ok (.iconst 1, 1) := by decide +kernel
theorem dX2_addName_35 : decode cX2_addName 35 = .ok (.iadd, 1) := by decide +kernel
theorem dX2_addName_36 : decode cX2_addName 36 = .ok (.putfield 44, 3) := by decide +kernel
theorem dX2_addName_39 : decode cX2_addName 39 = .ok (.return_, 1) := by decide +kernel
theorem dX2_removeName_0 : decode cX2_removeName 0 = .ok (.iload_n 1, 1) := by decide +kernel
theorem dX2_removeName_1 : decode cX2_removeName 1 = .ok (.iconst 1, 1) := by decide +kernel
theorem dX2_removeName_2 : decode cX2_removeName 2 = .ok (.iadd, 1) := by decide +kernel
theorem dX2_removeName_3 : decode cX2_removeName 3 = .ok (.istore_n 2, 1) := by decide +kernel
theorem dX2_removeName_4 : decode cX2_removeName 4 = .ok (.iload_n 2, 1) := by decide +kernel
theorem dX2_removeName_5 : decode cX2_removeName 5 = .ok (.aload_n 0, 1) := by decide +kernel
theorem dX2_removeName_6 : decode cX2_removeName 6 = .ok (.getfield 44, 3) := by decide +kernel
theorem dX2_removeName_9 : decode cX2_removeName 9 = .ok (.if_icmp .ge 37, 3) := by decide +kernel
theorem dX2_removeName_12 : decode cX2_removeName 12 = .ok (.aload_n 0, 1) := by decide +kernel
theorem dX2_removeName_13 : decode cX2_removeName 13 = .ok (.getfield 22, 3) := by decide +kernel
theorem dX2_removeName_16 : decode cX2_removeName 16 = .ok (.iload_n 2, 1) := by decide +kernel
theorem dX2_removeName_17 : decode cX2_removeName 17 = .ok (.iconst 1, 1) := by decide +kernel
theorem dX2_removeName_18 : decode cX2_removeName 18 = .ok (.isub, 1) := by decide +kernel
theorem dX2_removeName_19 : decode cX2_removeName 19 = .ok (.aload_n 0, 1) := by decide +kernel
theorem dX2_removeName_20 : decode cX2_removeName 20 = .ok (.getfield 22, 3) := by decide +kernel
theorem dX2_removeName_23 : decode cX2_removeName 23 = .ok (.iload_n 2, 1) := by decide +kernel
theorem dX2_removeName_24 : decode cX2_removeName 24 = .ok (.iaload, 1) := by decide +kernel
theorem dX2_removeName_25 : decode cX2_removeName 25 = .ok (.iastore, 1) := by decide +kernel
theorem dX2_removeName_26 : decode cX2_removeName 26 = .ok (.aload_n 0, 1) := by decide +kernel
theorem dX2_removeName_27 : decode cX2_removeName 27 = .ok (.getfield 25, 3) := by decide +kernel
theorem dX2_removeName_30 : decode cX2_removeName 30 = .ok (.iload_n 2, 1) := by decide +kernel
theorem dX2_removeName_31 : decode cX2_removeName 31 = .ok (.iconst 1, 1) := by decide +kernel
theorem dX2_removeName_32 : decode cX2_removeName 32 = .ok (.isub, 1) := by decide +kernel
theorem dX2_removeName_33 : decode cX2_removeName 33 = .ok (.aload_n 0, 1) := by decide +kernel
theorem dX2_removeName_34 : decode cX2_removeName 34 = .ok (.getfield 25, 3) := by decide +kernel
theorem dX2_removeName_37 : decode cX2_removeName 37 = .ok (.iload_n 2, 1) := by decide +kernel
theorem dX2_removeName_38 : decode cX2_removeName 38 = .ok (.iaload, 1) := by decide +kernel
theorem dX2_removeName_39 : decode cX2_removeName 39 = .ok (.iastore, 1) := by decide +kernel
theorem dX2_removeName_40 : decode cX2_removeName 40 = .ok (.iinc 2 1, 3) := by decide +kernel
theorem dX2_removeName_43 : decode cX2_removeName 43 = .ok (.goto (-39), 3) := by decide +kernel
theorem dX2_removeName_46 : decode cX2_removeName 46 = .ok (.aload_n 0, 1) := by decide +kernel
theorem dX2_removeName_47 : decode cX2_removeName 47 = .ok (.dup, 1) := by decide +kernel
theorem dX2_removeName_48 : decode cX2_removeName 48 = .ok (.getfield 44, 3) := by decide +kernel
theorem dX2_removeName_51 : decode cX2_removeName 51 = .ok (.iconst 1, 1) := by decide +kernel
theorem dX2_removeName_52 : decode cX2_removeName 52 = .ok (.isub, 1) := by decide +kernel
theorem dX2_removeName_53 : decode cX2_removeName 53 = .ok (.putfield 44, 3) := by decide +kernel
theorem dX2_removeName_56 : decode cX2_removeName 56 = .ok (.return_, 1) := by decide +kernel
theorem dX2_handNames_0 : decode cX2_handNames 0 = .ok (.iconst 0, 1) := by decide +kernel
theorem dX2_handNames_1 : decode cX2_handNames 1 = .ok (.istore_n 3, 1) := by decide +kernel
theorem dX2_handNames_2 : decode cX2_handNames 2 = .ok (.aload_n 0, 1) := by decide +kernel
theorem dX2_handNames_3 : decode cX2_handNames 3 = .ok (.getfield 44, 3) := by decide +kernel
theorem dX2_handNames_6 : decode cX2_handNames 6 = .ok (.istore 4, 2) := by decide +kernel
theorem dX2_handNames_8 : decode cX2_handNames 8 = .ok (.iload 4, 2) := by decide +kernel
theorem dX2_handNames_10 : decode cX2_handNames 10 = .ok (.ifCond .le 45, 3) := by decide +kernel
theorem dX2_handNames_13 : decode cX2_handNames 13 = .ok (.aload_n 0, 1) := by decide +kernel
theorem dX2_handNames_14 : decode cX2_handNames 14 = .ok (.getfield 25, 3) := by decide +kernel
theorem dX2_handNames_17 : decode cX2_handNames 17 = .ok (.iload_n 3, 1) := by decide +kernel
theorem dX2_handNames_18 : decode cX2_handNames 18 = .ok (.iaload, 1) := by decide +kernel
theorem dX2_handNames_19 : decode cX2_handNames 19 = .ok (.iload_n 1, 1) := by decide +kernel
theorem dX2_handNames_20 : decode cX2_handNames 20 = .ok (.if_icmp .ne 26, 3) := by decide +kernel
theorem dX2_handNames_23 : decode cX2_handNames 23 = .ok (.aload_n 0, 1) := by decide +kernel
theorem dX2_handNames_24 : decode cX2_handNames 24 = .ok (.getfield 22, 3) := by decide +kernel
theorem dX2_handNames_27 : decode cX2_handNames 27 = .ok (.iload_n 3, 1) := by decide +kernel
theorem dX2_handNames_28 : decode cX2_handNames 28 = .ok (.iaload, 1) := by decide +kernel
theorem dX2_handNames_29 : decode cX2_handNames 29 = .ok (.istore 5, 2) := by decide +kernel
theorem dX2_handNames_31 : decode cX2_handNames 31 = .ok (.aload_n 0, 1) := by decide +kernel
theorem dX2_handNames_32 : decode cX2_handNames 32 = .ok (.iload_n 3, 1) := by decide +kernel
theorem dX2_handNames_33 : decode cX2_handNames 33 = .ok (.invokevirtual 59, 3) := by decide +kernel
theorem dX2_handNames_36 : decode cX2_handNames 36 = .ok (.aload_n 0, 1) := by decide +kernel
theorem dX2_handNames_37 : decode cX2_handNames 37 = .ok (.iload 5, 2) := by decide +kernel
theorem dX2_handNames_39 : decode cX2_handNames 39 = .ok (.iload_n 2, 1) := by decide +kernel
theorem dX2_handNames_40 : decode cX2_handNames 40 = .ok (.invokevirtual 55, 3) := by decide +kernel
theorem dX2_handNames_43 : decode cX2_handNames 43 = .ok (.goto 6, 3) := by decide +kernel
theorem dX2_handNames_46 : decode cX2_handNames 46 = .ok (.iinc 3 1, 3) := by decide +kernel
theorem dX2_handNames_49 : decode cX2_handNames 49 = .ok (.iinc 4 (-1), 3) := by decide +kernel
theorem dX2_handNames_52 : decode cX2_handNames 52 = .ok (.goto (-44), 3) := by decide +kernel
theorem dX2_handNames_55 : decode cX2_handNames 55 = .ok (.return_, 1) := by decide +kernel
theorem dX2_placeOf_0 : decode cX2_placeOf 0 = .ok (.iconst 0, 1) := by decide +kernel
theorem dX2_placeOf_1 : decode cX2_placeOf 1 = .ok (.istore_n 2, 1) := by decide +kernel
theorem dX2_placeOf_2 : decode cX2_placeOf 2 = .ok (.iload_n 2, 1) := by decide +kernel
theorem dX2_placeOf_3 : decode cX2_placeOf 3 = .ok (.aload_n 0, 1) := by decide +kernel
theorem dX2_placeOf_4 : decode cX2_placeOf 4 = .ok (.getfield 41, 3) := by decide +kernel
theorem dX2_placeOf_7 : decode cX2_placeOf 7 = .ok (.if_icmp .ge 21, 3) := by decide +kernel
theorem dX2_placeOf_10 : decode cX2_placeOf 10 = .ok (.aload_n 0, 1) := by decide +kernel
theorem dX2_placeOf_11 : decode cX2_placeOf 11 = .ok (.getfield 15, 3) := by decide +kernel
theorem dX2_placeOf_14 : decode cX2_placeOf 14 = .ok (.iload_n 2, 1) := by decide +kernel
theorem dX2_placeOf_15 : decode cX2_placeOf 15 = .ok (.iaload, 1) := by decide +kernel
theorem dX2_placeOf_16 : decode cX2_placeOf 16 = .ok (.iload_n 1, 1) := by decide +kernel
theorem dX2_placeOf_17 : decode cX2_placeOf 17 = .ok (.if_icmp .ne 5, 3) := by decide +kernel
theorem dX2_placeOf_20 : decode cX2_placeOf 20 = .ok (.iload_n 2, 1) := by decide +kernel
theorem dX2_placeOf_21 : decode cX2_placeOf 21 = .ok (.ireturn, 1) := by decide +kernel
theorem dX2_placeOf_22 : decode cX2_placeOf 22 = .ok (.iinc 2 1, 3) := by decide +kernel
theorem dX2_placeOf_25 : decode cX2_placeOf 25 = .ok (.goto (-23), 3) := by decide +kernel
theorem dX2_placeOf_28 : decode cX2_placeOf 28 = .ok (.iconst (-1), 1) := by decide +kernel
theorem dX2_placeOf_29 : decode cX2_placeOf 29 = .ok (.ireturn, 1) := by decide +kernel
theorem dX2_come_0 : decode cX2_come 0 = .ok (.iconst 0, 1) := by decide +kernel
theorem dX2_come_1 : decode cX2_come 1 = .ok (.istore_n 3, 1) := by decide +kernel
theorem dX2_come_2 : decode cX2_come 2 = .ok (.aload_n 0, 1) := by decide +kernel
theorem dX2_come_3 : decode cX2_come 3 = .ok (.iload_n 1, 1) := by decide +kernel
theorem dX2_come_4 : decode cX2_come 4 = .ok (.invokevirtual 63, 3) := by decide +kernel
theorem dX2_come_7 : decode cX2_come 7 = .ok (.aload_n 0, 1) := by decide +kernel
theorem dX2_come_8 : decode cX2_come 8 = .ok (.iload_n 2, 1) := by decide +kernel
theorem dX2_come_9 : decode cX2_come 9 = .ok (.invokevirtual 63, 3) := by decide +kernel
theorem dX2_come_12 : decode cX2_come 12 = .ok (.if_icmp .le 28, 3) := by decide +kernel
theorem dX2_come_15 : decode cX2_come 15 = .ok (.aload_n 0, 1) := by decide +kernel
theorem dX2_come_16 : decode cX2_come 16 = .ok (.aload_n 0, 1) := by decide +kernel
theorem dX2_come_17 : decode cX2_come 17 = .ok (.iload_n 1, 1) := by decide +kernel
theorem dX2_come_18 : decode cX2_come 18 = .ok (.invokevirtual 67, 3) := by decide +kernel
theorem dX2_come_21 : decode cX2_come 21 = .ok (.aload_n 0, 1) := by decide +kernel
theorem dX2_come_22 : decode cX2_come 22 = .ok (.iload_n 2, 1) := by decide +kernel
theorem dX2_come_23 : decode cX2_come 23 = .ok (.invokevirtual 70, 3) := by decide +kernel
theorem dX2_come_26 : decode cX2_come 26 = .ok (.aload_n 0, 1) := by decide +kernel
theorem dX2_come_27 : decode cX2_come 27 = .ok (.iload_n 2, 1) := by decide +kernel
theorem dX2_come_28 : decode cX2_come 28 = .ok (.invokevirtual 63, 3) := by decide +kernel
theorem dX2_come_31 : decode cX2_come 31 = .ok (.aload_n 0, 1) := by decide +kernel
theorem dX2_come_32 : decode cX2_come 32 = .ok (.iload_n 1, 1) := by decide +kernel
theorem dX2_come_33 : decode cX2_come 33 = .ok (.invokevirtual 63, 3) := by decide +kernel
theorem dX2_come_36 : decode cX2_come 36 = .ok (.invokevirtual 73, 3) := by decide +kernel
theorem dX2_come_39 : decode cX2_come 39 = .ok (.istore_n 3, 1) := by decide +kernel
theorem dX2_come_40 : decode cX2_come 40 = .ok (.aload_n 0, 1) := by decide +kernel
theorem dX2_come_41 : decode cX2_come 41 = .ok (.getfield 9, 3) := by decide +kernel
theorem dX2_come_44 : decode cX2_come 44 = .ok (.iload_n 1, 1) := by decide +kernel
theorem dX2_come_45 : decode cX2_come 45 = .ok (.dup2, 1) := by decide +kernel
theorem dX2_come_46 : decode cX2_come 46 = .ok (.iaload, 1) := by decide +kernel
theorem dX2_come_47 : decode cX2_come 47 = .ok (.iconst 1, 1) := by decide +kernel
theorem dX2_come_48 : decode cX2_come 48 = .ok (.iload_n 2, 1) := by decide +kernel
theorem dX2_come_49 : decode cX2_come 49 = .ok (.ishl, 1) := by decide +kernel
theorem dX2_come_50 : decode cX2_come 50 = .ok (.ior, 1) := by decide +kernel
theorem dX2_come_51 : decode cX2_come 51 = .ok (.iastore, 1) := by decide +kernel
theorem dX2_come_52 : decode cX2_come 52 = .ok (.iload_n 3, 1) := by decide +kernel
theorem dX2_come_53 : decode cX2_come 53 = .ok (.ireturn, 1) := by decide +kernel
theorem dX2_mend_0 : decode cX2_mend 0 = .ok (.aload_n 0, 1) := by decide +kernel
theorem dX2_mend_1 : decode cX2_mend 1 = .ok (.iload_n 1, 1) := by decide +kernel
theorem dX2_mend_2 : decode cX2_mend 2 = .ok (.iload_n 3, 1) := by decide +kernel
theorem dX2_mend_3 : decode cX2_mend 3 = .ok (.iload 4, 2) := by decide +kernel
theorem dX2_mend_5 : decode cX2_mend 5 = .ok (.iconst 0, 1) := by decide +kernel
theorem dX2_mend_6 : decode cX2_mend 6 = .ok (.invokevirtual 77, 3) := by decide +kernel
theorem dX2_mend_9 : decode cX2_mend 9 = .ok (.istore 5, 2) := by decide +kernel
theorem dX2_mend_11 : decode cX2_mend 11 = .ok (.aload_n 0, 1) := by decide +kernel
theorem dX2_mend_12 : decode cX2_mend 12 = .ok (.iload_n 2, 1) := by decide +kernel
theorem dX2_mend_13 : decode cX2_mend 13 = .ok (.iload_n 3, 1) := by decide +kernel
theorem dX2_mend_14 : decode cX2_mend 14 = .ok (.iload 4, 2) := by decide +kernel
theorem dX2_mend_16 : decode cX2_mend 16 = .ok (.iload 5, 2) := by decide +kernel
theorem dX2_mend_18 : decode cX2_mend 18 = .ok (.invokevirtual 77, 3) := by decide +kernel
theorem dX2_mend_21 : decode cX2_mend 21 = .ok (.istore 5, 2) := by decide +kernel
theorem dX2_mend_23 : decode cX2_mend 23 = .ok (.iconst 0, 1) := by decide +kernel
theorem dX2_mend_24 : decode cX2_mend 24 = .ok (.istore 6, 2) := by decide +kernel
theorem dX2_mend_26 : decode cX2_mend 26 = .ok (.iconst 0, 1) := by decide +kernel
theorem dX2_mend_27 : decode cX2_mend 27 = .ok (.istore 7, 2) := by decide +kernel
theorem dX2_mend_29 : decode cX2_mend 29 = .ok (.iload_n 3, 1) := by decide +kernel
theorem dX2_mend_30 : decode cX2_mend 30 = .ok (.istore 8, 2) := by decide +kernel
theorem dX2_mend_32 : decode cX2_mend 32 = .ok (.iload 8, 2) := by decide +kernel
theorem dX2_mend_34 : decode cX2_mend 34 = .ok (.iload 4, 2) := by decide +kernel
theorem dX2_mend_36 : decode cX2_mend 36 = .ok (.if_icmp .gt 69, 3) := by decide +kernel
theorem dX2_mend_39 : decode cX2_mend 39 = .ok (.iload 7, 2) := by decide +kernel
theorem dX2_mend_41 : decode cX2_mend 41 = .ok (.iload 5, 2) := by decide +kernel
theorem dX2_mend_43 : decode cX2_mend 43 = .ok (.if_icmp .ge 62, 3) := by decide +kernel
theorem dX2_mend_46 : decode cX2_mend 46 = .ok (.iload_n 1, 1) := by decide +kernel
theorem dX2_mend_47 : decode cX2_mend 47 = .ok (.iload_n 2, 1) := by decide +kernel
theorem dX2_mend_48 : decode cX2_mend 48 = .ok (.ior, 1) := by decide +kernel
theorem dX2_mend_49 : decode cX2_mend 49 = .ok (.aload_n 0, 1) := by decide +kernel
theorem dX2_mend_50 : decode cX2_mend 50 = .ok (.getfield 15, 3) := by decide +kernel
theorem dX2_mend_53 : decode cX2_mend 53 = .ok (.iload 8, 2) := by decide +kernel
theorem dX2_mend_55 : decode cX2_mend 55 = .ok (.iaload, 1) := by decide +kernel
theorem dX2_mend_56 : decode cX2_mend 56 = .ok (.ishr, 1) := by decide +kernel
theorem dX2_mend_57 : decode cX2_mend 57 = .ok (.iconst 1, 1) := by decide +kernel
theorem dX2_mend_58 : decode cX2_mend 58 = .ok (.iand, 1) := by decide +kernel
theorem dX2_mend_59 : decode cX2_mend 59 = .ok (.ifCond .eq 40, 3) := by decide +kernel
theorem dX2_mend_62 : decode cX2_mend 62 = .ok (.aload_n 0, 1) := by decide +kernel
theorem dX2_mend_63 : decode cX2_mend 63 = .ok (.getfield 15, 3) := by decide +kernel
theorem dX2_mend_66 : decode cX2_mend 66 = .ok (.iload 8, 2) := by decide +kernel
theorem dX2_mend_68 : decode cX2_mend 68 = .ok (.iaload, 1) := by decide +kernel
theorem dX2_mend_69 : decode cX2_mend 69 = .ok (.aload_n 0, 1) := by decide +kernel
theorem dX2_mend_70 : decode cX2_mend 70 = .ok (.getfield 28, 3) := by decide +kernel
theorem dX2_mend_73 : decode cX2_mend 73 = .ok (.iload 7, 2) := by decide +kernel
theorem dX2_mend_75 : decode cX2_mend 75 = .ok (.iaload, 1) := by decide +kernel
theorem dX2_mend_76 : decode cX2_mend 76 = .ok (.if_icmp .eq 6, 3) := by decide +kernel
theorem dX2_mend_79 : decode cX2_mend 79 = .ok (.iinc 6 1, 3) := by decide +kernel
theorem dX2_mend_82 : decode cX2_mend 82 = .ok (.aload_n 0, 1) := by decide +kernel
theorem dX2_mend_83 : decode cX2_mend 83 = .ok (.getfield 15, 3) := by decide +kernel
theorem dX2_mend_86 : decode cX2_mend 86 = .ok (.iload 8, 2) := by decide +kernel
theorem dX2_mend_88 : decode cX2_mend 88 = .ok (.aload_n 0, 1) := by decide +kernel
theorem dX2_mend_89 : decode cX2_mend 89 = .ok (.getfield 28, 3) := by decide +kernel
theorem dX2_mend_92 : decode cX2_mend 92 = .ok (.iload 7, 2) := by decide +kernel
theorem dX2_mend_94 : decode cX2_mend 94 = .ok (.iaload, 1) := by decide +kernel
theorem dX2_mend_95 : decode cX2_mend 95 = .ok (.iastore, 1) := by decide +kernel
theorem dX2_mend_96 : decode cX2_mend 96 = .ok (.iinc 7 1, 3) := by decide +kernel
theorem dX2_mend_99 : decode cX2_mend 99 = .ok (.iinc 8 1, 3) := by decide +kernel
theorem dX2_mend_102 : decode cX2_mend 102 = .ok (.goto (-70), 3) := by decide +kernel
theorem dX2_mend_105 : decode cX2_mend 105 = .ok (.iload 6, 2) := by decide +kernel
theorem dX2_mend_107 : decode cX2_mend 107 = .ok (.ireturn, 1) := by decide +kernel
theorem dX2_gather_0 : decode cX2_gather 0 = .ok (.iload 4, 2) := by decide +kernel
theorem dX2_gather_2 : decode cX2_gather 2 = .ok (.istore 5, 2) := by decide +kernel
theorem dX2_gather_4 : decode cX2_gather 4 = .ok (.iload_n 2, 1) := by decide +kernel
theorem dX2_gather_5 : decode cX2_gather 5 = .ok (.istore 6, 2) := by decide +kernel
theorem dX2_gather_7 : decode cX2_gather 7 = .ok (.iload 6, 2) := by decide +kernel
theorem dX2_gather_9 : decode cX2_gather 9 = .ok (.iload_n 3, 1) := by decide +kernel
theorem dX2_gather_10 : decode cX2_gather 10 = .ok (.if_icmp .gt 47, 3) := by decide +kernel
theorem dX2_gather_13 : decode cX2_gather 13 = .ok (.iload_n 1, 1) := by decide +kernel
theorem dX2_gather_14 : decode cX2_gather 14 = .ok (.aload_n 0, 1) := by decide +kernel
theorem dX2_gather_15 : decode cX2_gather 15 = .ok (.getfield 15, 3) := by decide +kernel
theorem dX2_gather_18 : decode cX2_gather 18 = .ok (.iload 6, 2) := by decide +kernel
theorem dX2_gather_20 : decode cX2_gather 20 = .ok (.iaload, 1) := by decide +kernel
theorem dX2_gather_21 : decode cX2_gather 21 = .ok (.ishr, 1) := by decide +kernel
theorem dX2_gather_22 : decode cX2_gather 22 = .ok (.iconst 1, 1) := by decide +kernel
theorem dX2_gather_23 : decode cX2_gather 23 = .ok (.iand, 1) := by decide +kernel
theorem dX2_gather_24 : decode cX2_gather 24 = .ok (.ifCond .eq 27, 3) := by decide +kernel
theorem dX2_gather_27 : decode cX2_gather 27 = .ok (.iload 5, 2) := by decide +kernel
theorem dX2_gather_29 : decode cX2_gather 29 = .ok (.bipush 24, 2) := by decide +kernel
theorem dX2_gather_31 : decode cX2_gather 31 = .ok (.if_icmp .ge 20, 3) := by decide +kernel
theorem dX2_gather_34 : decode cX2_gather 34 = .ok (.aload_n 0, 1) := by decide +kernel
theorem dX2_gather_35 : decode cX2_gather 35 = .ok (.getfield 28, 3) := by decide +kernel
theorem dX2_gather_38 : decode cX2_gather 38 = .ok (.iload 5, 2) := by decide +kernel
theorem dX2_gather_40 : decode cX2_gather 40 = .ok (.aload_n 0, 1) := by decide +kernel
theorem dX2_gather_41 : decode cX2_gather 41 = .ok (.getfield 15, 3) := by decide +kernel
theorem dX2_gather_44 : decode cX2_gather 44 = .ok (.iload 6, 2) := by decide +kernel
theorem dX2_gather_46 : decode cX2_gather 46 = .ok (.iaload, 1) := by decide +kernel
theorem dX2_gather_47 : decode cX2_gather 47 = .ok (.iastore, 1) := by decide +kernel
theorem dX2_gather_48 : decode cX2_gather 48 = .ok (.iinc 5 1, 3) := by decide +kernel
theorem dX2_gather_51 : decode cX2_gather 51 = .ok (.iinc 6 1, 3) := by decide +kernel
theorem dX2_gather_54 : decode cX2_gather 54 = .ok (.goto (-47), 3) := by decide +kernel
theorem dX2_gather_57 : decode cX2_gather 57 = .ok (.iload 5, 2) := by decide +kernel
theorem dX2_gather_59 : decode cX2_gather 59 = .ok (.ireturn, 1) := by decide +kernel
theorem dX2_comeToAll_0 : decode cX2_comeToAll 0 = .ok (.iconst 0, 1) := by decide +kernel
theorem dX2_comeToAll_1 : decode cX2_comeToAll 1 = .ok (.istore_n 3, 1) := by decide +kernel
theorem dX2_comeToAll_2 : decode cX2_comeToAll 2 = .ok (.iload_n 3, 1) := by decide +kernel
theorem dX2_comeToAll_3 : decode cX2_comeToAll 3 = .ok (.bipush 24, 2) := by decide +kernel
theorem dX2_comeToAll_5 : decode cX2_comeToAll 5 = .ok (.if_icmp .ge 33, 3) := by decide +kernel
theorem dX2_comeToAll_8 : decode cX2_comeToAll 8 = .ok (.iload_n 2, 1) := by decide +kernel
theorem dX2_comeToAll_9 : decode cX2_comeToAll 9 = .ok (.aload_n 0, 1) := by decide +kernel
theorem dX2_comeToAll_10 : decode cX2_comeToAll 10 = .ok (.getfield 9, 3) := by decide +kernel
theorem dX2_comeToAll_13 : decode cX2_comeToAll 13 = .ok (.iload_n 1, 1) := by decide +kernel
theorem dX2_comeToAll_14 : decode cX2_comeToAll 14 = .ok (.iaload, 1) := by decide +kernel
theorem dX2_comeToAll_15 : decode cX2_comeToAll 15 = .ok (.iconst (-1), 1) := by decide +kernel
theorem dX2_comeToAll_16 : decode cX2_comeToAll 16 = .ok (.ixor, 1) := by decide +kernel
theorem dX2_comeToAll_17 : decode cX2_comeToAll 17 = .ok (.iand, 1) := by decide +kernel
theorem dX2_comeToAll_18 : decode cX2_comeToAll 18 = .ok (.iload_n 3, 1) := by decide +kernel
theorem dX2_comeToAll_19 : decode cX2_comeToAll 19 = .ok (.invokestatic 47, 3) := by decide +kernel
theorem dX2_comeToAll_22 : decode cX2_comeToAll 22 = .ok (.ifCond .eq 10, 3) := by decide +kernel
theorem dX2_comeToAll_25 : decode cX2_comeToAll 25 = .ok (.aload_n 0, 1) := by decide +kernel
theorem dX2_comeToAll_26 : decode cX2_comeToAll 26 = .ok (.iload_n 1, 1) := by decide +kernel
theorem dX2_comeToAll_27 : decode cX2_comeToAll 27 = .ok (.iload_n 3, 1) := by decide +kernel
theorem dX2_comeToAll_28 : decode cX2_comeToAll 28 = .ok (.invokevirtual 80, 3) := by decide +kernel
theorem dX2_comeToAll_31 : decode cX2_comeToAll 31 = .ok (.pop, 1) := by decide +kernel
theorem dX2_comeToAll_32 : decode cX2_comeToAll 32 = .ok (.iinc 3 1, 3) := by decide +kernel
theorem dX2_comeToAll_35 : decode cX2_comeToAll 35 = .ok (.goto (-33), 3) := by decide +kernel
theorem dX2_comeToAll_38 : decode cX2_comeToAll 38 = .ok (.return_, 1) := by decide +kernel
theorem dX2_placesUnlike_0 : decode cX2_placesUnlike 0 = .ok (.iconst 0, 1) := by decide +kernel
theorem dX2_placesUnlike_1 : decode cX2_placesUnlike 1 = .ok (.istore_n 2, 1) := by decide +kernel
theorem dX2_placesUnlike_2 : decode cX2_placesUnlike 2 = .ok (.iconst 0, 1) := by decide +kernel
theorem dX2_placesUnlike_3 : decode cX2_placesUnlike 3 = .ok (.istore_n 3, 1) := by decide +kernel
theorem dX2_placesUnlike_4 : decode cX2_placesUnlike 4 = .ok (.iload_n 3, 1) := by decide +kernel
theorem dX2_placesUnlike_5 : decode cX2_placesUnlike 5 = .ok (.aload_n 0, 1) := by decide +kernel
theorem dX2_placesUnlike_6 : decode cX2_placesUnlike 6 = .ok (.getfield 41, 3) := by decide +kernel
theorem dX2_placesUnlike_9 : decode cX2_placesUnlike 9 = .ok (.if_icmp .ge 27, 3) := by decide +kernel
theorem dX2_placesUnlike_12 : decode cX2_placesUnlike 12 = .ok (.aload_n 0, 1) := by decide +kernel
theorem dX2_placesUnlike_13 : decode cX2_placesUnlike 13 = .ok (.getfield 15, 3) := by decide +kernel
theorem dX2_placesUnlike_16 : decode cX2_placesUnlike 16 = .ok (.iload_n 3, 1) := by decide +kernel
theorem dX2_placesUnlike_17 : decode cX2_placesUnlike 17 = .ok (.iaload, 1) := by decide +kernel
theorem dX2_placesUnlike_18 : decode cX2_placesUnlike 18 = .ok (.aload_n 1, 1) := by decide +kernel
theorem dX2_placesUnlike_19 : decode cX2_placesUnlike 19 = .ok (.getfield 15, 3) := by decide +kernel
theorem dX2_placesUnlike_22 : decode cX2_placesUnlike 22 = .ok (.iload_n 3, 1) := by decide +kernel
theorem dX2_placesUnlike_23 : decode cX2_placesUnlike 23 = .ok (.iaload, 1) := by decide +kernel
theorem dX2_placesUnlike_24 : decode cX2_placesUnlike 24 = .ok (.if_icmp .eq 6, 3) := by decide +kernel
theorem dX2_placesUnlike_27 : decode cX2_placesUnlike 27 = .ok (.iinc 2 1, 3) := by decide +kernel
theorem dX2_placesUnlike_30 : decode cX2_placesUnlike 30 = .ok (.iinc 3 1, 3) := by decide +kernel
theorem dX2_placesUnlike_33 : decode cX2_placesUnlike 33 = .ok (.goto (-29), 3) := by decide +kernel
theorem dX2_placesUnlike_36 : decode cX2_placesUnlike 36 = .ok (.iload_n 2, 1) := by decide +kernel
theorem dX2_placesUnlike_37 : decode cX2_placesUnlike 37 = .ok (.ireturn, 1) := by decide +kernel
theorem dX2_linkCount_0 : decode cX2_linkCount 0 = .ok (.aload_n 0, 1) := by decide +kernel
theorem dX2_linkCount_1 : decode cX2_linkCount 1 = .ok (.aload_n 0, 1) := by decide +kernel
theorem dX2_linkCount_2 : decode cX2_linkCount 2 = .ok (.getfield 37, 3) := by decide +kernel
theorem dX2_linkCount_5 : decode cX2_linkCount 5 = .ok (.invokevirtual 84, 3) := by decide +kernel
theorem dX2_linkCount_8 : decode cX2_linkCount 8 = .ok (.ireturn, 1) := by decide +kernel
theorem dX2_linksAmong_0 : decode cX2_linksAmong 0 = .ok (.iconst 0, 1) := by decide +kernel
theorem dX2_linksAmong_1 : decode cX2_linksAmong 1 = .ok (.istore_n 2, 1) := by decide +kernel
theorem dX2_linksAmong_2 : decode cX2_linksAmong 2 = .ok (.iconst 0, 1) := by decide +kernel
theorem dX2_linksAmong_3 : decode cX2_linksAmong 3 = .ok (.istore_n 3, 1) := by decide +kernel
theorem dX2_linksAmong_4 : decode cX2_linksAmong 4 = .ok (.iload_n 3, 1) := by decide +kernel
theorem dX2_linksAmong_5 : decode cX2_linksAmong 5 = .ok (.bipush 24, 2) := by decide +kernel
theorem dX2_linksAmong_7 : decode cX2_linksAmong 7 = .ok (.if_icmp .ge 31, 3) := by decide +kernel
theorem dX2_linksAmong_10 : decode cX2_linksAmong 10 = .ok (.iload_n 1, 1) := by decide +kernel
theorem dX2_linksAmong_11 : decode cX2_linksAmong 11 = .ok (.iload_n 3, 1) := by decide +kernel
theorem dX2_linksAmong_12 : decode cX2_linksAmong 12 = .ok (.invokestatic 47, 3) := by decide +kernel
theorem dX2_linksAmong_15 : decode cX2_linksAmong 15 = .ok (.ifCond .eq 17, 3) := by decide +kernel
theorem dX2_linksAmong_18 : decode cX2_linksAmong 18 = .ok (.iload_n 2, 1) := by decide +kernel
theorem dX2_linksAmong_19 : decode cX2_linksAmong 19 = .ok (.aload_n 0, 1) := by decide +kernel
theorem dX2_linksAmong_20 : decode cX2_linksAmong 20 = .ok (.getfield 9, 3) := by decide +kernel
theorem dX2_linksAmong_23 : decode cX2_linksAmong 23 = .ok (.iload_n 3, 1) := by decide +kernel
theorem dX2_linksAmong_24 : decode cX2_linksAmong 24 = .ok (.iaload, 1) := by decide +kernel
theorem dX2_linksAmong_25 : decode cX2_linksAmong 25 = .ok (.iload_n 1, 1) := by decide +kernel
theorem dX2_linksAmong_26 : decode cX2_linksAmong 26 = .ok (.iand, 1) := by decide +kernel
theorem dX2_linksAmong_27 : decode cX2_linksAmong 27 = .ok (.invokestatic 87, 3) := by decide +kernel
theorem dX2_linksAmong_30 : decode cX2_linksAmong 30 = .ok (.iadd, 1) := by decide +kernel
theorem dX2_linksAmong_31 : decode cX2_linksAmong 31 = .ok (.istore_n 2, 1) := by decide +kernel
theorem dX2_linksAmong_32 : decode cX2_linksAmong 32 = .ok (.iinc 3 1, 3) := by decide +kernel
theorem dX2_linksAmong_35 : decode cX2_linksAmong 35 = .ok (.goto (-31), 3) := by decide +kernel
theorem dX2_linksAmong_38 : decode cX2_linksAmong 38 = .ok (.iload_n 2, 1) := by decide +kernel
theorem dX2_linksAmong_39 : decode cX2_linksAmong 39 = .ok (.ireturn, 1) := by decide +kernel
theorem dX2_broaderOf_0 : decode cX2_broaderOf 0 = .ok (.iconst 0, 1) := by decide +kernel
theorem dX2_broaderOf_1 : decode cX2_broaderOf 1 = .ok (.istore_n 2, 1) := by decide +kernel
theorem dX2_broaderOf_2 : decode cX2_broaderOf 2 = .ok (.iconst 0, 1) := by decide +kernel
theorem dX2_broaderOf_3 : decode cX2_broaderOf 3 = .ok (.istore_n 3, 1) := by decide +kernel
theorem dX2_broaderOf_4 : decode cX2_broaderOf 4 = .ok (.iload_n 3, 1) := by decide +kernel
theorem dX2_broaderOf_5 : decode cX2_broaderOf 5 = .ok (.bipush 24, 2) := by decide +kernel
theorem dX2_broaderOf_7 : decode cX2_broaderOf 7 = .ok (.if_icmp .ge 28, 3) := by decide +kernel
theorem dX2_broaderOf_10 : decode cX2_broaderOf 10 = .ok (.aload_n 0, 1) := by decide +kernel
theorem dX2_broaderOf_11 : decode cX2_broaderOf 11 = .ok (.getfield 9, 3) := by decide +kernel
theorem dX2_broaderOf_14 : decode cX2_broaderOf 14 = .ok (.iload_n 3, 1) := by decide +kernel
theorem dX2_broaderOf_15 : decode cX2_broaderOf 15 = .ok (.iaload, 1) := by decide +kernel
theorem dX2_broaderOf_16 : decode cX2_broaderOf 16 = .ok (.iload_n 1, 1) := by decide +kernel
theorem dX2_broaderOf_17 : decode cX2_broaderOf 17 = .ok (.invokestatic 47, 3) := by decide +kernel
theorem dX2_broaderOf_20 : decode cX2_broaderOf 20 = .ok (.ifCond .eq 9, 3) := by decide +kernel
theorem dX2_broaderOf_23 : decode cX2_broaderOf 23 = .ok (.iload_n 2, 1) := by decide +kernel
theorem dX2_broaderOf_24 : decode cX2_broaderOf 24 = .ok (.iconst 1, 1) := by decide +kernel
theorem dX2_broaderOf_25 : decode cX2_broaderOf 25 = .ok (.iload_n 3, 1) := by decide +kernel
theorem dX2_broaderOf_26 : decode cX2_broaderOf 26 = .ok (.ishl, 1) := by decide +kernel
theorem dX2_broaderOf_27 : decode cX2_broaderOf 27 = .ok (.ior, 1) := by decide +kernel
theorem dX2_broaderOf_28 : decode cX2_broaderOf 28 = .ok (.istore_n 2, 1) := by decide +kernel
theorem dX2_broaderOf_29 : decode cX2_broaderOf 29 = .ok (.iinc 3 1, 3) := by decide +kernel
theorem dX2_broaderOf_32 : decode cX2_broaderOf 32 = .ok (.goto (-28), 3) := by decide +kernel
theorem dX2_broaderOf_35 : decode cX2_broaderOf 35 = .ok (.iload_n 2, 1) := by decide +kernel
theorem dX2_broaderOf_36 : decode cX2_broaderOf 36 = .ok (.ireturn, 1) := by decide +kernel
theorem dX2_below_0 : decode cX2_below 0 = .ok (.iconst 1, 1) := by decide +kernel
theorem dX2_below_1 : decode cX2_below 1 = .ok (.iload_n 1, 1) := by decide +kernel
theorem dX2_below_2 : decode cX2_below 2 = .ok (.ishl, 1) := by decide +kernel
theorem dX2_below_3 : decode cX2_below 3 = .ok (.istore_n 2, 1) := by decide +kernel
theorem dX2_below_4 : decode cX2_below 4 = .ok (.iconst 0, 1) := by decide +kernel
theorem dX2_below_5 : decode cX2_below 5 = .ok (.istore_n 3, 1) := by decide +kernel
theorem dX2_below_6 : decode cX2_below 6 = .ok (.iload_n 3, 1) := by decide +kernel
theorem dX2_below_7 : decode cX2_below 7 = .ok (.aload_n 0, 1) := by decide +kernel
theorem dX2_below_8 : decode cX2_below 8 = .ok (.getfield 41, 3) := by decide +kernel
theorem dX2_below_11 : decode cX2_below 11 = .ok (.if_icmp .ge 36, 3) := by decide +kernel
theorem dX2_below_14 : decode cX2_below 14 = .ok (.iload_n 2, 1) := by decide +kernel
theorem dX2_below_15 : decode cX2_below 15 = .ok (.aload_n 0, 1) := by decide +kernel
theorem dX2_below_16 : decode cX2_below 16 = .ok (.getfield 15, 3) := by decide +kernel
theorem dX2_below_19 : decode cX2_below 19 = .ok (.iload_n 3, 1) := by decide +kernel
theorem dX2_below_20 : decode cX2_below 20 = .ok (.iaload, 1) := by decide +kernel
theorem dX2_below_21 : decode cX2_below 21 = .ok (.invokestatic 47, 3) := by decide +kernel
theorem dX2_below_24 : decode cX2_below 24 = .ok (.ifCond .eq 17, 3) := by decide +kernel
theorem dX2_below_27 : decode cX2_below 27 = .ok (.iload_n 2, 1) := by decide +kernel
theorem dX2_below_28 : decode cX2_below 28 = .ok (.aload_n 0, 1) := by decide +kernel
theorem dX2_below_29 : decode cX2_below 29 = .ok (.getfield 9, 3) := by decide +kernel
theorem dX2_below_32 : decode cX2_below 32 = .ok (.aload_n 0, 1) := by decide +kernel
theorem dX2_below_33 : decode cX2_below 33 = .ok (.getfield 15, 3) := by decide +kernel
theorem dX2_below_36 : decode cX2_below 36 = .ok (.iload_n 3, 1) := by decide +kernel
theorem dX2_below_37 : decode cX2_below 37 = .ok (.iaload, 1) := by decide +kernel
theorem dX2_below_38 : decode cX2_below 38 = .ok (.iaload, 1) := by decide +kernel
theorem dX2_below_39 : decode cX2_below 39 = .ok (.ior, 1) := by decide +kernel
theorem dX2_below_40 : decode cX2_below 40 = .ok (.istore_n 2, 1) := by decide +kernel
theorem dX2_below_41 : decode cX2_below 41 = .ok (.iinc 3 1, 3) := by decide +kernel
theorem dX2_below_44 : decode cX2_below 44 = .ok (.goto (-38), 3) := by decide +kernel
theorem dX2_below_47 : decode cX2_below 47 = .ok (.iload_n 2, 1) := by decide +kernel
theorem dX2_below_48 : decode cX2_below 48 = .ok (.ireturn, 1) := by decide +kernel
theorem dX2_above_0 : decode cX2_above 0 = .ok (.iconst 1, 1) := by decide +kernel
theorem dX2_above_1 : decode cX2_above 1 = .ok (.iload_n 1, 1) := by decide +kernel
theorem dX2_above_2 : decode cX2_above 2 = .ok (.ishl, 1) := by decide +kernel
theorem dX2_above_3 : decode cX2_above 3 = .ok (.istore_n 2, 1) := by decide +kernel
theorem dX2_above_4 : decode cX2_above 4 = .ok (.aload_n 0, 1) := by decide +kernel
theorem dX2_above_5 : decode cX2_above 5 = .ok (.getfield 41, 3) := by decide +kernel
theorem dX2_above_8 : decode cX2_above 8 = .ok (.iconst 1, 1) := by decide +kernel
theorem dX2_above_9 : decode cX2_above 9 = .ok (.isub, 1) := by decide +kernel
theorem dX2_above_10 : decode cX2_above 10 = .ok (.istore_n 3, 1) := by decide +kernel
theorem dX2_above_11 : decode cX2_above 11 = .ok (.iload_n 3, 1) := by decide +kernel
theorem dX2_above_12 : decode cX2_above 12 = .ok (.ifCond .lt 36, 3) := by decide +kernel
theorem dX2_above_15 : decode cX2_above 15 = .ok (.aload_n 0, 1) := by decide +kernel
theorem dX2_above_16 : decode cX2_above 16 = .ok (.getfield 9, 3) := by decide +kernel
theorem dX2_above_19 : decode cX2_above 19 = .ok (.aload_n 0, 1) := by decide +kernel
theorem dX2_above_20 : decode cX2_above 20 = .ok (.getfield 15, 3) := by decide +kernel
theorem dX2_above_23 : decode cX2_above 23 = .ok (.iload_n 3, 1) := by decide +kernel
theorem dX2_above_24 : decode cX2_above 24 = .ok (.iaload, 1) := by decide +kernel
theorem dX2_above_25 : decode cX2_above 25 = .ok (.iaload, 1) := by decide +kernel
theorem dX2_above_26 : decode cX2_above 26 = .ok (.iload_n 2, 1) := by decide +kernel
theorem dX2_above_27 : decode cX2_above 27 = .ok (.iand, 1) := by decide +kernel
theorem dX2_above_28 : decode cX2_above 28 = .ok (.ifCond .eq 14, 3) := by decide +kernel
theorem dX2_above_31 : decode cX2_above 31 = .ok (.iload_n 2, 1) := by decide +kernel
theorem dX2_above_32 : decode cX2_above 32 = .ok (.iconst 1, 1) := by decide +kernel
theorem dX2_above_33 : decode cX2_above 33 = .ok (.aload_n 0, 1) := by decide +kernel
theorem dX2_above_34 : decode cX2_above 34 = .ok (.getfield 15, 3) := by decide +kernel
theorem dX2_above_37 : decode cX2_above 37 = .ok (.iload_n 3, 1) := by decide +kernel
theorem dX2_above_38 : decode cX2_above 38 = .ok (.iaload, 1) := by decide +kernel
theorem dX2_above_39 : decode cX2_above 39 = .ok (.ishl, 1) := by decide +kernel
theorem dX2_above_40 : decode cX2_above 40 = .ok (.ior, 1) := by decide +kernel
theorem dX2_above_41 : decode cX2_above 41 = .ok (.istore_n 2, 1) := by decide +kernel
theorem dX2_above_42 : decode cX2_above 42 = .ok (.iinc 3 (-1), 3) := by decide +kernel
theorem dX2_above_45 : decode cX2_above 45 = .ok (.goto (-34), 3) := by decide +kernel
theorem dX2_above_48 : decode cX2_above 48 = .ok (.iload_n 2, 1) := by decide +kernel
theorem dX2_above_49 : decode cX2_above 49 = .ok (.ireturn, 1) := by decide +kernel
theorem dX2_withOthersBelow_0 : decode cX2_withOthersBelow 0 = .ok (.iconst 0, 1) := by decide +kernel
theorem dX2_withOthersBelow_1 : decode cX2_withOthersBelow 1 = .ok (.istore_n 2, 1) := by decide +kernel
theorem dX2_withOthersBelow_2 : decode cX2_withOthersBelow 2 = .ok (.iconst 0, 1) := by decide +kernel
theorem dX2_withOthersBelow_3 : decode cX2_withOthersBelow 3 = .ok (.istore_n 3, 1) := by decide +kernel
theorem dX2_withOthersBelow_4 : decode cX2_withOthersBelow 4 = .ok (.iload_n 3, 1) := by decide +kernel
theorem dX2_withOthersBelow_5 : decode cX2_withOthersBelow 5 = .ok (.bipush 24, 2) := by decide +kernel
theorem dX2_withOthersBelow_7 : decode cX2_withOthersBelow 7 = .ok (.if_icmp .ge 39, 3) := by decide +kernel
theorem dX2_withOthersBelow_10 : decode cX2_withOthersBelow 10 = .ok (.iload_n 1, 1) := by decide +kernel
theorem dX2_withOthersBelow_11 : decode cX2_withOthersBelow 11 = .ok (.iload_n 3, 1) := by decide +kernel
theorem dX2_withOthersBelow_12 : decode cX2_withOthersBelow 12 = .ok (.invokestatic 47, 3) := by decide +kernel
theorem dX2_withOthersBelow_15 : decode cX2_withOthersBelow 15 = .ok (.ifCond .eq 25, 3) := by decide +kernel
theorem dX2_withOthersBelow_18 : decode cX2_withOthersBelow 18 = .ok (.aload_n 0, 1) := by decide +kernel
theorem dX2_withOthersBelow_19 : decode cX2_withOthersBelow 19 = .ok (.iload_n 3, 1) := by decide +kernel
theorem dX2_withOthersBelow_20 : decode cX2_withOthersBelow 20 = .ok (.invokevirtual 70, 3) := by decide +kernel
theorem dX2_withOthersBelow_23 : decode cX2_withOthersBelow 23 = .ok (.iload_n 1, 1) := by decide +kernel
theorem dX2_withOthersBelow_24 : decode cX2_withOthersBelow 24 = .ok (.iand, 1) := by decide +kernel
theorem dX2_withOthersBelow_25 : decode cX2_withOthersBelow 25 = .ok (.iconst 1, 1) := by decide +kernel
theorem dX2_withOthersBelow_26 : decode cX2_withOthersBelow 26 = .ok (.iload_n 3, 1) := by decide +kernel
theorem dX2_withOthersBelow_27 : decode cX2_withOthersBelow 27 = .ok (.ishl, 1) := by decide +kernel
theorem dX2_withOthersBelow_28 : decode cX2_withOthersBelow 28 = .ok (.iconst (-1), 1) := by decide +kernel
theorem dX2_withOthersBelow_29 : decode cX2_withOthersBelow 29 = .ok (.ixor, 1) := by decide +kernel
theorem dX2_withOthersBelow_30 : decode cX2_withOthersBelow 30 = .ok (.iand, 1) := by decide +kernel
theorem dX2_withOthersBelow_31 : decode cX2_withOthersBelow 31 = .ok (.ifCond .eq 9, 3) := by decide +kernel
theorem dX2_withOthersBelow_34 : decode cX2_withOthersBelow 34 = .ok (.iload_n 2, 1) := by decide +kernel
theorem dX2_withOthersBelow_35 : decode cX2_withOthersBelow 35 = .ok (.iconst 1, 1) := by decide +kernel
theorem dX2_withOthersBelow_36 : decode cX2_withOthersBelow 36 = .ok (.iload_n 3, 1) := by decide +kernel
theorem dX2_withOthersBelow_37 : decode cX2_withOthersBelow 37 = .ok (.ishl, 1) := by decide +kernel
theorem dX2_withOthersBelow_38 : decode cX2_withOthersBelow 38 = .ok (.ior, 1) := by decide +kernel
theorem dX2_withOthersBelow_39 : decode cX2_withOthersBelow 39 = .ok (.istore_n 2, 1) := by decide +kernel
theorem dX2_withOthersBelow_40 : decode cX2_withOthersBelow 40 = .ok (.iinc 3 1, 3) := by decide +kernel
theorem dX2_withOthersBelow_43 : decode cX2_withOthersBelow 43 = .ok (.goto (-39), 3) := by decide +kernel
theorem dX2_withOthersBelow_46 : decode cX2_withOthersBelow 46 = .ok (.iload_n 2, 1) := by decide +kernel
theorem dX2_withOthersBelow_47 : decode cX2_withOthersBelow 47 = .ok (.ireturn, 1) := by decide +kernel
theorem dX2_withNeighbours_0 : decode cX2_withNeighbours 0 = .ok (.iload_n 1, 1) := by decide +kernel
theorem dX2_withNeighbours_1 : decode cX2_withNeighbours 1 = .ok (.istore_n 2, 1) := by decide +kernel
theorem dX2_withNeighbours_2 : decode cX2_withNeighbours 2 = .ok (.iconst 0, 1) := by decide +kernel
theorem dX2_withNeighbours_3 : decode cX2_withNeighbours 3 = .ok (.istore_n 3, 1) := by decide +kernel
theorem dX2_withNeighbours_4 : decode cX2_withNeighbours 4 = .ok (.iload_n 3, 1) := by decide +kernel
theorem dX2_withNeighbours_5 : decode cX2_withNeighbours 5 = .ok (.bipush 24, 2) := by decide +kernel
theorem dX2_withNeighbours_7 : decode cX2_withNeighbours 7 = .ok (.if_icmp .ge 43, 3) := by decide +kernel
theorem dX2_withNeighbours_10 : decode cX2_withNeighbours 10 = .ok (.iload_n 1, 1) := by decide +kernel
theorem dX2_withNeighbours_11 : decode cX2_withNeighbours 11 = .ok (.iload_n 3, 1) := by decide +kernel
theorem dX2_withNeighbours_12 : decode cX2_withNeighbours 12 = .ok (.invokestatic 47, 3) := by decide +kernel
theorem dX2_withNeighbours_15 : decode cX2_withNeighbours 15 = .ok (.ifCond .eq 12, 3) := by decide +kernel
theorem dX2_withNeighbours_18 : decode cX2_withNeighbours 18 = .ok (.iload_n 2, 1) := by decide +kernel
theorem dX2_withNeighbours_19 : decode cX2_withNeighbours 19 = .ok (.aload_n 0, 1) := by decide +kernel
theorem dX2_withNeighbours_20 : decode cX2_withNeighbours 20 = .ok (.getfield 9, 3) := by decide +kernel
theorem dX2_withNeighbours_23 : decode cX2_withNeighbours 23 = .ok (.iload_n 3, 1) := by decide +kernel
theorem dX2_withNeighbours_24 : decode cX2_withNeighbours 24 = .ok (.iaload, 1) := by decide +kernel
theorem dX2_withNeighbours_25 : decode cX2_withNeighbours 25 = .ok (.ior, 1) := by decide +kernel
theorem dX2_withNeighbours_26 : decode cX2_withNeighbours 26 = .ok (.istore_n 2, 1) := by decide +kernel
theorem dX2_withNeighbours_27 : decode cX2_withNeighbours 27 = .ok (.aload_n 0, 1) := by decide +kernel
theorem dX2_withNeighbours_28 : decode cX2_withNeighbours 28 = .ok (.getfield 9, 3) := by decide +kernel
theorem dX2_withNeighbours_31 : decode cX2_withNeighbours 31 = .ok (.iload_n 3, 1) := by decide +kernel
theorem dX2_withNeighbours_32 : decode cX2_withNeighbours 32 = .ok (.iaload, 1) := by decide +kernel
theorem dX2_withNeighbours_33 : decode cX2_withNeighbours 33 = .ok (.iload_n 1, 1) := by decide +kernel
theorem dX2_withNeighbours_34 : decode cX2_withNeighbours 34 = .ok (.iand, 1) := by decide +kernel
theorem dX2_withNeighbours_35 : decode cX2_withNeighbours 35 = .ok (.ifCond .eq 9, 3) := by decide +kernel
theorem dX2_withNeighbours_38 : decode cX2_withNeighbours 38 = .ok (.iload_n 2, 1) := by decide +kernel
theorem dX2_withNeighbours_39 : decode cX2_withNeighbours 39 = .ok (.iconst 1, 1) := by decide +kernel
theorem dX2_withNeighbours_40 : decode cX2_withNeighbours 40 = .ok (.iload_n 3, 1) := by decide +kernel
theorem dX2_withNeighbours_41 : decode cX2_withNeighbours 41 = .ok (.ishl, 1) := by decide +kernel
theorem dX2_withNeighbours_42 : decode cX2_withNeighbours 42 = .ok (.ior, 1) := by decide +kernel
theorem dX2_withNeighbours_43 : decode cX2_withNeighbours 43 = .ok (.istore_n 2, 1) := by decide +kernel
theorem dX2_withNeighbours_44 : decode cX2_withNeighbours 44 = .ok (.iinc 3 1, 3) := by decide +kernel
theorem dX2_withNeighbours_47 : decode cX2_withNeighbours 47 = .ok (.goto (-43), 3) := by decide +kernel
theorem dX2_withNeighbours_50 : decode cX2_withNeighbours 50 = .ok (.iload_n 2, 1) := by decide +kernel
theorem dX2_withNeighbours_51 : decode cX2_withNeighbours 51 = .ok (.ireturn, 1) := by decide +kernel
theorem dX2_needlessFrom_0 : decode cX2_needlessFrom 0 = .ok (.iconst 0, 1) := by decide +kernel
theorem dX2_needlessFrom_1 : decode cX2_needlessFrom 1 = .ok (.istore_n 2, 1) := by decide +kernel
theorem dX2_needlessFrom_2 : decode cX2_needlessFrom 2 = .ok (.iconst 0, 1) := by decide +kernel
theorem dX2_needlessFrom_3 : decode cX2_needlessFrom 3 = .ok (.istore_n 3, 1) := by decide +kernel
theorem dX2_needlessFrom_4 : decode cX2_needlessFrom 4 = .ok (.iload_n 3, 1) := by decide +kernel
theorem dX2_needlessFrom_5 : decode cX2_needlessFrom 5 = .ok (.bipush 24, 2) := by decide +kernel
theorem dX2_needlessFrom_7 : decode cX2_needlessFrom 7 = .ok (.if_icmp .ge 36, 3) := by decide +kernel
theorem dX2_needlessFrom_10 : decode cX2_needlessFrom 10 = .ok (.aload_n 0, 1) := by decide +kernel
theorem dX2_needlessFrom_11 : decode cX2_needlessFrom 11 = .ok (.getfield 9, 3) := by decide +kernel
theorem dX2_needlessFrom_14 : decode cX2_needlessFrom 14 = .ok (.iload_n 1, 1) := by decide +kernel
theorem dX2_needlessFrom_15 : decode cX2_needlessFrom 15 = .ok (.iaload, 1) := by decide +kernel
theorem dX2_needlessFrom_16 : decode cX2_needlessFrom 16 = .ok (.iload_n 3, 1) := by decide +kernel
theorem dX2_needlessFrom_17 : decode cX2_needlessFrom 17 = .ok (.invokestatic 47, 3) := by decide +kernel
theorem dX2_needlessFrom_20 : decode cX2_needlessFrom 20 = .ok (.ifCond .eq 17, 3) := by decide +kernel
theorem dX2_needlessFrom_23 : decode cX2_needlessFrom 23 = .ok (.iload_n 2, 1) := by decide +kernel
theorem dX2_needlessFrom_24 : decode cX2_needlessFrom 24 = .ok (.aload_n 0, 1) := by decide +kernel
theorem dX2_needlessFrom_25 : decode cX2_needlessFrom 25 = .ok (.iload_n 3, 1) := by decide +kernel
theorem dX2_needlessFrom_26 : decode cX2_needlessFrom 26 = .ok (.invokevirtual 70, 3) := by decide +kernel
theorem dX2_needlessFrom_29 : decode cX2_needlessFrom 29 = .ok (.iconst 1, 1) := by decide +kernel
theorem dX2_needlessFrom_30 : decode cX2_needlessFrom 30 = .ok (.iload_n 3, 1) := by decide +kernel
theorem dX2_needlessFrom_31 : decode cX2_needlessFrom 31 = .ok (.ishl, 1) := by decide +kernel
theorem dX2_needlessFrom_32 : decode cX2_needlessFrom 32 = .ok (.iconst (-1), 1) := by decide +kernel
theorem dX2_needlessFrom_33 : decode cX2_needlessFrom 33 = .ok (.ixor, 1) := by decide +kernel
theorem dX2_needlessFrom_34 : decode cX2_needlessFrom 34 = .ok (.iand, 1) := by decide +kernel
theorem dX2_needlessFrom_35 : decode cX2_needlessFrom 35 = .ok (.ior, 1) := by decide +kernel
theorem dX2_needlessFrom_36 : decode cX2_needlessFrom 36 = .ok (.istore_n 2, 1) := by decide +kernel
theorem dX2_needlessFrom_37 : decode cX2_needlessFrom 37 = .ok (.iinc 3 1, 3) := by decide +kernel
theorem dX2_needlessFrom_40 : decode cX2_needlessFrom 40 = .ok (.goto (-36), 3) := by decide +kernel
theorem dX2_needlessFrom_43 : decode cX2_needlessFrom 43 = .ok (.aload_n 0, 1) := by decide +kernel
theorem dX2_needlessFrom_44 : decode cX2_needlessFrom 44 = .ok (.getfield 9, 3) := by decide +kernel
theorem dX2_needlessFrom_47 : decode cX2_needlessFrom 47 = .ok (.iload_n 1, 1) := by decide +kernel
theorem dX2_needlessFrom_48 : decode cX2_needlessFrom 48 = .ok (.iaload, 1) := by decide +kernel
theorem dX2_needlessFrom_49 : decode cX2_needlessFrom 49 = .ok (.iload_n 2, 1) := by decide +kernel
theorem dX2_needlessFrom_50 : decode cX2_needlessFrom 50 = .ok (.iand, 1) := by decide +kernel
theorem dX2_needlessFrom_51 : decode cX2_needlessFrom 51 = .ok (.ireturn, 1) := by decide +kernel
theorem dX2_postings_0 : decode cX2_postings 0 = .ok (.iconst 0, 1) := by decide +kernel
theorem dX2_postings_1 : decode cX2_postings 1 = .ok (.istore_n 1, 1) := by decide +kernel
theorem dX2_postings_2 : decode cX2_postings 2 = .ok (.iconst 0, 1) := by decide +kernel
theorem dX2_postings_3 : decode cX2_postings 3 = .ok (.istore_n 2, 1) := by decide +kernel
theorem dX2_postings_4 : decode cX2_postings 4 = .ok (.iload_n 2, 1) := by decide +kernel
theorem dX2_postings_5 : decode cX2_postings 5 = .ok (.bipush 24, 2) := by decide +kernel
theorem dX2_postings_7 : decode cX2_postings 7 = .ok (.if_icmp .ge 21, 3) := by decide +kernel
theorem dX2_postings_10 : decode cX2_postings 10 = .ok (.iload_n 1, 1) := by decide +kernel
theorem dX2_postings_11 : decode cX2_postings 11 = .ok (.aload_n 0, 1) := by decide +kernel
theorem dX2_postings_12 : decode cX2_postings 12 = .ok (.getfield 18, 3) := by decide +kernel
theorem dX2_postings_15 : decode cX2_postings 15 = .ok (.iload_n 2, 1) := by decide +kernel
theorem dX2_postings_16 : decode cX2_postings 16 = .ok (.laload, 1) := by decide +kernel
theorem dX2_postings_17 : decode cX2_postings 17 = .ok (.invokestatic 92, 3) := by decide +kernel
theorem dX2_postings_20 : decode cX2_postings 20 = .ok (.iadd, 1) := by decide +kernel
theorem dX2_postings_21 : decode cX2_postings 21 = .ok (.istore_n 1, 1) := by decide +kernel
theorem dX2_postings_22 : decode cX2_postings 22 = .ok (.iinc 2 1, 3) := by decide +kernel
theorem dX2_postings_25 : decode cX2_postings 25 = .ok (.goto (-21), 3) := by decide +kernel
theorem dX2_postings_28 : decode cX2_postings 28 = .ok (.iload_n 1, 1) := by decide +kernel
theorem dX2_postings_29 : decode cX2_postings 29 = .ok (.ireturn, 1) := by decide +kernel
theorem dX2_searchOn_0 : decode cX2_searchOn 0 = .ok (.aload_n 0, 1) := by decide +kernel
theorem dX2_searchOn_1 : decode cX2_searchOn 1 = .ok (.iload_n 3, 1) := by decide +kernel
theorem dX2_searchOn_2 : decode cX2_searchOn 2 = .ok (.bipush 100, 2) := by decide +kernel
theorem dX2_searchOn_4 : decode cX2_searchOn 4 = .ok (.irem, 1) := by decide +kernel
theorem dX2_searchOn_5 : decode cX2_searchOn 5 = .ok (.iload_n 3, 1) := by decide +kernel
theorem dX2_searchOn_6 : decode cX2_searchOn 6 = .ok (.sipush 1000, 3) := by decide +kernel
theorem dX2_searchOn_9 : decode cX2_searchOn 9 = .ok (.idiv, 1) := by decide +kernel
theorem dX2_searchOn_10 : decode cX2_searchOn 10 = .ok (.iconst 1, 1) := by decide +kernel
theorem dX2_searchOn_11 : decode cX2_searchOn 11 = .ok (.if_icmp .ne 7, 3) := by decide +kernel
theorem dX2_searchOn_14 : decode cX2_searchOn 14 = .ok (.iconst 1, 1) := by decide +kernel
theorem dX2_searchOn_15 : decode cX2_searchOn 15 = .ok (.goto 4, 3) := by decide +kernel
theorem dX2_searchOn_18 : decode cX2_searchOn 18 = .ok (.iconst 0, 1) := by decide +kernel
theorem dX2_searchOn_19 : decode cX2_searchOn 19 = .ok (.invokevirtual 97, 3) := by decide +kernel
theorem dX2_searchOn_22 : decode cX2_searchOn 22 = .ok (.lstore 4, 2) := by decide +kernel
theorem dX2_searchOn_24 : decode cX2_searchOn 24 = .ok (.iload_n 3, 1) := by decide +kernel
theorem dX2_searchOn_25 : decode cX2_searchOn 25 = .ok (.bipush 100, 2) := by decide +kernel
theorem dX2_searchOn_27 : decode cX2_searchOn 27 = .ok (.idiv, 1) := by decide +kernel
theorem dX2_searchOn_28 : decode cX2_searchOn 28 = .ok (.bipush 10, 2) := by decide +kernel
theorem dX2_searchOn_30 : decode cX2_searchOn 30 = .ok (.irem, 1) := by decide +kernel
theorem dX2_searchOn_31 : decode cX2_searchOn 31 = .ok (.lookupswitch 39 #[(1, 25), (2, 30)], 25) := by decide +kernel
theorem dX2_searchOn_56 : decode cX2_searchOn 56 = .ok (.lload_n 1, 1) := by decide +kernel
theorem dX2_searchOn_57 : decode cX2_searchOn 57 = .ok (.lload 4, 2) := by decide +kernel
theorem dX2_searchOn_59 : decode cX2_searchOn 59 = .ok (.land, 1) := by decide +kernel
theorem dX2_searchOn_60 : decode cX2_searchOn 60 = .ok (.lreturn, 1) := by decide +kernel
theorem dX2_searchOn_61 : decode cX2_searchOn 61 = .ok (.lload_n 1, 1) := by decide +kernel
theorem dX2_searchOn_62 : decode cX2_searchOn 62 = .ok (.lload 4, 2) := by decide +kernel
theorem dX2_searchOn_64 : decode cX2_searchOn 64 = .ok (.ldc2_w 101, 3) := by decide +kernel
theorem dX2_searchOn_67 : decode cX2_searchOn 67 = .ok (.lxor, 1) := by decide +kernel
theorem dX2_searchOn_68 : decode cX2_searchOn 68 = .ok (.land, 1) := by decide +kernel
theorem dX2_searchOn_69 : decode cX2_searchOn 69 = .ok (.lreturn, 1) := by decide +kernel
theorem dX2_searchOn_70 : decode cX2_searchOn 70 = .ok (.lload_n 1, 1) := by decide +kernel
theorem dX2_searchOn_71 : decode cX2_searchOn 71 = .ok (.lload 4, 2) := by decide +kernel
theorem dX2_searchOn_73 : decode cX2_searchOn 73 = .ok (.lor, 1) := by decide +kernel
theorem dX2_searchOn_74 : decode cX2_searchOn 74 = .ok (.lreturn, 1) := by decide +kernel
theorem dX2_itemsOf_0 : decode cX2_itemsOf 0 = .ok (.aload_n 0, 1) := by decide +kernel
theorem dX2_itemsOf_1 : decode cX2_itemsOf 1 = .ok (.iload_n 1, 1) := by decide +kernel
theorem dX2_itemsOf_2 : decode cX2_itemsOf 2 = .ok (.invokevirtual 51, 3) := by decide +kernel
theorem dX2_itemsOf_5 : decode cX2_itemsOf 5 = .ok (.ifCond .ne 5, 3) := by decide +kernel
theorem dX2_itemsOf_8 : decode cX2_itemsOf 8 = .ok (.lconst 0, 1) := by decide +kernel
theorem dX2_itemsOf_9 : decode cX2_itemsOf 9 = .ok (.lreturn, 1) := by decide +kernel
theorem dX2_itemsOf_10 : decode cX2_itemsOf 10 = .ok (.aload_n 0, 1) := by decide +kernel
theorem dX2_itemsOf_11 : decode cX2_itemsOf 11 = .ok (.getfield 18, 3) := by decide +kernel
theorem dX2_itemsOf_14 : decode cX2_itemsOf 14 = .ok (.iload_n 1, 1) := by decide +kernel
theorem dX2_itemsOf_15 : decode cX2_itemsOf 15 = .ok (.laload, 1) := by decide +kernel
theorem dX2_itemsOf_16 : decode cX2_itemsOf 16 = .ok (.lstore_n 3, 1) := by decide +kernel
theorem dX2_itemsOf_17 : decode cX2_itemsOf 17 = .ok (.iload_n 2, 1) := by decide +kernel
theorem dX2_itemsOf_18 : decode cX2_itemsOf 18 = .ok (.ifCond .eq 11, 3) := by decide +kernel
theorem dX2_itemsOf_21 : decode cX2_itemsOf 21 = .ok (.aload_n 0, 1) := by decide +kernel
theorem dX2_itemsOf_22 : decode cX2_itemsOf 22 = .ok (.iload_n 1, 1) := by decide +kernel
theorem dX2_itemsOf_23 : decode cX2_itemsOf 23 = .ok (.invokevirtual 70, 3) := by decide +kernel
theorem dX2_itemsOf_26 : decode cX2_itemsOf 26 = .ok (.goto 4, 3) := by decide +kernel
theorem dX2_itemsOf_29 : decode cX2_itemsOf 29 = .ok (.iconst 0, 1) := by decide +kernel
theorem dX2_itemsOf_30 : decode cX2_itemsOf 30 = .ok (.istore 5, 2) := by decide +kernel
theorem dX2_itemsOf_32 : decode cX2_itemsOf 32 = .ok (.iconst 0, 1) := by decide +kernel
theorem dX2_itemsOf_33 : decode cX2_itemsOf 33 = .ok (.istore 6, 2) := by decide +kernel
theorem dX2_itemsOf_35 : decode cX2_itemsOf 35 = .ok (.iload 6, 2) := by decide +kernel
theorem dX2_itemsOf_37 : decode cX2_itemsOf 37 = .ok (.bipush 24, 2) := by decide +kernel
theorem dX2_itemsOf_39 : decode cX2_itemsOf 39 = .ok (.if_icmp .ge 29, 3) := by decide +kernel
theorem dX2_itemsOf_42 : decode cX2_itemsOf 42 = .ok (.iload 5, 2) := by decide +kernel
theorem dX2_itemsOf_44 : decode cX2_itemsOf 44 = .ok (.iload 6, 2) := by decide +kernel
theorem dX2_itemsOf_46 : decode cX2_itemsOf 46 = .ok (.invokestatic 47, 3) := by decide +kernel
theorem dX2_itemsOf_49 : decode cX2_itemsOf 49 = .ok (.ifCond .eq 13, 3) := by decide +kernel
theorem dX2_itemsOf_52 : decode cX2_itemsOf 52 = .ok (.lload_n 3, 1) := by decide +kernel
theorem dX2_itemsOf_53 : decode cX2_itemsOf 53 = .ok (.aload_n 0, 1) := by decide +kernel
theorem dX2_itemsOf_54 : decode cX2_itemsOf 54 = .ok (.getfield 18, 3) := by decide +kernel
theorem dX2_itemsOf_57 : decode cX2_itemsOf 57 = .ok (.iload 6, 2) := by decide +kernel
theorem dX2_itemsOf_59 : decode cX2_itemsOf 59 = .ok (.laload, 1) := by decide +kernel
theorem dX2_itemsOf_60 : decode cX2_itemsOf 60 = .ok (.lor, 1) := by decide +kernel
theorem dX2_itemsOf_61 : decode cX2_itemsOf 61 = .ok (.lstore_n 3, 1) := by decide +kernel
theorem dX2_itemsOf_62 : decode cX2_itemsOf 62 = .ok (.iinc 6 1, 3) := by decide +kernel
theorem dX2_itemsOf_65 : decode cX2_itemsOf 65 = .ok (.goto (-30), 3) := by decide +kernel
theorem dX2_itemsOf_68 : decode cX2_itemsOf 68 = .ok (.lload_n 3, 1) := by decide +kernel
theorem dX2_itemsOf_69 : decode cX2_itemsOf 69 = .ok (.lreturn, 1) := by decide +kernel
theorem dX3_init_0 : decode cX3_init 0 = .ok (.aload_n 0, 1) := by decide +kernel
theorem dX3_init_1 : decode cX3_init 1 = .ok (.invokespecial 3, 3) := by decide +kernel
theorem dX3_init_4 : decode cX3_init 4 = .ok (.aload_n 0, 1) := by decide +kernel
theorem dX3_init_5 : decode cX3_init 5 = .ok (.bipush 8, 2) := by decide +kernel
theorem dX3_init_7 : decode cX3_init 7 = .ok (.anewarray 9, 3) := by decide +kernel
theorem dX3_init_10 : decode cX3_init 10 = .ok (.putfield 11, 3) := by decide +kernel
theorem dX3_init_13 : decode cX3_init 13 = .ok (.iconst 0, 1) := by decide +kernel
theorem dX3_init_14 : decode cX3_init 14 = .ok (.istore_n 1, 1) := by decide +kernel
theorem dX3_init_15 : decode cX3_init 15 = .ok (.iload_n 1, 1) := by decide +kernel
theorem dX3_init_16 : decode cX3_init 16 = .ok (.bipush 8, 2) := by decide +kernel
theorem dX3_init_18 : decode cX3_init 18 = .ok (.if_icmp .ge 22, 3) := by decide +kernel
theorem dX3_init_21 : decode cX3_init 21 = .ok (.aload_n 0, 1) := by decide +kernel
theorem dX3_init_22 : decode cX3_init 22 = .ok (.getfield 11, 3) := by decide +kernel
theorem dX3_init_25 : decode cX3_init 25 = .ok (.iload_n 1, 1) := by decide +kernel
theorem dX3_init_26 : decode cX3_init 26 = .ok (.new 9, 3) := by decide +kernel
theorem dX3_init_29 : decode cX3_init 29 = .ok (.dup, 1) := by decide +kernel
theorem dX3_init_30 : decode cX3_init 30 = .ok (.invokespecial 17, 3) := by decide +kernel
theorem dX3_init_33 : decode cX3_init 33 = .ok (.aastore, 1) := by decide +kernel
theorem dX3_init_34 : decode cX3_init 34 = .ok (.iinc 1 1, 3) := by decide +kernel
theorem dX3_init_37 : decode cX3_init 37 = .ok (.goto (-22), 3) := by decide +kernel
theorem dX3_init_40 : decode cX3_init 40 = .ok (.aload_n 0, 1) := by decide +kernel
theorem dX3_init_41 : decode cX3_init 41 = .ok (.new 9, 3) := by decide +kernel
theorem dX3_init_44 : decode cX3_init 44 = .ok (.dup, 1) := by decide +kernel
theorem dX3_init_45 : decode cX3_init 45 = .ok (.invokespecial 17, 3) := by decide +kernel
theorem dX3_init_48 : decode cX3_init 48 = .ok (.putfield 18, 3) := by decide +kernel
theorem dX3_init_51 : decode cX3_init 51 = .ok (.return_, 1) := by decide +kernel
theorem dX3_remember_0 : decode cX3_remember 0 = .ok (.aload_n 0, 1) := by decide +kernel
theorem dX3_remember_1 : decode cX3_remember 1 = .ok (.getfield 18, 3) := by decide +kernel
theorem dX3_remember_4 : decode cX3_remember 4 = .ok (.aload_n 1, 1) := by decide +kernel
theorem dX3_remember_5 : decode cX3_remember 5 = .ok (.invokevirtual 22, 3) := by decide +kernel
theorem dX3_remember_8 : decode cX3_remember 8 = .ok (.return_, 1) := by decide +kernel
theorem dX3_commit_0 : decode cX3_commit 0 = .ok (.aload_n 0, 1) := by decide +kernel
theorem dX3_commit_1 : decode cX3_commit 1 = .ok (.getfield 26, 3) := by decide +kernel
theorem dX3_commit_4 : decode cX3_commit 4 = .ok (.bipush 8, 2) := by decide +kernel
theorem dX3_commit_6 : decode cX3_commit 6 = .ok (.if_icmp .ne 7, 3) := by decide +kernel
theorem dX3_commit_9 : decode cX3_commit 9 = .ok (.aload_n 0, 1) := by decide +kernel
theorem dX3_commit_10 : decode cX3_commit 10 = .ok (.invokevirtual 30, 3) := by decide +kernel
theorem dX3_commit_13 : decode cX3_commit 13 = .ok (.aload_n 0, 1) := by decide +kernel
theorem dX3_commit_14 : decode cX3_commit 14 = .ok (.getfield 11, 3) := by decide +kernel
theorem dX3_commit_17 : decode cX3_commit 17 = .ok (.aload_n 0, 1) := by decide +kernel
theorem dX3_commit_18 : decode cX3_commit 18 = .ok (.getfield 26, 3) := by decide +kernel
theorem dX3_commit_21 : decode cX3_commit 21 = .ok (.aaload, 1) := by decide +kernel
theorem dX3_commit_22 : decode cX3_commit 22 = .ok (.astore_n 1, 1) := by decide +kernel
theorem dX3_commit_23 : decode cX3_commit 23 = .ok (.aload_n 0, 1) := by decide +kernel
theorem dX3_commit_24 : decode cX3_commit 24 = .ok (.getfield 11, 3) := by decide +kernel
theorem dX3_commit_27 : decode cX3_commit 27 = .ok (.aload_n 0, 1) := by decide +kernel
theorem dX3_commit_28 : decode cX3_commit 28 = .ok (.getfield 26, 3) := by decide +kernel
theorem dX3_commit_31 : decode cX3_commit 31 = .ok (.aload_n 0, 1) := by decide +kernel
theorem dX3_commit_32 : decode cX3_commit 32 = .ok (.getfield 18, 3) := by decide +kernel
theorem dX3_commit_35 : decode cX3_commit 35 = .ok (.aastore, 1) := by decide +kernel
theorem dX3_commit_36 : decode cX3_commit 36 = .ok (.aload_n 0, 1) := by decide +kernel
theorem dX3_commit_37 : decode cX3_commit 37 = .ok (.aload_n 1, 1) := by decide +kernel
theorem dX3_commit_38 : decode cX3_commit 38 = .ok (.putfield 18, 3) := by decide +kernel
theorem dX3_commit_41 : decode cX3_commit 41 = .ok (.aload_n 0, 1) := by decide +kernel
theorem dX3_commit_42 : decode cX3_commit 42 = .ok (.dup, 1) := by decide +kernel
theorem dX3_commit_43 : decode cX3_commit 43 = .ok (.getfield 26, 3) := by decide +kernel
theorem dX3_commit_46 : decode cX3_commit 46 = .ok (.iconst 1, 1) := by decide +kernel
theorem dX3_commit_47 : decode cX3_commit 47 = .ok (.iadd, 1) := by decide +kernel
theorem dX3_commit_48 : decode cX3_commit 48 = .ok (.putfield 26, 3) := by decide +kernel
theorem dX3_commit_51 : decode cX3_commit 51 = .ok (.return_, 1) := by decide +kernel
theorem dX3_forgetFirst_0 : decode cX3_forgetFirst 0 = .ok (.aload_n 0, 1) := by decide +kernel
theorem dX3_forgetFirst_1 : decode cX3_forgetFirst 1 = .ok (.getfield 11, 3) := by decide +kernel
theorem dX3_forgetFirst_4 : decode cX3_forgetFirst 4 = .ok (.iconst 0, 1) := by decide +kernel
theorem dX3_forgetFirst_5 : decode cX3_forgetFirst 5 = .ok (.aaload, 1) := by decide +kernel
theorem dX3_forgetFirst_6 : decode cX3_forgetFirst 6 = .ok (.astore_n 1, 1) := by decide +kernel
theorem dX3_forgetFirst_7 : decode cX3_forgetFirst 7 = .ok (.iconst 1, 1) := by decide +kernel
theorem dX3_forgetFirst_8 : decode cX3_forgetFirst 8 = .ok (.istore_n 2, 1) := by decide +kernel
theorem dX3_forgetFirst_9 : decode cX3_forgetFirst 9 = .ok (.iload_n 2, 1) := by decide +kernel
theorem dX3_forgetFirst_10 : decode cX3_forgetFirst 10 = .ok (.bipush 8, 2) := by decide +kernel
theorem dX3_forgetFirst_12 : decode cX3_forgetFirst 12 = .ok (.if_icmp .ge 23, 3) := by decide +kernel
theorem dX3_forgetFirst_15 : decode cX3_forgetFirst 15 = .ok (.aload_n 0, 1) := by decide +kernel
theorem dX3_forgetFirst_16 : decode cX3_forgetFirst 16 = .ok (.getfield 11, 3) := by decide +kernel
theorem dX3_forgetFirst_19 : decode cX3_forgetFirst 19 = .ok (.iload_n 2, 1) := by decide +kernel
theorem dX3_forgetFirst_20 : decode cX3_forgetFirst 20 = .ok (.iconst 1, 1) := by decide +kernel
theorem dX3_forgetFirst_21 : decode cX3_forgetFirst 21 = .ok (.isub, 1) := by decide +kernel
theorem dX3_forgetFirst_22 : decode cX3_forgetFirst 22 = .ok (.aload_n 0, 1) := by decide +kernel
theorem dX3_forgetFirst_23 : decode cX3_forgetFirst 23 = .ok (.getfield 11, 3) := by decide +kernel
theorem dX3_forgetFirst_26 : decode cX3_forgetFirst 26 = .ok (.iload_n 2, 1) := by decide +kernel
theorem dX3_forgetFirst_27 : decode cX3_forgetFirst 27 = .ok (.aaload, 1) := by decide +kernel
theorem dX3_forgetFirst_28 : decode cX3_forgetFirst 28 = .ok (.aastore, 1) := by decide +kernel
theorem dX3_forgetFirst_29 : decode cX3_forgetFirst 29 = .ok (.iinc 2 1, 3) := by decide +kernel
theorem dX3_forgetFirst_32 : decode cX3_forgetFirst 32 = .ok (.goto (-23), 3) := by decide +kernel
theorem dX3_forgetFirst_35 : decode cX3_forgetFirst 35 = .ok (.aload_n 0, 1) := by decide +kernel
theorem dX3_forgetFirst_36 : decode cX3_forgetFirst 36 = .ok (.getfield 11, 3) := by decide +kernel
theorem dX3_forgetFirst_39 : decode cX3_forgetFirst 39 = .ok (.bipush 7, 2) := by decide +kernel
theorem dX3_forgetFirst_41 : decode cX3_forgetFirst 41 = .ok (.aload_n 1, 1) := by decide +kernel
theorem dX3_forgetFirst_42 : decode cX3_forgetFirst 42 = .ok (.aastore, 1) := by decide +kernel
theorem dX3_forgetFirst_43 : decode cX3_forgetFirst 43 = .ok (.aload_n 0, 1) := by decide +kernel
theorem dX3_forgetFirst_44 : decode cX3_forgetFirst 44 = .ok (.dup, 1) := by decide +kernel
theorem dX3_forgetFirst_45 : decode cX3_forgetFirst 45 = .ok (.getfield 26, 3) := by decide +kernel
theorem dX3_forgetFirst_48 : decode cX3_forgetFirst 48 = .ok (.iconst 1, 1) := by decide +kernel
theorem dX3_forgetFirst_49 : decode cX3_forgetFirst 49 = .ok (.isub, 1) := by decide +kernel
theorem dX3_forgetFirst_50 : decode cX3_forgetFirst 50 = .ok (.putfield 26, 3) := by decide +kernel
theorem dX3_forgetFirst_53 : decode cX3_forgetFirst 53 = .ok (.return_, 1) := by decide +kernel
theorem dX3_back_0 : decode cX3_back 0 = .ok (.aload_n 0, 1) := by decide +kernel
theorem dX3_back_1 : decode cX3_back 1 = .ok (.getfield 26, 3) := by decide +kernel
theorem dX3_back_4 : decode cX3_back 4 = .ok (.ifCond .ne 5, 3) := by decide +kernel
theorem dX3_back_7 : decode cX3_back 7 = .ok (.aload_n 1, 1) := by decide +kernel
theorem dX3_back_8 : decode cX3_back 8 = .ok (.areturn, 1) := by decide +kernel
theorem dX3_back_9 : decode cX3_back 9 = .ok (.aload_n 0, 1) := by decide +kernel
theorem dX3_back_10 : decode cX3_back 10 = .ok (.dup, 1) := by decide +kernel
theorem dX3_back_11 : decode cX3_back 11 = .ok (.getfield 26, 3) := by decide +kernel
theorem dX3_back_14 : decode cX3_back 14 = .ok (.iconst 1, 1) := by decide +kernel
theorem dX3_back_15 : decode cX3_back 15 = .ok (.isub, 1) := by decide +kernel
theorem dX3_back_16 : decode cX3_back 16 = .ok (.putfield 26, 3) := by decide +kernel
theorem dX3_back_19 : decode cX3_back 19 = .ok (.aload_n 0, 1) := by decide +kernel
theorem dX3_back_20 : decode cX3_back 20 = .ok (.getfield 11, 3) := by decide +kernel
theorem dX3_back_23 : decode cX3_back 23 = .ok (.aload_n 0, 1) := by decide +kernel
theorem dX3_back_24 : decode cX3_back 24 = .ok (.getfield 26, 3) := by decide +kernel
theorem dX3_back_27 : decode cX3_back 27 = .ok (.aaload, 1) := by decide +kernel
theorem dX3_back_28 : decode cX3_back 28 = .ok (.astore_n 2, 1) := by decide +kernel
theorem dX3_back_29 : decode cX3_back 29 = .ok (.aload_n 0, 1) := by decide +kernel
theorem dX3_back_30 : decode cX3_back 30 = .ok (.getfield 11, 3) := by decide +kernel
theorem dX3_back_33 : decode cX3_back 33 = .ok (.aload_n 0, 1) := by decide +kernel
theorem dX3_back_34 : decode cX3_back 34 = .ok (.getfield 26, 3) := by decide +kernel
theorem dX3_back_37 : decode cX3_back 37 = .ok (.aload_n 1, 1) := by decide +kernel
theorem dX3_back_38 : decode cX3_back 38 = .ok (.aastore, 1) := by decide +kernel
theorem dX3_back_39 : decode cX3_back 39 = .ok (.aload_n 2, 1) := by decide +kernel
theorem dX3_back_40 : decode cX3_back 40 = .ok (.areturn, 1) := by decide +kernel
theorem dX4_init_0 : decode cX4_init 0 = .ok (.aload_n 0, 1) := by decide +kernel
theorem dX4_init_1 : decode cX4_init 1 = .ok (.invokespecial 3, 3) := by decide +kernel
theorem dX4_init_4 : decode cX4_init 4 = .ok (.aload_n 0, 1) := by decide +kernel
theorem dX4_init_5 : decode cX4_init 5 = .ok (.sipush 276, 3) := by decide +kernel
theorem dX4_init_8 : decode cX4_init 8 = .ok (.newarray .long, 2) := by decide +kernel
theorem dX4_init_10 : decode cX4_init 10 = .ok (.putfield 9, 3) := by decide +kernel
theorem dX4_init_13 : decode cX4_init 13 = .ok (.return_, 1) := by decide +kernel
theorem dX4_clear_0 : decode cX4_clear 0 = .ok (.aload_n 0, 1) := by decide +kernel
theorem dX4_clear_1 : decode cX4_clear 1 = .ok (.iconst 0, 1) := by decide +kernel
theorem dX4_clear_2 : decode cX4_clear 2 = .ok (.putfield 15, 3) := by decide +kernel
theorem dX4_clear_5 : decode cX4_clear 5 = .ok (.return_, 1) := by decide +kernel
theorem dX4_add_0 : decode cX4_add 0 = .ok (.aload_n 0, 1) := by decide +kernel
theorem dX4_add_1 : decode cX4_add 1 = .ok (.getfield 15, 3) := by decide +kernel
theorem dX4_add_4 : decode cX4_add 4 = .ok (.sipush 276, 3) := by decide +kernel
theorem dX4_add_7 : decode cX4_add 7 = .ok (.if_icmp .ge 23, 3) := by decide +kernel
theorem dX4_add_10 : decode cX4_add 10 = .ok (.aload_n 0, 1) := by decide +kernel
theorem dX4_add_11 : decode cX4_add 11 = .ok (.getfield 9, 3) := by decide +kernel
theorem dX4_add_14 : decode cX4_add 14 = .ok (.aload_n 0, 1) := by decide +kernel
theorem dX4_add_15 : decode cX4_add 15 = .ok (.getfield 15, 3) := by decide +kernel
theorem dX4_add_18 : decode cX4_add 18 = .ok (.lload_n 1, 1) := by decide +kernel
theorem dX4_add_19 : decode cX4_add 19 = .ok (.lastore, 1) := by decide +kernel
theorem dX4_add_20 : decode cX4_add 20 = .ok (.aload_n 0, 1) := by decide +kernel
theorem dX4_add_21 : decode cX4_add 21 = .ok (.dup, 1) := by decide +kernel
theorem dX4_add_22 : decode cX4_add 22 = .ok (.getfield 15, 3) := by decide +kernel
theorem dX4_add_25 : decode cX4_add 25 = .ok (.iconst 1, 1) := by decide +kernel
theorem dX4_add_26 : decode cX4_add 26 = .ok (.iadd, 1) := by decide +kernel
theorem dX4_add_27 : decode cX4_add 27 = .ok (.putfield 15, 3) := by decide +kernel
theorem dX4_add_30 : decode cX4_add 30 = .ok (.return_, 1) := by decide +kernel
theorem dX4_tell_0 : decode cX4_tell 0 = .ok (.aload_n 0, 1) := by decide +kernel
theorem dX4_tell_1 : decode cX4_tell 1 = .ok (.invokevirtual 19, 3) := by decide +kernel
theorem dX4_tell_4 : decode cX4_tell 4 = .ok (.aload_n 0, 1) := by decide +kernel
theorem dX4_tell_5 : decode cX4_tell 5 = .ok (.lload_n 1, 1) := by decide +kernel
theorem dX4_tell_6 : decode cX4_tell 6 = .ok (.invokevirtual 22, 3) := by decide +kernel
theorem dX4_tell_9 : decode cX4_tell 9 = .ok (.return_, 1) := by decide +kernel
theorem dX5_init_0 : decode cX5_init 0 = .ok (.aload_n 0, 1) := by decide +kernel
theorem dX5_init_1 : decode cX5_init 1 = .ok (.invokespecial 3, 3) := by decide +kernel
theorem dX5_init_4 : decode cX5_init 4 = .ok (.aload_n 0, 1) := by decide +kernel
theorem dX5_init_5 : decode cX5_init 5 = .ok (.bipush 80, 2) := by decide +kernel
theorem dX5_init_7 : decode cX5_init 7 = .ok (.newarray .int, 2) := by decide +kernel
theorem dX5_init_9 : decode cX5_init 9 = .ok (.putfield 9, 3) := by decide +kernel
theorem dX5_init_12 : decode cX5_init 12 = .ok (.aload_n 0, 1) := by decide +kernel
theorem dX5_init_13 : decode cX5_init 13 = .ok (.bipush 80, 2) := by decide +kernel
theorem dX5_init_15 : decode cX5_init 15 = .ok (.newarray .int, 2) := by decide +kernel
theorem dX5_init_17 : decode cX5_init 17 = .ok (.putfield 15, 3) := by decide +kernel
theorem dX5_init_20 : decode cX5_init 20 = .ok (.return_, 1) := by decide +kernel
theorem dX5_addFour_0 : decode cX5_addFour 0 = .ok (.aload_n 0, 1) := by decide +kernel
theorem dX5_addFour_1 : decode cX5_addFour 1 = .ok (.getfield 18, 3) := by decide +kernel
theorem dX5_addFour_4 : decode cX5_addFour 4 = .ok (.bipush 76, 2) := by decide +kernel
theorem dX5_addFour_6 : decode cX5_addFour 6 = .ok (.if_icmp .le 5, 3) := by decide +kernel
theorem dX5_addFour_9 : decode cX5_addFour 9 = .ok (.iconst 0, 1) := by decide +kernel
theorem dX5_addFour_10 : decode cX5_addFour 10 = .ok (.ireturn, 1) := by decide +kernel
theorem dX5_addFour_11 : decode cX5_addFour 11 = .ok (.bipush 24, 2) := by decide +kernel
theorem dX5_addFour_13 : decode cX5_addFour 13 = .ok (.istore_n 2, 1) := by decide +kernel
theorem dX5_addFour_14 : decode cX5_addFour 14 = .ok (.iload_n 2, 1) := by decide +kernel
theorem dX5_addFour_15 : decode cX5_addFour 15 = .ok (.ifCond .lt 35, 3) := by decide +kernel
theorem dX5_addFour_18 : decode cX5_addFour 18 = .ok (.aload_n 0, 1) := by decide +kernel
theorem dX5_addFour_19 : decode cX5_addFour 19 = .ok (.getfield 15, 3) := by decide +kernel
theorem dX5_addFour_22 : decode cX5_addFour 22 = .ok (.aload_n 0, 1) := by decide +kernel
theorem dX5_addFour_23 : decode cX5_addFour 23 = .ok (.getfield 18, 3) := by decide +kernel
theorem dX5_addFour_26 : decode cX5_addFour 26 = .ok (.iload_n 1, 1) := by decide +kernel
theorem dX5_addFour_27 : decode cX5_addFour 27 = .ok (.iload_n 2, 1) := by decide +kernel
theorem dX5_addFour_28 : decode cX5_addFour 28 = .ok (.iushr, 1) := by decide +kernel
theorem dX5_addFour_29 : decode cX5_addFour 29 = .ok (.sipush 255, 3) := by decide +kernel
theorem dX5_addFour_32 : decode cX5_addFour 32 = .ok (.iand, 1) := by decide +kernel
theorem dX5_addFour_33 : decode cX5_addFour 33 = .ok (.iastore, 1) := by decide +kernel
theorem dX5_addFour_34 : decode cX5_addFour 34 = .ok (.aload_n 0, 1) := by decide +kernel
theorem dX5_addFour_35 : decode cX5_addFour 35 = .ok (.dup, 1) := by decide +kernel
theorem dX5_addFour_36 : decode cX5_addFour 36 = .ok (.getfield 18, 3) := by decide +kernel
theorem dX5_addFour_39 : decode cX5_addFour 39 = .ok (.iconst 1, 1) := by decide +kernel
theorem dX5_addFour_40 : decode cX5_addFour 40 = .ok (.iadd, 1) := by decide +kernel
theorem dX5_addFour_41 : decode cX5_addFour 41 = .ok (.putfield 18, 3) := by decide +kernel
theorem dX5_addFour_44 : decode cX5_addFour 44 = .ok (.iinc 2 (-8), 3) := by decide +kernel
theorem dX5_addFour_47 : decode cX5_addFour 47 = .ok (.goto (-33), 3) := by decide +kernel
theorem dX5_addFour_50 : decode cX5_addFour 50 = .ok (.iconst 1, 1) := by decide +kernel
theorem dX5_addFour_51 : decode cX5_addFour 51 = .ok (.ireturn, 1) := by decide +kernel
theorem dX5_cut_0 : decode cX5_cut 0 = .ok (.iload_n 1, 1) := by decide +kernel
theorem dX5_cut_1 : decode cX5_cut 1 = .ok (.ifCond .lt 11, 3) := by decide +kernel
theorem dX5_cut_4 : decode cX5_cut 4 = .ok (.iload_n 1, 1) := by decide +kernel
theorem dX5_cut_5 : decode cX5_cut 5 = .ok (.aload_n 0, 1) := by decide +kernel
theorem dX5_cut_6 : decode cX5_cut 6 = .ok (.getfield 18, 3) := by decide +kernel
theorem dX5_cut_9 : decode cX5_cut 9 = .ok (.if_icmp .le 5, 3) := by decide +kernel
theorem dX5_cut_12 : decode cX5_cut 12 = .ok (.iconst 0, 1) := by decide +kernel
theorem dX5_cut_13 : decode cX5_cut 13 = .ok (.ireturn, 1) := by decide +kernel
theorem dX5_cut_14 : decode cX5_cut 14 = .ok (.aload_n 0, 1) := by decide +kernel
theorem dX5_cut_15 : decode cX5_cut 15 = .ok (.iload_n 1, 1) := by decide +kernel
theorem dX5_cut_16 : decode cX5_cut 16 = .ok (.putfield 18, 3) := by decide +kernel
theorem dX5_cut_19 : decode cX5_cut 19 = .ok (.iconst 1, 1) := by decide +kernel
theorem dX5_cut_20 : decode cX5_cut 20 = .ok (.ireturn, 1) := by decide +kernel
theorem dX5_clear_0 : decode cX5_clear 0 = .ok (.aload_n 0, 1) := by decide +kernel
theorem dX5_clear_1 : decode cX5_clear 1 = .ok (.iconst 0, 1) := by decide +kernel
theorem dX5_clear_2 : decode cX5_clear 2 = .ok (.putfield 18, 3) := by decide +kernel
theorem dX5_clear_5 : decode cX5_clear 5 = .ok (.return_, 1) := by decide +kernel
theorem dX5_wrongSign_0 : decode cX5_wrongSign 0 = .ok (.iconst (-1), 1) := by decide +kernel
theorem dX5_wrongSign_1 : decode cX5_wrongSign 1 = .ok (.aload_n 0, 1) := by decide +kernel
theorem dX5_wrongSign_2 : decode cX5_wrongSign 2 = .ok (.getfield 22, 3) := by decide +kernel
theorem dX5_wrongSign_5 : decode cX5_wrongSign 5 = .ok (.isub, 1) := by decide +kernel
theorem dX5_wrongSign_6 : decode cX5_wrongSign 6 = .ok (.ireturn, 1) := by decide +kernel
theorem dX5_readOneName_0 : decode cX5_readOneName 0 = .ok (.aload_n 0, 1) := by decide +kernel
theorem dX5_readOneName_1 : decode cX5_readOneName 1 = .ok (.invokevirtual 25, 3) := by decide +kernel
theorem dX5_readOneName_4 : decode cX5_readOneName 4 = .ok (.aload_n 0, 1) := by decide +kernel
theorem dX5_readOneName_5 : decode cX5_readOneName 5 = .ok (.invokevirtual 28, 3) := by decide +kernel
theorem dX5_readOneName_8 : decode cX5_readOneName 8 = .ok (.istore_n 1, 1) := by decide +kernel
theorem dX5_readOneName_9 : decode cX5_readOneName 9 = .ok (.aload_n 0, 1) := by decide +kernel
theorem dX5_readOneName_10 : decode cX5_readOneName 10 = .ok (.getfield 22, 3) := by decide +kernel
theorem dX5_readOneName_13 : decode cX5_readOneName 13 = .ok (.aload_n 0, 1) := by decide +kernel
theorem dX5_readOneName_14 : decode cX5_readOneName 14 = .ok (.getfield 18, 3) := by decide +kernel
theorem dX5_readOneName_17 : decode cX5_readOneName 17 = .ok (.if_icmp .ne 7, 3) := by decide +kernel
theorem dX5_readOneName_20 : decode cX5_readOneName 20 = .ok (.iconst 1, 1) := by decide +kernel
theorem dX5_readOneName_21 : decode cX5_readOneName 21 = .ok (.goto 4, 3) := by decide +kernel
theorem dX5_readOneName_24 : decode cX5_readOneName 24 = .ok (.iconst 0, 1) := by decide +kernel
theorem dX5_readOneName_25 : decode cX5_readOneName 25 = .ok (.istore_n 2, 1) := by decide +kernel
theorem dX5_readOneName_26 : decode cX5_readOneName 26 = .ok (.aload_n 0, 1) := by decide +kernel
theorem dX5_readOneName_27 : decode cX5_readOneName 27 = .ok (.invokevirtual 32, 3) := by decide +kernel
theorem dX5_readOneName_30 : decode cX5_readOneName 30 = .ok (.iload_n 2, 1) := by decide +kernel
theorem dX5_readOneName_31 : decode cX5_readOneName 31 = .ok (.ifCond .eq 7, 3) := by decide +kernel
theorem dX5_readOneName_34 : decode cX5_readOneName 34 = .ok (.iload_n 1, 1) := by decide +kernel
theorem dX5_readOneName_35 : decode cX5_readOneName 35 = .ok (.goto 4, 3) := by decide +kernel
theorem dX5_readOneName_38 : decode cX5_readOneName 38 = .ok (.iconst 0, 1) := by decide +kernel
theorem dX5_readOneName_39 : decode cX5_readOneName 39 = .ok (.ireturn, 1) := by decide +kernel
theorem dX5_readLinks_0 : decode cX5_readLinks 0 = .ok (.aload_n 0, 1) := by decide +kernel
theorem dX5_readLinks_1 : decode cX5_readLinks 1 = .ok (.invokevirtual 25, 3) := by decide +kernel
theorem dX5_readLinks_4 : decode cX5_readLinks 4 = .ok (.aload_n 0, 1) := by decide +kernel
theorem dX5_readLinks_5 : decode cX5_readLinks 5 = .ok (.getfield 18, 3) := by decide +kernel
theorem dX5_readLinks_8 : decode cX5_readLinks 8 = .ok (.ifCond .ne 5, 3) := by decide +kernel
theorem dX5_readLinks_11 : decode cX5_readLinks 11 = .ok (.iconst 1, 1) := by decide +kernel
theorem dX5_readLinks_12 : decode cX5_readLinks 12 = .ok (.ireturn, 1) := by decide +kernel
theorem dX5_readLinks_13 : decode cX5_readLinks 13 = .ok (.iconst 0, 1) := by decide +kernel
theorem dX5_readLinks_14 : decode cX5_readLinks 14 = .ok (.istore_n 2, 1) := by decide +kernel
theorem dX5_readLinks_15 : decode cX5_readLinks 15 = .ok (.iload_n 2, 1) := by decide +kernel
theorem dX5_readLinks_16 : decode cX5_readLinks 16 = .ok (.bipush 80, 2) := by decide +kernel
theorem dX5_readLinks_18 : decode cX5_readLinks 18 = .ok (.if_icmp .ge 79, 3) := by decide +kernel
theorem dX5_readLinks_21 : decode cX5_readLinks 21 = .ok (.aload_n 0, 1) := by decide +kernel
theorem dX5_readLinks_22 : decode cX5_readLinks 22 = .ok (.aload_n 1, 1) := by decide +kernel
theorem dX5_readLinks_23 : decode cX5_readLinks 23 = .ok (.invokevirtual 35, 3) := by decide +kernel
theorem dX5_readLinks_26 : decode cX5_readLinks 26 = .ok (.istore_n 3, 1) := by decide +kernel
theorem dX5_readLinks_27 : decode cX5_readLinks 27 = .ok (.iload_n 3, 1) := by decide +kernel
theorem dX5_readLinks_28 : decode cX5_readLinks 28 = .ok (.ifCond .lt 12, 3) := by decide +kernel
theorem dX5_readLinks_31 : decode cX5_readLinks 31 = .ok (.aload_n 0, 1) := by decide +kernel
theorem dX5_readLinks_32 : decode cX5_readLinks 32 = .ok (.bipush 62, 2) := by decide +kernel
theorem dX5_readLinks_34 : decode cX5_readLinks 34 = .ok (.invokevirtual 39, 3) := by decide +kernel
theorem dX5_readLinks_37 : decode cX5_readLinks 37 = .ok (.ifCond .ne 5, 3) := by decide +kernel
theorem dX5_readLinks_40 : decode cX5_readLinks 40 = .ok (.iconst 0, 1) := by decide +kernel
theorem dX5_readLinks_41 : decode cX5_readLinks 41 = .ok (.ireturn, 1) := by decide +kernel
theorem dX5_readLinks_42 : decode cX5_readLinks 42 = .ok (.aload_n 0, 1) := by decide +kernel
theorem dX5_readLinks_43 : decode cX5_readLinks 43 = .ok (.aload_n 1, 1) := by decide +kernel
theorem dX5_readLinks_44 : decode cX5_readLinks 44 = .ok (.invokevirtual 35, 3) := by decide +kernel
theorem dX5_readLinks_47 : decode cX5_readLinks 47 = .ok (.istore 4, 2) := by decide +kernel
theorem dX5_readLinks_49 : decode cX5_readLinks 49 = .ok (.iload 4, 2) := by decide +kernel
theorem dX5_readLinks_51 : decode cX5_readLinks 51 = .ok (.ifCond .ge 5, 3) := by decide +kernel
theorem dX5_readLinks_54 : decode cX5_readLinks 54 = .ok (.iconst 0, 1) := by decide +kernel
theorem dX5_readLinks_55 : decode cX5_readLinks 55 = .ok (.ireturn, 1) := by decide +kernel
theorem dX5_readLinks_56 : decode cX5_readLinks 56 = .ok (.aload_n 0, 1) := by decide +kernel
theorem dX5_readLinks_57 : decode cX5_readLinks 57 = .ok (.bipush 100, 2) := by decide +kernel
theorem dX5_readLinks_59 : decode cX5_readLinks 59 = .ok (.iload_n 3, 1) := by decide +kernel
theorem dX5_readLinks_60 : decode cX5_readLinks 60 = .ok (.imul, 1) := by decide +kernel
theorem dX5_readLinks_61 : decode cX5_readLinks 61 = .ok (.iload 4, 2) := by decide +kernel
theorem dX5_readLinks_63 : decode cX5_readLinks 63 = .ok (.iadd, 1) := by decide +kernel
theorem dX5_readLinks_64 : decode cX5_readLinks 64 = .ok (.invokevirtual 43, 3) := by decide +kernel
theorem dX5_readLinks_67 : decode cX5_readLinks 67 = .ok (.aload_n 0, 1) := by decide +kernel
theorem dX5_readLinks_68 : decode cX5_readLinks 68 = .ok (.getfield 22, 3) := by decide +kernel
theorem dX5_readLinks_71 : decode cX5_readLinks 71 = .ok (.aload_n 0, 1) := by decide +kernel
theorem dX5_readLinks_72 : decode cX5_readLinks 72 = .ok (.getfield 18, 3) := by decide +kernel
theorem dX5_readLinks_75 : decode cX5_readLinks 75 = .ok (.if_icmp .ne 5, 3) := by decide +kernel
theorem dX5_readLinks_78 : decode cX5_readLinks 78 = .ok (.iconst 1, 1) := by decide +kernel
theorem dX5_readLinks_79 : decode cX5_readLinks 79 = .ok (.ireturn, 1) := by decide +kernel
theorem dX5_readLinks_80 : decode cX5_readLinks 80 = .ok (.aload_n 0, 1) := by decide +kernel
theorem dX5_readLinks_81 : decode cX5_readLinks 81 = .ok (.bipush 44, 2) := by decide +kernel
theorem dX5_readLinks_83 : decode cX5_readLinks 83 = .ok (.invokevirtual 39, 3) := by decide +kernel
theorem dX5_readLinks_86 : decode cX5_readLinks 86 = .ok (.ifCond .ne 5, 3) := by decide +kernel
theorem dX5_readLinks_89 : decode cX5_readLinks 89 = .ok (.iconst 0, 1) := by decide +kernel
theorem dX5_readLinks_90 : decode cX5_readLinks 90 = .ok (.ireturn, 1) := by decide +kernel
theorem dX5_readLinks_91 : decode cX5_readLinks 91 = .ok (.iinc 2 1, 3) := by decide +kernel
theorem dX5_readLinks_94 : decode cX5_readLinks 94 = .ok (.goto (-79), 3) := by decide +kernel
theorem dX5_readLinks_97 : decode cX5_readLinks 97 = .ok (.iconst 0, 1) := by decide +kernel
theorem dX5_readLinks_98 : decode cX5_readLinks 98 = .ok (.ireturn, 1) := by decide +kernel
theorem dX5_readSearch_0 : decode cX5_readSearch 0 = .ok (.aload_n 0, 1) := by decide +kernel
theorem dX5_readSearch_1 : decode cX5_readSearch 1 = .ok (.invokevirtual 25, 3) := by decide +kernel
theorem dX5_readSearch_4 : decode cX5_readSearch 4 = .ok (.iconst 0, 1) := by decide +kernel
theorem dX5_readSearch_5 : decode cX5_readSearch 5 = .ok (.istore_n 2, 1) := by decide +kernel
theorem dX5_readSearch_6 : decode cX5_readSearch 6 = .ok (.iconst 0, 1) := by decide +kernel
theorem dX5_readSearch_7 : decode cX5_readSearch 7 = .ok (.istore_n 3, 1) := by decide +kernel
theorem dX5_readSearch_8 : decode cX5_readSearch 8 = .ok (.iload_n 3, 1) := by decide +kernel
theorem dX5_readSearch_9 : decode cX5_readSearch 9 = .ok (.bipush 80, 2) := by decide +kernel
theorem dX5_readSearch_11 : decode cX5_readSearch 11 = .ok (.if_icmp .ge 81, 3) := by decide +kernel
theorem dX5_readSearch_14 : decode cX5_readSearch 14 = .ok (.aload_n 0, 1) := by decide +kernel
theorem dX5_readSearch_15 : decode cX5_readSearch 15 = .ok (.aload_n 1, 1) := by decide +kernel
theorem dX5_readSearch_16 : decode cX5_readSearch 16 = .ok (.invokevirtual 35, 3) := by decide +kernel
theorem dX5_readSearch_19 : decode cX5_readSearch 19 = .ok (.istore 4, 2) := by decide +kernel
theorem dX5_readSearch_21 : decode cX5_readSearch 21 = .ok (.iload 4, 2) := by decide +kernel
theorem dX5_readSearch_23 : decode cX5_readSearch 23 = .ok (.ifCond .ge 5, 3) := by decide +kernel
theorem dX5_readSearch_26 : decode cX5_readSearch 26 = .ok (.iconst 0, 1) := by decide +kernel
theorem dX5_readSearch_27 : decode cX5_readSearch 27 = .ok (.ireturn, 1) := by decide +kernel
theorem dX5_readSearch_28 : decode cX5_readSearch 28 = .ok (.aload_n 0, 1) := by decide +kernel
theorem dX5_readSearch_29 : decode cX5_readSearch 29 = .ok (.bipush 42, 2) := by decide +kernel
theorem dX5_readSearch_31 : decode cX5_readSearch 31 = .ok (.invokevirtual 39, 3) := by decide +kernel
theorem dX5_readSearch_34 : decode cX5_readSearch 34 = .ok (.ifCond .eq 7, 3) := by decide +kernel
theorem dX5_readSearch_37 : decode cX5_readSearch 37 = .ok (.iconst 1, 1) := by decide +kernel
theorem dX5_readSearch_38 : decode cX5_readSearch 38 = .ok (.goto 4, 3) := by decide +kernel
theorem dX5_readSearch_41 : decode cX5_readSearch 41 = .ok (.iconst 0, 1) := by decide +kernel
theorem dX5_readSearch_42 : decode cX5_readSearch 42 = .ok (.istore 5, 2) := by decide +kernel
theorem dX5_readSearch_44 : decode cX5_readSearch 44 = .ok (.aload_n 0, 1) := by decide +kernel
theorem dX5_readSearch_45 : decode cX5_readSearch 45 = .ok (.sipush 1000, 3) := by decide +kernel
theorem dX5_readSearch_48 : decode cX5_readSearch 48 = .ok (.iload 5, 2) := by decide +kernel
theorem dX5_readSearch_50 : decode cX5_readSearch 50 = .ok (.imul, 1) := by decide +kernel
theorem dX5_readSearch_51 : decode cX5_readSearch 51 = .ok (.bipush 100, 2) := by decide +kernel
theorem dX5_readSearch_53 : decode cX5_readSearch 53 = .ok (.iload_n 2, 1) := by decide +kernel
theorem dX5_readSearch_54 : decode cX5_readSearch 54 = .ok (.imul, 1) := by decide +kernel
theorem dX5_readSearch_55 : decode cX5_readSearch 55 = .ok (.iadd, 1) := by decide +kernel
theorem dX5_readSearch_56 : decode cX5_readSearch 56 = .ok (.iload 4, 2) := by decide +kernel
theorem dX5_readSearch_58 : decode cX5_readSearch 58 = .ok (.iadd, 1) := by decide +kernel
theorem dX5_readSearch_59 : decode cX5_readSearch 59 = .ok (.invokevirtual 43, 3) := by decide +kernel
theorem dX5_readSearch_62 : decode cX5_readSearch 62 = .ok (.aload_n 0, 1) := by decide +kernel
theorem dX5_readSearch_63 : decode cX5_readSearch 63 = .ok (.getfield 22, 3) := by decide +kernel
theorem dX5_readSearch_66 : decode cX5_readSearch 66 = .ok (.aload_n 0, 1) := by decide +kernel
theorem dX5_readSearch_67 : decode cX5_readSearch 67 = .ok (.getfield 18, 3) := by decide +kernel
theorem dX5_readSearch_70 : decode cX5_readSearch 70 = .ok (.if_icmp .ne 5, 3) := by decide +kernel
theorem dX5_readSearch_73 : decode cX5_readSearch 73 = .ok (.iconst 1, 1) := by decide +kernel
theorem dX5_readSearch_74 : decode cX5_readSearch 74 = .ok (.ireturn, 1) := by decide +kernel
theorem dX5_readSearch_75 : decode cX5_readSearch 75 = .ok (.aload_n 0, 1) := by decide +kernel
theorem dX5_readSearch_76 : decode cX5_readSearch 76 = .ok (.invokevirtual 47, 3) := by decide +kernel
theorem dX5_readSearch_79 : decode cX5_readSearch 79 = .ok (.istore_n 2, 1) := by decide +kernel
theorem dX5_readSearch_80 : decode cX5_readSearch 80 = .ok (.iload_n 2, 1) := by decide +kernel
theorem dX5_readSearch_81 : decode cX5_readSearch 81 = .ok (.ifCond .ge 5, 3) := by decide +kernel
theorem dX5_readSearch_84 : decode cX5_readSearch 84 = .ok (.iconst 0, 1) := by decide +kernel
theorem dX5_readSearch_85 : decode cX5_readSearch 85 = .ok (.ireturn, 1) := by decide +kernel
theorem dX5_readSearch_86 : decode cX5_readSearch 86 = .ok (.iinc 3 1, 3) := by decide +kernel
theorem dX5_readSearch_89 : decode cX5_readSearch 89 = .ok (.goto (-81), 3) := by decide +kernel
theorem dX5_readSearch_92 : decode cX5_readSearch 92 = .ok (.iconst 0, 1) := by decide +kernel
theorem dX5_readSearch_93 : decode cX5_readSearch 93 = .ok (.ireturn, 1) := by decide +kernel
theorem dX5_readHow_0 : decode cX5_readHow 0 = .ok (.aload_n 0, 1) := by decide +kernel
theorem dX5_readHow_1 : decode cX5_readHow 1 = .ok (.bipush 43, 2) := by decide +kernel
theorem dX5_readHow_3 : decode cX5_readHow 3 = .ok (.invokevirtual 39, 3) := by decide +kernel
theorem dX5_readHow_6 : decode cX5_readHow 6 = .ok (.ifCond .eq 5, 3) := by decide +kernel
theorem dX5_readHow_9 : decode cX5_readHow 9 = .ok (.iconst 0, 1) := by decide +kernel
theorem dX5_readHow_10 : decode cX5_readHow 10 = .ok (.ireturn, 1) := by decide +kernel
theorem dX5_readHow_11 : decode cX5_readHow 11 = .ok (.aload_n 0, 1) := by decide +kernel
theorem dX5_readHow_12 : decode cX5_readHow 12 = .ok (.bipush 38, 2) := by decide +kernel
theorem dX5_readHow_14 : decode cX5_readHow 14 = .ok (.invokevirtual 39, 3) := by decide +kernel
theorem dX5_readHow_17 : decode cX5_readHow 17 = .ok (.ifCond .eq 5, 3) := by decide +kernel
theorem dX5_readHow_20 : decode cX5_readHow 20 = .ok (.iconst 1, 1) := by decide +kernel
theorem dX5_readHow_21 : decode cX5_readHow 21 = .ok (.ireturn, 1) := by decide +kernel
theorem dX5_readHow_22 : decode cX5_readHow 22 = .ok (.aload_n 0, 1) := by decide +kernel
theorem dX5_readHow_23 : decode cX5_readHow 23 = .ok (.bipush 45, 2) := by decide +kernel
theorem dX5_readHow_25 : decode cX5_readHow 25 = .ok (.invokevirtual 39, 3) := by decide +kernel
theorem dX5_readHow_28 : decode cX5_readHow 28 = .ok (.ifCond .eq 7, 3) := by decide +kernel
theorem dX5_readHow_31 : decode cX5_readHow 31 = .ok (.iconst 2, 1) := by decide +kernel
theorem dX5_readHow_32 : decode cX5_readHow 32 = .ok (.goto 4, 3) := by decide +kernel
theorem dX5_readHow_35 : decode cX5_readHow 35 = .ok (.iconst (-1), 1) := by decide +kernel
theorem dX5_readHow_36 : decode cX5_readHow 36 = .ok (.ireturn, 1) := by decide +kernel
