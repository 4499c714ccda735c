theorem dX6_init_105 : decode cX6_init 105 = .ok (.iinc 1 1, 3) := by decide +kernel
theorem dX6_init_108 : decode cX6_init 108 = .ok (.goto (-21), 3) := by decide +kernel
theorem dX6_init_111 : decode cX6_init 111 = .ok (.return_, 1) := by decide +kernel
theorem dX6_becomeEmpty_0 : decode cX6_becomeEmpty 0 = .ok (.aload_n 0, 1) := by decide +kernel
theorem dX6_becomeEmpty_1 : decode cX6_becomeEmpty 1 = .ok (.getfield 12, 3) := by decide +kernel
theorem dX6_becomeEmpty_4 : decode cX6_becomeEmpty 4 = .ok (.iconst 0, 1) := by decide +kernel
theorem dX6_becomeEmpty_5 : decode cX6_becomeEmpty 5 = .ok (.putfield 40, 3) := by decide +kernel
theorem dX6_becomeEmpty_8 : decode cX6_becomeEmpty 8 = .ok (.aload_n 0, 1) := by decide +kernel
theorem dX6_becomeEmpty_9 : decode cX6_becomeEmpty 9 = .ok (.getfield 12, 3) := by decide +kernel
theorem dX6_becomeEmpty_12 : decode cX6_becomeEmpty 12 = .ok (.iconst 0, 1) := by decide +kernel
theorem dX6_becomeEmpty_13 : decode cX6_becomeEmpty 13 = .ok (.putfield 43, 3) := by decide +kernel
theorem dX6_becomeEmpty_16 : decode cX6_becomeEmpty 16 = .ok (.aload_n 0, 1) := by decide +kernel
theorem dX6_becomeEmpty_17 : decode cX6_becomeEmpty 17 = .ok (.iconst 0, 1) := by decide +kernel
theorem dX6_becomeEmpty_18 : decode cX6_becomeEmpty 18 = .ok (.putfield 29, 3) := by decide +kernel
theorem dX6_becomeEmpty_21 : decode cX6_becomeEmpty 21 = .ok (.return_, 1) := by decide +kernel
theorem dX6_lay_0 : decode cX6_lay 0 = .ok (.aload_n 0, 1) := by decide +kernel
theorem dX6_lay_1 : decode cX6_lay 1 = .ok (.getfield 18, 3) := by decide +kernel
theorem dX6_lay_4 : decode cX6_lay 4 = .ok (.aload_n 0, 1) := by decide +kernel
theorem dX6_lay_5 : decode cX6_lay 5 = .ok (.getfield 12, 3) := by decide +kernel
theorem dX6_lay_8 : decode cX6_lay 8 = .ok (.aload_n 1, 1) := by decide +kernel
theorem dX6_lay_9 : decode cX6_lay 9 = .ok (.getfield 46, 3) := by decide +kernel
theorem dX6_lay_12 : decode cX6_lay 12 = .ok (.aload_n 1, 1) := by decide +kernel
theorem dX6_lay_13 : decode cX6_lay 13 = .ok (.invokevirtual 51, 3) := by decide +kernel
theorem dX6_lay_16 : decode cX6_lay 16 = .ok (.iload_n 2, 1) := by decide +kernel
theorem dX6_lay_17 : decode cX6_lay 17 = .ok (.invokevirtual 55, 3) := by decide +kernel
theorem dX6_lay_20 : decode cX6_lay 20 = .ok (.aload_n 0, 1) := by decide +kernel
theorem dX6_lay_21 : decode cX6_lay 21 = .ok (.getfield 18, 3) := by decide +kernel
theorem dX6_lay_24 : decode cX6_lay 24 = .ok (.aload_n 1, 1) := by decide +kernel
theorem dX6_lay_25 : decode cX6_lay 25 = .ok (.invokevirtual 59, 3) := by decide +kernel
theorem dX6_lay_28 : decode cX6_lay 28 = .ok (.aload_n 0, 1) := by decide +kernel
theorem dX6_lay_29 : decode cX6_lay 29 = .ok (.invokevirtual 63, 3) := by decide +kernel
theorem dX6_lay_32 : decode cX6_lay 32 = .ok (.ireturn, 1) := by decide +kernel
theorem dX6_clear_0 : decode cX6_clear 0 = .ok (.aload_n 0, 1) := by decide +kernel
theorem dX6_clear_1 : decode cX6_clear 1 = .ok (.getfield 18, 3) := by decide +kernel
theorem dX6_clear_4 : decode cX6_clear 4 = .ok (.aload_n 0, 1) := by decide +kernel
theorem dX6_clear_5 : decode cX6_clear 5 = .ok (.getfield 12, 3) := by decide +kernel
theorem dX6_clear_8 : decode cX6_clear 8 = .ok (.iload_n 1, 1) := by decide +kernel
theorem dX6_clear_9 : decode cX6_clear 9 = .ok (.iload_n 2, 1) := by decide +kernel
theorem dX6_clear_10 : decode cX6_clear 10 = .ok (.iconst (-1), 1) := by decide +kernel
theorem dX6_clear_11 : decode cX6_clear 11 = .ok (.invokevirtual 55, 3) := by decide +kernel
theorem dX6_clear_14 : decode cX6_clear 14 = .ok (.aload_n 0, 1) := by decide +kernel
theorem dX6_clear_15 : decode cX6_clear 15 = .ok (.invokevirtual 63, 3) := by decide +kernel
theorem dX6_clear_18 : decode cX6_clear 18 = .ok (.ireturn, 1) := by decide +kernel
theorem dX6_split_0 : decode cX6_split 0 = .ok (.aload_n 0, 1) := by decide +kernel
theorem dX6_split_1 : decode cX6_split 1 = .ok (.getfield 12, 3) := by decide +kernel
theorem dX6_split_4 : decode cX6_split 4 = .ok (.iload_n 1, 1) := by decide +kernel
theorem dX6_split_5 : decode cX6_split 5 = .ok (.invokevirtual 67, 3) := by decide +kernel
theorem dX6_split_8 : decode cX6_split 8 = .ok (.istore_n 2, 1) := by decide +kernel
theorem dX6_split_9 : decode cX6_split 9 = .ok (.iload_n 2, 1) := by decide +kernel
theorem dX6_split_10 : decode cX6_split 10 = .ok (.iconst (-1), 1) := by decide +kernel
theorem dX6_split_11 : decode cX6_split 11 = .ok (.if_icmp .ne 5, 3) := by decide +kernel
theorem dX6_split_14 : decode cX6_split 14 = .ok (.iconst 0, 1) := by decide +kernel
theorem dX6_split_15 : decode cX6_split 15 = .ok (.ireturn, 1) := by decide +kernel
theorem dX6_split_16 : decode cX6_split 16 = .ok (.aload_n 0, 1) := by decide +kernel
theorem dX6_split_17 : decode cX6_split 17 = .ok (.getfield 12, 3) := by decide +kernel
theorem dX6_split_20 : decode cX6_split 20 = .ok (.getfield 71, 3) := by decide +kernel
theorem dX6_split_23 : decode cX6_split 23 = .ok (.iload_n 2, 1) := by decide +kernel
theorem dX6_split_24 : decode cX6_split 24 = .ok (.aaload, 1) := by decide +kernel
theorem dX6_split_25 : decode cX6_split 25 = .ok (.astore_n 3, 1) := by decide +kernel
theorem dX6_split_26 : decode cX6_split 26 = .ok (.aload_n 3, 1) := by decide +kernel
theorem dX6_split_27 : decode cX6_split 27 = .ok (.getfield 46, 3) := by decide +kernel
theorem dX6_split_30 : decode cX6_split 30 = .ok (.iload_n 1, 1) := by decide +kernel
theorem dX6_split_31 : decode cX6_split 31 = .ok (.if_icmp .ne 5, 3) := by decide +kernel
theorem dX6_split_34 : decode cX6_split 34 = .ok (.iconst 0, 1) := by decide +kernel
theorem dX6_split_35 : decode cX6_split 35 = .ok (.ireturn, 1) := by decide +kernel
theorem dX6_split_36 : decode cX6_split 36 = .ok (.aload_n 0, 1) := by decide +kernel
theorem dX6_split_37 : decode cX6_split 37 = .ok (.getfield 18, 3) := by decide +kernel
theorem dX6_split_40 : decode cX6_split 40 = .ok (.aload_n 0, 1) := by decide +kernel
theorem dX6_split_41 : decode cX6_split 41 = .ok (.getfield 12, 3) := by decide +kernel
theorem dX6_split_44 : decode cX6_split 44 = .ok (.iconst 0, 1) := by decide +kernel
theorem dX6_split_45 : decode cX6_split 45 = .ok (.iconst 0, 1) := by decide +kernel
theorem dX6_split_46 : decode cX6_split 46 = .ok (.iload_n 2, 1) := by decide +kernel
theorem dX6_split_47 : decode cX6_split 47 = .ok (.invokevirtual 55, 3) := by decide +kernel
theorem dX6_split_50 : decode cX6_split 50 = .ok (.aload_n 0, 1) := by decide +kernel
theorem dX6_split_51 : decode cX6_split 51 = .ok (.getfield 18, 3) := by decide +kernel
theorem dX6_split_54 : decode cX6_split 54 = .ok (.aload_n 3, 1) := by decide +kernel
theorem dX6_split_55 : decode cX6_split 55 = .ok (.iload_n 1, 1) := by decide +kernel
theorem dX6_split_56 : decode cX6_split 56 = .ok (.invokevirtual 75, 3) := by decide +kernel
theorem dX6_split_59 : decode cX6_split 59 = .ok (.invokevirtual 59, 3) := by decide +kernel
theorem dX6_split_62 : decode cX6_split 62 = .ok (.aload_n 0, 1) := by decide +kernel
theorem dX6_split_63 : decode cX6_split 63 = .ok (.getfield 18, 3) := by decide +kernel
theorem dX6_split_66 : decode cX6_split 66 = .ok (.aload_n 3, 1) := by decide +kernel
theorem dX6_split_67 : decode cX6_split 67 = .ok (.iload_n 1, 1) := by decide +kernel
theorem dX6_split_68 : decode cX6_split 68 = .ok (.invokevirtual 79, 3) := by decide +kernel
theorem dX6_split_71 : decode cX6_split 71 = .ok (.invokevirtual 59, 3) := by decide +kernel
theorem dX6_split_74 : decode cX6_split 74 = .ok (.aload_n 0, 1) := by decide +kernel
theorem dX6_split_75 : decode cX6_split 75 = .ok (.invokevirtual 63, 3) := by decide +kernel
theorem dX6_split_78 : decode cX6_split 78 = .ok (.ireturn, 1) := by decide +kernel
theorem dX6_replace_0 : decode cX6_replace 0 = .ok (.aload_n 0, 1) := by decide +kernel
theorem dX6_replace_1 : decode cX6_replace 1 = .ok (.getfield 18, 3) := by decide +kernel
theorem dX6_replace_4 : decode cX6_replace 4 = .ok (.aload_n 0, 1) := by decide +kernel
theorem dX6_replace_5 : decode cX6_replace 5 = .ok (.getfield 12, 3) := by decide +kernel
theorem dX6_replace_8 : decode cX6_replace 8 = .ok (.invokevirtual 82, 3) := by decide +kernel
theorem dX6_replace_11 : decode cX6_replace 11 = .ok (.iload_n 1, 1) := by decide +kernel
theorem dX6_replace_12 : decode cX6_replace 12 = .ok (.iconst 0, 1) := by decide +kernel
theorem dX6_replace_13 : decode cX6_replace 13 = .ok (.aload_n 0, 1) := by decide +kernel
theorem dX6_replace_14 : decode cX6_replace 14 = .ok (.getfield 18, 3) := by decide +kernel
theorem dX6_replace_17 : decode cX6_replace 17 = .ok (.getfield 40, 3) := by decide +kernel
theorem dX6_replace_20 : decode cX6_replace 20 = .ok (.iconst 1, 1) := by decide +kernel
theorem dX6_replace_21 : decode cX6_replace 21 = .ok (.isub, 1) := by decide +kernel
theorem dX6_replace_22 : decode cX6_replace 22 = .ok (.invokestatic 86, 3) := by decide +kernel
theorem dX6_replace_25 : decode cX6_replace 25 = .ok (.ifCond .eq 13, 3) := by decide +kernel
theorem dX6_replace_28 : decode cX6_replace 28 = .ok (.aload_n 0, 1) := by decide +kernel
theorem dX6_replace_29 : decode cX6_replace 29 = .ok (.getfield 18, 3) := by decide +kernel
theorem dX6_replace_32 : decode cX6_replace 32 = .ok (.getfield 71, 3) := by decide +kernel
theorem dX6_replace_35 : decode cX6_replace 35 = .ok (.iload_n 1, 1) := by decide +kernel
theorem dX6_replace_36 : decode cX6_replace 36 = .ok (.aload_n 2, 1) := by decide +kernel
theorem dX6_replace_37 : decode cX6_replace 37 = .ok (.aastore, 1) := by decide +kernel
theorem dX6_replace_38 : decode cX6_replace 38 = .ok (.aload_n 0, 1) := by decide +kernel
theorem dX6_replace_39 : decode cX6_replace 39 = .ok (.invokevirtual 63, 3) := by decide +kernel
theorem dX6_replace_42 : decode cX6_replace 42 = .ok (.pop, 1) := by decide +kernel
theorem dX6_replace_43 : decode cX6_replace 43 = .ok (.return_, 1) := by decide +kernel
theorem dX6_shiftTo_0 : decode cX6_shiftTo 0 = .ok (.aload_n 0, 1) := by decide +kernel
theorem dX6_shiftTo_1 : decode cX6_shiftTo 1 = .ok (.getfield 18, 3) := by decide +kernel
theorem dX6_shiftTo_4 : decode cX6_shiftTo 4 = .ok (.aload_n 0, 1) := by decide +kernel
theorem dX6_shiftTo_5 : decode cX6_shiftTo 5 = .ok (.getfield 12, 3) := by decide +kernel
theorem dX6_shiftTo_8 : decode cX6_shiftTo 8 = .ok (.invokevirtual 82, 3) := by decide +kernel
theorem dX6_shiftTo_11 : decode cX6_shiftTo 11 = .ok (.aload_n 0, 1) := by decide +kernel
theorem dX6_shiftTo_12 : decode cX6_shiftTo 12 = .ok (.getfield 18, 3) := by decide +kernel
theorem dX6_shiftTo_15 : decode cX6_shiftTo 15 = .ok (.iload_n 1, 1) := by decide +kernel
theorem dX6_shiftTo_16 : decode cX6_shiftTo 16 = .ok (.putfield 43, 3) := by decide +kernel
theorem dX6_shiftTo_19 : decode cX6_shiftTo 19 = .ok (.aload_n 0, 1) := by decide +kernel
theorem dX6_shiftTo_20 : decode cX6_shiftTo 20 = .ok (.invokevirtual 63, 3) := by decide +kernel
theorem dX6_shiftTo_23 : decode cX6_shiftTo 23 = .ok (.pop, 1) := by decide +kernel
theorem dX6_shiftTo_24 : decode cX6_shiftTo 24 = .ok (.return_, 1) := by decide +kernel
theorem dX6_acceptDraft_0 : decode cX6_acceptDraft 0 = .ok (.aload_n 0, 1) := by decide +kernel
theorem dX6_acceptDraft_1 : decode cX6_acceptDraft 1 = .ok (.getfield 18, 3) := by decide +kernel
theorem dX6_acceptDraft_4 : decode cX6_acceptDraft 4 = .ok (.getfield 40, 3) := by decide +kernel
theorem dX6_acceptDraft_7 : decode cX6_acceptDraft 7 = .ok (.bipush 12, 2) := by decide +kernel
theorem dX6_acceptDraft_9 : decode cX6_acceptDraft 9 = .ok (.if_icmp .le 5, 3) := by decide +kernel
theorem dX6_acceptDraft_12 : decode cX6_acceptDraft 12 = .ok (.iconst 0, 1) := by decide +kernel
theorem dX6_acceptDraft_13 : decode cX6_acceptDraft 13 = .ok (.ireturn, 1) := by decide +kernel
theorem dX6_acceptDraft_14 : decode cX6_acceptDraft 14 = .ok (.aload_n 0, 1) := by decide +kernel
theorem dX6_acceptDraft_15 : decode cX6_acceptDraft 15 = .ok (.getfield 21, 3) := by decide +kernel
theorem dX6_acceptDraft_18 : decode cX6_acceptDraft 18 = .ok (.iconst 3, 1) := by decide +kernel
theorem dX6_acceptDraft_19 : decode cX6_acceptDraft 19 = .ok (.aaload, 1) := by decide +kernel
theorem dX6_acceptDraft_20 : decode cX6_acceptDraft 20 = .ok (.astore_n 1, 1) := by decide +kernel
theorem dX6_acceptDraft_21 : decode cX6_acceptDraft 21 = .ok (.iconst 3, 1) := by decide +kernel
theorem dX6_acceptDraft_22 : decode cX6_acceptDraft 22 = .ok (.istore_n 2, 1) := by decide +kernel
theorem dX6_acceptDraft_23 : decode cX6_acceptDraft 23 = .ok (.iload_n 2, 1) := by decide +kernel
theorem dX6_acceptDraft_24 : decode cX6_acceptDraft 24 = .ok (.ifCond .le 23, 3) := by decide +kernel
theorem dX6_acceptDraft_27 : decode cX6_acceptDraft 27 = .ok (.aload_n 0, 1) := by decide +kernel
theorem dX6_acceptDraft_28 : decode cX6_acceptDraft 28 = .ok (.getfield 21, 3) := by decide +kernel
theorem dX6_acceptDraft_31 : decode cX6_acceptDraft 31 = .ok (.iload_n 2, 1) := by decide +kernel
theorem dX6_acceptDraft_32 : decode cX6_acceptDraft 32 = .ok (.aload_n 0, 1) := by decide +kernel
theorem dX6_acceptDraft_33 : decode cX6_acceptDraft 33 = .ok (.getfield 21, 3) := by decide +kernel
theorem dX6_acceptDraft_36 : decode cX6_acceptDraft 36 = .ok (.iload_n 2, 1) := by decide +kernel
theorem dX6_acceptDraft_37 : decode cX6_acceptDraft 37 = .ok (.iconst 1, 1) := by decide +kernel
theorem dX6_acceptDraft_38 : decode cX6_acceptDraft 38 = .ok (.isub, 1) := by decide +kernel
theorem dX6_acceptDraft_39 : decode cX6_acceptDraft 39 = .ok (.aaload, 1) := by decide +kernel
theorem dX6_acceptDraft_40 : decode cX6_acceptDraft 40 = .ok (.aastore, 1) := by decide +kernel
theorem dX6_acceptDraft_41 : decode cX6_acceptDraft 41 = .ok (.iinc 2 (-1), 3) := by decide +kernel
theorem dX6_acceptDraft_44 : decode cX6_acceptDraft 44 = .ok (.goto (-21), 3) := by decide +kernel
theorem dX6_acceptDraft_47 : decode cX6_acceptDraft 47 = .ok (.aload_n 0, 1) := by decide +kernel
theorem dX6_acceptDraft_48 : decode cX6_acceptDraft 48 = .ok (.getfield 21, 3) := by decide +kernel
theorem dX6_acceptDraft_51 : decode cX6_acceptDraft 51 = .ok (.iconst 0, 1) := by decide +kernel
theorem dX6_acceptDraft_52 : decode cX6_acceptDraft 52 = .ok (.aload_n 0, 1) := by decide +kernel
theorem dX6_acceptDraft_53 : decode cX6_acceptDraft 53 = .ok (.getfield 12, 3) := by decide +kernel
theorem dX6_acceptDraft_56 : decode cX6_acceptDraft 56 = .ok (.aastore, 1) := by decide +kernel
theorem dX6_acceptDraft_57 : decode cX6_acceptDraft 57 = .ok (.aload_n 0, 1) := by decide +kernel
theorem dX6_acceptDraft_58 : decode cX6_acceptDraft 58 = .ok (.aload_n 0, 1) := by decide +kernel
theorem dX6_acceptDraft_59 : decode cX6_acceptDraft 59 = .ok (.getfield 18, 3) := by decide +kernel
theorem dX6_acceptDraft_62 : decode cX6_acceptDraft 62 = .ok (.putfield 12, 3) := by decide +kernel
theorem dX6_acceptDraft_65 : decode cX6_acceptDraft 65 = .ok (.aload_n 0, 1) := by decide +kernel
theorem dX6_acceptDraft_66 : decode cX6_acceptDraft 66 = .ok (.aload_n 1, 1) := by decide +kernel
theorem dX6_acceptDraft_67 : decode cX6_acceptDraft 67 = .ok (.putfield 18, 3) := by decide +kernel
theorem dX6_acceptDraft_70 : decode cX6_acceptDraft 70 = .ok (.aload_n 0, 1) := by decide +kernel
theorem dX6_acceptDraft_71 : decode cX6_acceptDraft 71 = .ok (.aload_n 0, 1) := by decide +kernel
theorem dX6_acceptDraft_72 : decode cX6_acceptDraft 72 = .ok (.getfield 25, 3) := by decide +kernel
theorem dX6_acceptDraft_75 : decode cX6_acceptDraft 75 = .ok (.iconst 1, 1) := by decide +kernel
theorem dX6_acceptDraft_76 : decode cX6_acceptDraft 76 = .ok (.iadd, 1) := by decide +kernel
theorem dX6_acceptDraft_77 : decode cX6_acceptDraft 77 = .ok (.iconst 4, 1) := by decide +kernel
theorem dX6_acceptDraft_78 : decode cX6_acceptDraft 78 = .ok (.invokestatic 90, 3) := by decide +kernel
theorem dX6_acceptDraft_81 : decode cX6_acceptDraft 81 = .ok (.putfield 25, 3) := by decide +kernel
theorem dX6_acceptDraft_84 : decode cX6_acceptDraft 84 = .ok (.iconst 1, 1) := by decide +kernel
theorem dX6_acceptDraft_85 : decode cX6_acceptDraft 85 = .ok (.ireturn, 1) := by decide +kernel
theorem dX6_goBack_0 : decode cX6_goBack 0 = .ok (.aload_n 0, 1) := by decide +kernel
theorem dX6_goBack_1 : decode cX6_goBack 1 = .ok (.getfield 25, 3) := by decide +kernel
theorem dX6_goBack_4 : decode cX6_goBack 4 = .ok (.ifCond .gt 5, 3) := by decide +kernel
theorem dX6_goBack_7 : decode cX6_goBack 7 = .ok (.iconst 0, 1) := by decide +kernel
theorem dX6_goBack_8 : decode cX6_goBack 8 = .ok (.ireturn, 1) := by decide +kernel
theorem dX6_goBack_9 : decode cX6_goBack 9 = .ok (.aload_n 0, 1) := by decide +kernel
theorem dX6_goBack_10 : decode cX6_goBack 10 = .ok (.getfield 12, 3) := by decide +kernel
theorem dX6_goBack_13 : decode cX6_goBack 13 = .ok (.astore_n 1, 1) := by decide +kernel
theorem dX6_goBack_14 : decode cX6_goBack 14 = .ok (.aload_n 0, 1) := by decide +kernel
theorem dX6_goBack_15 : decode cX6_goBack 15 = .ok (.aload_n 0, 1) := by decide +kernel
theorem dX6_goBack_16 : decode cX6_goBack 16 = .ok (.getfield 21, 3) := by decide +kernel
theorem dX6_goBack_19 : decode cX6_goBack 19 = .ok (.iconst 0, 1) := by decide +kernel
theorem dX6_goBack_20 : decode cX6_goBack 20 = .ok (.aaload, 1) := by decide +kernel
theorem dX6_goBack_21 : decode cX6_goBack 21 = .ok (.putfield 12, 3) := by decide +kernel
theorem dX6_goBack_24 : decode cX6_goBack 24 = .ok (.iconst 0, 1) := by decide +kernel
theorem dX6_goBack_25 : decode cX6_goBack 25 = .ok (.istore_n 2, 1) := by decide +kernel
theorem dX6_goBack_26 : decode cX6_goBack 26 = .ok (.iload_n 2, 1) := by decide +kernel
theorem dX6_goBack_27 : decode cX6_goBack 27 = .ok (.iconst 3, 1) := by decide +kernel
theorem dX6_goBack_28 : decode cX6_goBack 28 = .ok (.if_icmp .ge 23, 3) := by decide +kernel
theorem dX6_goBack_31 : decode cX6_goBack 31 = .ok (.aload_n 0, 1) := by decide +kernel
theorem dX6_goBack_32 : decode cX6_goBack 32 = .ok (.getfield 21, 3) := by decide +kernel
theorem dX6_goBack_35 : decode cX6_goBack 35 = .ok (.iload_n 2, 1) := by decide +kernel
theorem dX6_goBack_36 : decode cX6_goBack 36 = .ok (.aload_n 0, 1) := by decide +kernel
theorem dX6_goBack_37 : decode cX6_goBack 37 = .ok (.getfield 21, 3) := by decide +kernel
theorem dX6_goBack_40 : decode cX6_goBack 40 = .ok (.iload_n 2, 1) := by decide +kernel
theorem dX6_goBack_41 : decode cX6_goBack 41 = .ok (.iconst 1, 1) := by decide +kernel
theorem dX6_goBack_42 : decode cX6_goBack 42 = .ok (.iadd, 1) := by decide +kernel
theorem dX6_goBack_43 : decode cX6_goBack 43 = .ok (.aaload, 1) := by decide +kernel
theorem dX6_goBack_44 : decode cX6_goBack 44 = .ok (.aastore, 1) := by decide +kernel
theorem dX6_goBack_45 : decode cX6_goBack 45 = .ok (.iinc 2 1, 3) := by decide +kernel
theorem dX6_goBack_48 : decode cX6_goBack 48 = .ok (.goto (-22), 3) := by decide +kernel
theorem dX6_goBack_51 : decode cX6_goBack 51 = .ok (.aload_n 0, 1) := by decide +kernel
theorem dX6_goBack_52 : decode cX6_goBack 52 = .ok (.getfield 21, 3) := by decide +kernel
theorem dX6_goBack_55 : decode cX6_goBack 55 = .ok (.iconst 3, 1) := by decide +kernel
theorem dX6_goBack_56 : decode cX6_goBack 56 = .ok (.aload_n 1, 1) := by decide +kernel
theorem dX6_goBack_57 : decode cX6_goBack 57 = .ok (.aastore, 1) := by decide +kernel
theorem dX6_goBack_58 : decode cX6_goBack 58 = .ok (.aload_n 0, 1) := by decide +kernel
theorem dX6_goBack_59 : decode cX6_goBack 59 = .ok (.dup, 1) := by decide +kernel
theorem dX6_goBack_60 : decode cX6_goBack 60 = .ok (.getfield 25, 3) := by decide +kernel
theorem dX6_goBack_63 : decode cX6_goBack 63 = .ok (.iconst 1, 1) := by decide +kernel
theorem dX6_goBack_64 : decode cX6_goBack 64 = .ok (.isub, 1) := by decide +kernel
theorem dX6_goBack_65 : decode cX6_goBack 65 = .ok (.putfield 25, 3) := by decide +kernel
theorem dX6_goBack_68 : decode cX6_goBack 68 = .ok (.iconst 1, 1) := by decide +kernel
theorem dX6_goBack_69 : decode cX6_goBack 69 = .ok (.ireturn, 1) := by decide +kernel
theorem dX6_store_0 : decode cX6_store 0 = .ok (.aload_n 0, 1) := by decide +kernel
theorem dX6_store_1 : decode cX6_store 1 = .ok (.getfield 33, 3) := by decide +kernel
theorem dX6_store_4 : decode cX6_store 4 = .ok (.iload_n 1, 1) := by decide +kernel
theorem dX6_store_5 : decode cX6_store 5 = .ok (.aaload, 1) := by decide +kernel
theorem dX6_store_6 : decode cX6_store 6 = .ok (.aload_n 0, 1) := by decide +kernel
theorem dX6_store_7 : decode cX6_store 7 = .ok (.getfield 12, 3) := by decide +kernel
theorem dX6_store_10 : decode cX6_store 10 = .ok (.invokevirtual 82, 3) := by decide +kernel
theorem dX6_store_13 : decode cX6_store 13 = .ok (.aload_n 0, 1) := by decide +kernel
theorem dX6_store_14 : decode cX6_store 14 = .ok (.getfield 36, 3) := by decide +kernel
theorem dX6_store_17 : decode cX6_store 17 = .ok (.iload_n 1, 1) := by decide +kernel
theorem dX6_store_18 : decode cX6_store 18 = .ok (.aload_n 0, 1) := by decide +kernel
theorem dX6_store_19 : decode cX6_store 19 = .ok (.getfield 29, 3) := by decide +kernel
theorem dX6_store_22 : decode cX6_store 22 = .ok (.bastore, 1) := by decide +kernel
theorem dX6_store_23 : decode cX6_store 23 = .ok (.return_, 1) := by decide +kernel
theorem dX6_restore_0 : decode cX6_restore 0 = .ok (.aload_n 0, 1) := by decide +kernel
theorem dX6_restore_1 : decode cX6_restore 1 = .ok (.getfield 12, 3) := by decide +kernel
theorem dX6_restore_4 : decode cX6_restore 4 = .ok (.aload_n 0, 1) := by decide +kernel
theorem dX6_restore_5 : decode cX6_restore 5 = .ok (.getfield 33, 3) := by decide +kernel
theorem dX6_restore_8 : decode cX6_restore 8 = .ok (.iload_n 1, 1) := by decide +kernel
theorem dX6_restore_9 : decode cX6_restore 9 = .ok (.aaload, 1) := by decide +kernel
theorem dX6_restore_10 : decode cX6_restore 10 = .ok (.invokevirtual 82, 3) := by decide +kernel
theorem dX6_restore_13 : decode cX6_restore 13 = .ok (.aload_n 0, 1) := by decide +kernel
theorem dX6_restore_14 : decode cX6_restore 14 = .ok (.aload_n 0, 1) := by decide +kernel
theorem dX6_restore_15 : decode cX6_restore 15 = .ok (.getfield 36, 3) := by decide +kernel
theorem dX6_restore_18 : decode cX6_restore 18 = .ok (.iload_n 1, 1) := by decide +kernel
theorem dX6_restore_19 : decode cX6_restore 19 = .ok (.baload, 1) := by decide +kernel
theorem dX6_restore_20 : decode cX6_restore 20 = .ok (.putfield 29, 3) := by decide +kernel
theorem dX6_restore_23 : decode cX6_restore 23 = .ok (.aload_n 0, 1) := by decide +kernel
theorem dX6_restore_24 : decode cX6_restore 24 = .ok (.iconst 0, 1) := by decide +kernel
theorem dX6_restore_25 : decode cX6_restore 25 = .ok (.putfield 25, 3) := by decide +kernel
theorem dX6_restore_28 : decode cX6_restore 28 = .ok (.return_, 1) := by decide +kernel
theorem dX7_init_0 : decode cX7_init 0 = .ok (.aload_n 0, 1) := by decide +kernel
theorem dX7_init_1 : decode cX7_init 1 = .ok (.invokespecial 3, 3) := by decide +kernel
theorem dX7_init_4 : decode cX7_init 4 = .ok (.aload_n 0, 1) := by decide +kernel
theorem dX7_init_5 : decode cX7_init 5 = .ok (.new 9, 3) := by decide +kernel
theorem dX7_init_8 : decode cX7_init 8 = .ok (.dup, 1) := by decide +kernel
theorem dX7_init_9 : decode cX7_init 9 = .ok (.invokespecial 11, 3) := by decide +kernel
theorem dX7_init_12 : decode cX7_init 12 = .ok (.putfield 12, 3) := by decide +kernel
theorem dX7_init_15 : decode cX7_init 15 = .ok (.aload_n 0, 1) := by decide +kernel
theorem dX7_init_16 : decode cX7_init 16 = .ok (.iconst 4, 1) := by decide +kernel
theorem dX7_init_17 : decode cX7_init 17 = .ok (.anewarray 16, 3) := by decide +kernel
theorem dX7_init_20 : decode cX7_init 20 = .ok (.putfield 18, 3) := by decide +kernel
theorem dX7_init_23 : decode cX7_init 23 = .ok (.aload_n 0, 1) := by decide +kernel
theorem dX7_init_24 : decode cX7_init 24 = .ok (.iconst 2, 1) := by decide +kernel
theorem dX7_init_25 : decode cX7_init 25 = .ok (.newarray .boolean, 2) := by decide +kernel
theorem dX7_init_27 : decode cX7_init 27 = .ok (.putfield 22, 3) := by decide +kernel
theorem dX7_init_30 : decode cX7_init 30 = .ok (.aload_n 0, 1) := by decide +kernel
theorem dX7_init_31 : decode cX7_init 31 = .ok (.iconst 3, 1) := by decide +kernel
theorem dX7_init_32 : decode cX7_init 32 = .ok (.anewarray 26, 3) := by decide +kernel
theorem dX7_init_35 : decode cX7_init 35 = .ok (.putfield 28, 3) := by decide +kernel
theorem dX7_init_38 : decode cX7_init 38 = .ok (.aload_n 0, 1) := by decide +kernel
theorem dX7_init_39 : decode cX7_init 39 = .ok (.new 32, 3) := by decide +kernel
theorem dX7_init_42 : decode cX7_init 42 = .ok (.dup, 1) := by decide +kernel
theorem dX7_init_43 : decode cX7_init 43 = .ok (.invokespecial 34, 3) := by decide +kernel
theorem dX7_init_46 : decode cX7_init 46 = .ok (.putfield 35, 3) := by decide +kernel
theorem dX7_init_49 : decode cX7_init 49 = .ok (.aload_n 0, 1) := by decide +kernel
theorem dX7_init_50 : decode cX7_init 50 = .ok (.new 39, 3) := by decide +kernel
theorem dX7_init_53 : decode cX7_init 53 = .ok (.dup, 1) := by decide +kernel
theorem dX7_init_54 : decode cX7_init 54 = .ok (.aload_n 0, 1) := by decide +kernel
theorem dX7_init_55 : decode cX7_init 55 = .ok (.getfield 35, 3) := by decide +kernel
theorem dX7_init_58 : decode cX7_init 58 = .ok (.invokespecial 41, 3) := by decide +kernel
theorem dX7_init_61 : decode cX7_init 61 = .ok (.putfield 44, 3) := by decide +kernel
theorem dX7_init_64 : decode cX7_init 64 = .ok (.iconst 0, 1) := by decide +kernel
theorem dX7_init_65 : decode cX7_init 65 = .ok (.istore_n 1, 1) := by decide +kernel
theorem dX7_init_66 : decode cX7_init 66 = .ok (.iload_n 1, 1) := by decide +kernel
theorem dX7_init_67 : decode cX7_init 67 = .ok (.iconst 4, 1) := by decide +kernel
theorem dX7_init_68 : decode cX7_init 68 = .ok (.if_icmp .ge 22, 3) := by decide +kernel
theorem dX7_init_71 : decode cX7_init 71 = .ok (.aload_n 0, 1) := by decide +kernel
theorem dX7_init_72 : decode cX7_init 72 = .ok (.getfield 18, 3) := by decide +kernel
theorem dX7_init_75 : decode cX7_init 75 = .ok (.iload_n 1, 1) := by decide +kernel
theorem dX7_init_76 : decode cX7_init 76 = .ok (.new 16, 3) := by decide +kernel
theorem dX7_init_79 : decode cX7_init 79 = .ok (.dup, 1) := by decide +kernel
theorem dX7_init_80 : decode cX7_init 80 = .ok (.invokespecial 48, 3) := by decide +kernel
theorem dX7_init_83 : decode cX7_init 83 = .ok (.aastore, 1) := by decide +kernel
theorem dX7_init_84 : decode cX7_init 84 = .ok (.iinc 1 1, 3) := by decide +kernel
theorem dX7_init_87 : decode cX7_init 87 = .ok (.goto (-21), 3) := by decide +kernel
theorem dX7_init_90 : decode cX7_init 90 = .ok (.iconst 0, 1) := by decide +kernel
theorem dX7_init_91 : decode cX7_init 91 = .ok (.istore_n 1, 1) := by decide +kernel
theorem dX7_init_92 : decode cX7_init 92 = .ok (.iload_n 1, 1) := by decide +kernel
theorem dX7_init_93 : decode cX7_init 93 = .ok (.iconst 3, 1) := by decide +kernel
theorem dX7_init_94 : decode cX7_init 94 = .ok (.if_icmp .ge 22, 3) := by decide +kernel
theorem dX7_init_97 : decode cX7_init 97 = .ok (.aload_n 0, 1) := by decide +kernel
theorem dX7_init_98 : decode cX7_init 98 = .ok (.getfield 28, 3) := by decide +kernel
theorem dX7_init_101 : decode cX7_init 101 = .ok (.iload_n 1, 1) := by decide +kernel
theorem dX7_init_102 : decode cX7_init 102 = .ok (.new 26, 3) := by decide +kernel
theorem dX7_init_105 : decode cX7_init 105 = .ok (.dup, 1) := by decide +kernel
theorem dX7_init_106 : decode cX7_init 106 = .ok (.invokespecial 49, 3) := by decide +kernel
theorem dX7_init_109 : decode cX7_init 109 = .ok (.aastore, 1) := by decide +kernel
theorem dX7_init_110 : decode cX7_init 110 = .ok (.iinc 1 1, 3) := by decide +kernel
theorem dX7_init_113 : decode cX7_init 113 = .ok (.goto (-21), 3) := by decide +kernel
theorem dX7_init_116 : decode cX7_init 116 = .ok (.return_, 1) := by decide +kernel
theorem dX7_write_0 : decode cX7_write 0 = .ok (.iload_n 1, 1) := by decide +kernel
theorem dX7_write_1 : decode cX7_write 1 = .ok (.iconst 0, 1) := by decide +kernel
theorem dX7_write_2 : decode cX7_write 2 = .ok (.sipush 255, 3) := by decide +kernel
theorem dX7_write_5 : decode cX7_write 5 = .ok (.invokestatic 50, 3) := by decide +kernel
theorem dX7_write_8 : decode cX7_write 8 = .ok (.ifCond .ne 6, 3) := by decide +kernel
theorem dX7_write_11 : decode cX7_write 11 = .ok (.ldc 54, 2) := by decide +kernel
theorem dX7_write_13 : decode cX7_write 13 = .ok (.ireturn, 1) := by decide +kernel
theorem dX7_write_14 : decode cX7_write 14 = .ok (.aload_n 0, 1) := by decide +kernel
theorem dX7_write_15 : decode cX7_write 15 = .ok (.getfield 35, 3) := by decide +kernel
theorem dX7_write_18 : decode cX7_write 18 = .ok (.getfield 55, 3) := by decide +kernel
theorem dX7_write_21 : decode cX7_write 21 = .ok (.sipush 200, 3) := by decide +kernel
theorem dX7_write_24 : decode cX7_write 24 = .ok (.if_icmp .lt 6, 3) := by decide +kernel
theorem dX7_write_27 : decode cX7_write 27 = .ok (.ldc 59, 2) := by decide +kernel
theorem dX7_write_29 : decode cX7_write 29 = .ok (.ireturn, 1) := by decide +kernel
theorem dX7_write_30 : decode cX7_write 30 = .ok (.aload_n 0, 1) := by decide +kernel
theorem dX7_write_31 : decode cX7_write 31 = .ok (.getfield 35, 3) := by decide +kernel
theorem dX7_write_34 : decode cX7_write 34 = .ok (.iload_n 1, 1) := by decide +kernel
theorem dX7_write_35 : decode cX7_write 35 = .ok (.invokevirtual 60, 3) := by decide +kernel
theorem dX7_write_38 : decode cX7_write 38 = .ok (.aload_n 0, 1) := by decide +kernel
theorem dX7_write_39 : decode cX7_write 39 = .ok (.getfield 35, 3) := by decide +kernel
theorem dX7_write_42 : decode cX7_write 42 = .ok (.getfield 55, 3) := by decide +kernel
theorem dX7_write_45 : decode cX7_write 45 = .ok (.ireturn, 1) := by decide +kernel
theorem dX7_erase_0 : decode cX7_erase 0 = .ok (.aload_n 0, 1) := by decide +kernel
theorem dX7_erase_1 : decode cX7_erase 1 = .ok (.getfield 35, 3) := by decide +kernel
theorem dX7_erase_4 : decode cX7_erase 4 = .ok (.getfield 55, 3) := by decide +kernel
theorem dX7_erase_7 : decode cX7_erase 7 = .ok (.istore_n 1, 1) := by decide +kernel
theorem dX7_erase_8 : decode cX7_erase 8 = .ok (.aload_n 0, 1) := by decide +kernel
theorem dX7_erase_9 : decode cX7_erase 9 = .ok (.getfield 35, 3) := by decide +kernel
theorem dX7_erase_12 : decode cX7_erase 12 = .ok (.iconst 0, 1) := by decide +kernel
theorem dX7_erase_13 : decode cX7_erase 13 = .ok (.putfield 55, 3) := by decide +kernel
theorem dX7_erase_16 : decode cX7_erase 16 = .ok (.iload_n 1, 1) := by decide +kernel
theorem dX7_erase_17 : decode cX7_erase 17 = .ok (.ireturn, 1) := by decide +kernel
theorem dX7_fault_0 : decode cX7_fault 0 = .ok (.aload_n 0, 1) := by decide +kernel
theorem dX7_fault_1 : decode cX7_fault 1 = .ok (.getfield 44, 3) := by decide +kernel
theorem dX7_fault_4 : decode cX7_fault 4 = .ok (.aload_n 0, 1) := by decide +kernel
theorem dX7_fault_5 : decode cX7_fault 5 = .ok (.getfield 12, 3) := by decide +kernel
theorem dX7_fault_8 : decode cX7_fault 8 = .ok (.invokevirtual 64, 3) := by decide +kernel
theorem dX7_fault_11 : decode cX7_fault 11 = .ok (.ireturn, 1) := by decide +kernel
theorem dX7_house_0 : decode cX7_house 0 = .ok (.aload_n 0, 1) := by decide +kernel
theorem dX7_house_1 : decode cX7_house 1 = .ok (.getfield 44, 3) := by decide +kernel
theorem dX7_house_4 : decode cX7_house 4 = .ok (.aload_n 0, 1) := by decide +kernel
theorem dX7_house_5 : decode cX7_house 5 = .ok (.getfield 12, 3) := by decide +kernel
theorem dX7_house_8 : decode cX7_house 8 = .ok (.invokevirtual 64, 3) := by decide +kernel
theorem dX7_house_11 : decode cX7_house 11 = .ok (.iconst (-1), 1) := by decide +kernel
theorem dX7_house_12 : decode cX7_house 12 = .ok (.if_icmp .eq 6, 3) := by decide +kernel
theorem dX7_house_15 : decode cX7_house 15 = .ok (.ldc 68, 2) := by decide +kernel
theorem dX7_house_17 : decode cX7_house 17 = .ok (.ireturn, 1) := by decide +kernel
theorem dX7_house_18 : decode cX7_house 18 = .ok (.iconst 0, 1) := by decide +kernel
theorem dX7_house_19 : decode cX7_house 19 = .ok (.istore_n 1, 1) := by decide +kernel
theorem dX7_house_20 : decode cX7_house 20 = .ok (.iload_n 1, 1) := by decide +kernel
theorem dX7_house_21 : decode cX7_house 21 = .ok (.aload_n 0, 1) := by decide +kernel
theorem dX7_house_22 : decode cX7_house 22 = .ok (.getfield 44, 3) := by decide +kernel
theorem dX7_house_25 : decode cX7_house 25 = .ok (.getfield 69, 3) := by decide +kernel
theorem dX7_house_28 : decode cX7_house 28 = .ok (.if_icmp .ge 22, 3) := by decide +kernel
theorem dX7_house_31 : decode cX7_house 31 = .ok (.aload_n 0, 1) := by decide +kernel
theorem dX7_house_32 : decode cX7_house 32 = .ok (.aload_n 0, 1) := by decide +kernel
theorem dX7_house_33 : decode cX7_house 33 = .ok (.getfield 44, 3) := by decide +kernel
theorem dX7_house_36 : decode cX7_house 36 = .ok (.getfield 72, 3) := by decide +kernel
theorem dX7_house_39 : decode cX7_house 39 = .ok (.iload_n 1, 1) := by decide +kernel
theorem dX7_house_40 : decode cX7_house 40 = .ok (.aaload, 1) := by decide +kernel
theorem dX7_house_41 : decode cX7_house 41 = .ok (.invokevirtual 76, 3) := by decide +kernel
theorem dX7_house_44 : decode cX7_house 44 = .ok (.iinc 1 1, 3) := by decide +kernel
theorem dX7_house_47 : decode cX7_house 47 = .ok (.goto (-27), 3) := by decide +kernel
theorem dX7_house_50 : decode cX7_house 50 = .ok (.aload_n 0, 1) := by decide +kernel
theorem dX7_house_51 : decode cX7_house 51 = .ok (.invokevirtual 80, 3) := by decide +kernel
theorem dX7_house_54 : decode cX7_house 54 = .ok (.aload_n 0, 1) := by decide +kernel
theorem dX7_house_55 : decode cX7_house 55 = .ok (.getfield 35, 3) := by decide +kernel
theorem dX7_house_58 : decode cX7_house 58 = .ok (.iconst 0, 1) := by decide +kernel
theorem dX7_house_59 : decode cX7_house 59 = .ok (.putfield 55, 3) := by decide +kernel
theorem dX7_house_62 : decode cX7_house 62 = .ok (.aload_n 0, 1) := by decide +kernel
theorem dX7_house_63 : decode cX7_house 63 = .ok (.getfield 44, 3) := by decide +kernel
theorem dX7_house_66 : decode cX7_house 66 = .ok (.getfield 69, 3) := by decide +kernel
theorem dX7_house_69 : decode cX7_house 69 = .ok (.ireturn, 1) := by decide +kernel
theorem dX7_sound_0 : decode cX7_sound 0 = .ok (.aload_n 0, 1) := by decide +kernel
theorem dX7_sound_1 : decode cX7_sound 1 = .ok (.iload_n 1, 1) := by decide +kernel
theorem dX7_sound_2 : decode cX7_sound 2 = .ok (.invokevirtual 83, 3) := by decide +kernel
theorem dX7_sound_5 : decode cX7_sound 5 = .ok (.ifCond .ne 6, 3) := by decide +kernel
theorem dX7_sound_8 : decode cX7_sound 8 = .ok (.ldc 87, 2) := by decide +kernel
theorem dX7_sound_10 : decode cX7_sound 10 = .ok (.ireturn, 1) := by decide +kernel
theorem dX7_sound_11 : decode cX7_sound 11 = .ok (.iload_n 2, 1) := by decide +kernel
theorem dX7_sound_12 : decode cX7_sound 12 = .ok (.iconst 0, 1) := by decide +kernel
theorem dX7_sound_13 : decode cX7_sound 13 = .ok (.iconst 3, 1) := by decide +kernel
theorem dX7_sound_14 : decode cX7_sound 14 = .ok (.invokestatic 50, 3) := by decide +kernel
theorem dX7_sound_17 : decode cX7_sound 17 = .ok (.ifCond .ne 6, 3) := by decide +kernel
theorem dX7_sound_20 : decode cX7_sound 20 = .ok (.ldc 54, 2) := by decide +kernel
theorem dX7_sound_22 : decode cX7_sound 22 = .ok (.ireturn, 1) := by decide +kernel
theorem dX7_sound_23 : decode cX7_sound 23 = .ok (.iload_n 2, 1) := by decide +kernel
theorem dX7_sound_24 : decode cX7_sound 24 = .ok (.ifCond .ne 13, 3) := by decide +kernel
theorem dX7_sound_27 : decode cX7_sound 27 = .ok (.aload_n 0, 1) := by decide +kernel
theorem dX7_sound_28 : decode cX7_sound 28 = .ok (.getfield 12, 3) := by decide +kernel
theorem dX7_sound_31 : decode cX7_sound 31 = .ok (.getfield 88, 3) := by decide +kernel
theorem dX7_sound_34 : decode cX7_sound 34 = .ok (.iload_n 1, 1) := by decide +kernel
theorem dX7_sound_35 : decode cX7_sound 35 = .ok (.iaload, 1) := by decide +kernel
theorem dX7_sound_36 : decode cX7_sound 36 = .ok (.ireturn, 1) := by decide +kernel
theorem dX7_sound_37 : decode cX7_sound 37 = .ok (.iload_n 3, 1) := by decide +kernel
theorem dX7_sound_38 : decode cX7_sound 38 = .ok (.iconst 0, 1) := by decide +kernel
theorem dX7_sound_39 : decode cX7_sound 39 = .ok (.aload_n 0, 1) := by decide +kernel
theorem dX7_sound_40 : decode cX7_sound 40 = .ok (.getfield 12, 3) := by decide +kernel
theorem dX7_sound_43 : decode cX7_sound 43 = .ok (.getfield 88, 3) := by decide +kernel
theorem dX7_sound_46 : decode cX7_sound 46 = .ok (.iload_n 1, 1) := by decide +kernel
theorem dX7_sound_47 : decode cX7_sound 47 = .ok (.iaload, 1) := by decide +kernel
theorem dX7_sound_48 : decode cX7_sound 48 = .ok (.iconst 1, 1) := by decide +kernel
theorem dX7_sound_49 : decode cX7_sound 49 = .ok (.isub, 1) := by decide +kernel
theorem dX7_sound_50 : decode cX7_sound 50 = .ok (.invokestatic 50, 3) := by decide +kernel
theorem dX7_sound_53 : decode cX7_sound 53 = .ok (.ifCond .ne 6, 3) := by decide +kernel
theorem dX7_sound_56 : decode cX7_sound 56 = .ok (.ldc 54, 2) := by decide +kernel
theorem dX7_sound_58 : decode cX7_sound 58 = .ok (.ireturn, 1) := by decide +kernel
theorem dX7_sound_59 : decode cX7_sound 59 = .ok (.iload_n 2, 1) := by decide +kernel
theorem dX7_sound_60 : decode cX7_sound 60 = .ok (.lookupswitch 54 #[(1, 28), (2, 41)], 28) := by decide +kernel
theorem dX7_sound_88 : decode cX7_sound 88 = .ok (.aload_n 0, 1) := by decide +kernel
theorem dX7_sound_89 : decode cX7_sound 89 = .ok (.getfield 12, 3) := by decide +kernel
theorem dX7_sound_92 : decode cX7_sound 92 = .ok (.iload_n 1, 1) := by decide +kernel
theorem dX7_sound_93 : decode cX7_sound 93 = .ok (.iload_n 3, 1) := by decide +kernel
theorem dX7_sound_94 : decode cX7_sound 94 = .ok (.invokevirtual 92, 3) := by decide +kernel
theorem dX7_sound_97 : decode cX7_sound 97 = .ok (.invokestatic 96, 3) := by decide +kernel
theorem dX7_sound_100 : decode cX7_sound 100 = .ok (.ireturn, 1) := by decide +kernel
theorem dX7_sound_101 : decode cX7_sound 101 = .ok (.aload_n 0, 1) := by decide +kernel
theorem dX7_sound_102 : decode cX7_sound 102 = .ok (.getfield 12, 3) := by decide +kernel
theorem dX7_sound_105 : decode cX7_sound 105 = .ok (.iload_n 1, 1) := by decide +kernel
theorem dX7_sound_106 : decode cX7_sound 106 = .ok (.iload_n 3, 1) := by decide +kernel
theorem dX7_sound_107 : decode cX7_sound 107 = .ok (.invokevirtual 92, 3) := by decide +kernel
theorem dX7_sound_110 : decode cX7_sound 110 = .ok (.invokestatic 100, 3) := by decide +kernel
theorem dX7_sound_113 : decode cX7_sound 113 = .ok (.ireturn, 1) := by decide +kernel
theorem dX7_sound_114 : decode cX7_sound 114 = .ok (.aload_n 0, 1) := by decide +kernel
theorem dX7_sound_115 : decode cX7_sound 115 = .ok (.iload_n 1, 1) := by decide +kernel
theorem dX7_sound_116 : decode cX7_sound 116 = .ok (.iload_n 3, 1) := by decide +kernel
theorem dX7_sound_117 : decode cX7_sound 117 = .ok (.invokevirtual 103, 3) := by decide +kernel
theorem dX7_sound_120 : decode cX7_sound 120 = .ok (.ireturn, 1) := by decide +kernel
theorem dX7_span_0 : decode cX7_span 0 = .ok (.aload_n 0, 1) := by decide +kernel
theorem dX7_span_1 : decode cX7_span 1 = .ok (.iload_n 1, 1) := by decide +kernel
theorem dX7_span_2 : decode cX7_span 2 = .ok (.iload_n 2, 1) := by decide +kernel
theorem dX7_span_3 : decode cX7_span 3 = .ok (.invokevirtual 107, 3) := by decide +kernel
theorem dX7_span_6 : decode cX7_span 6 = .ok (.ifCond .ne 6, 3) := by decide +kernel
theorem dX7_span_9 : decode cX7_span 9 = .ok (.ldc 87, 2) := by decide +kernel
theorem dX7_span_11 : decode cX7_span 11 = .ok (.ireturn, 1) := by decide +kernel
theorem dX7_span_12 : decode cX7_span 12 = .ok (.aload_n 0, 1) := by decide +kernel
theorem dX7_span_13 : decode cX7_span 13 = .ok (.getfield 18, 3) := by decide +kernel
theorem dX7_span_16 : decode cX7_span 16 = .ok (.iload_n 1, 1) := by decide +kernel
theorem dX7_span_17 : decode cX7_span 17 = .ok (.aaload, 1) := by decide +kernel
theorem dX7_span_18 : decode cX7_span 18 = .ok (.getfield 111, 3) := by decide +kernel
theorem dX7_span_21 : decode cX7_span 21 = .ok (.getfield 115, 3) := by decide +kernel
theorem dX7_span_24 : decode cX7_span 24 = .ok (.iload_n 2, 1) := by decide +kernel
theorem dX7_span_25 : decode cX7_span 25 = .ok (.aaload, 1) := by decide +kernel
theorem dX7_span_26 : decode cX7_span 26 = .ok (.astore 4, 2) := by decide +kernel
theorem dX7_span_28 : decode cX7_span 28 = .ok (.iload_n 3, 1) := by decide +kernel
theorem dX7_span_29 : decode cX7_span 29 = .ok (.tableswitch 85 0 6 #[43, 49, 55, 61, 67, 73, 79], 43) := by decide +kernel
theorem dX7_span_72 : decode cX7_span 72 = .ok (.aload 4, 2) := by decide +kernel
theorem dX7_span_74 : decode cX7_span 74 = .ok (.getfield 121, 3) := by decide +kernel
theorem dX7_span_77 : decode cX7_span 77 = .ok (.ireturn, 1) := by decide +kernel
theorem dX7_span_78 : decode cX7_span 78 = .ok (.aload 4, 2) := by decide +kernel
theorem dX7_span_80 : decode cX7_span 80 = .ok (.getfield 126, 3) := by decide +kernel
theorem dX7_span_83 : decode cX7_span 83 = .ok (.ireturn, 1) := by decide +kernel
theorem dX7_span_84 : decode cX7_span 84 = .ok (.aload 4, 2) := by decide +kernel
theorem dX7_span_86 : decode cX7_span 86 = .ok (.getfield 129, 3) := by decide +kernel
theorem dX7_span_89 : decode cX7_span 89 = .ok (.ireturn, 1) := by decide +kernel
theorem dX7_span_90 : decode cX7_span 90 = .ok (.aload 4, 2) := by decide +kernel
theorem dX7_span_92 : decode cX7_span 92 = .ok (.getfield 132, 3) := by decide +kernel
theorem dX7_span_95 : decode cX7_span 95 = .ok (.ireturn, 1) := by decide +kernel
theorem dX7_span_96 : decode cX7_span 96 = .ok (.aload 4, 2) := by decide +kernel
theorem dX7_span_98 : decode cX7_span 98 = .ok (.getfield 135, 3) := by decide +kernel
theorem dX7_span_101 : decode cX7_span 101 = .ok (.ireturn, 1) := by decide +kernel
theorem dX7_span_102 : decode cX7_span 102 = .ok (.aload 4, 2) := by decide +kernel
theorem dX7_span_104 : decode cX7_span 104 = .ok (.getfield 138, 3) := by decide +kernel
theorem dX7_span_107 : decode cX7_span 107 = .ok (.ireturn, 1) := by decide +kernel
theorem dX7_span_108 : decode cX7_span 108 = .ok (.aload 4, 2) := by decide +kernel
theorem dX7_span_110 : decode cX7_span 110 = .ok (.getfield 141, 3) := by decide +kernel
theorem dX7_span_113 : decode cX7_span 113 = .ok (.ireturn, 1) := by decide +kernel
theorem dX7_span_114 : decode cX7_span 114 = .ok (.ldc 54, 2) := by decide +kernel
theorem dX7_span_116 : decode cX7_span 116 = .ok (.ireturn, 1) := by decide +kernel
theorem dX7_tone_0 : decode cX7_tone 0 = .ok (.iload_n 1, 1) := by decide +kernel
theorem dX7_tone_1 : decode cX7_tone 1 = .ok (.iconst 0, 1) := by decide +kernel
theorem dX7_tone_2 : decode cX7_tone 2 = .ok (.sipush 200, 3) := by decide +kernel
theorem dX7_tone_5 : decode cX7_tone 5 = .ok (.invokestatic 50, 3) := by decide +kernel
theorem dX7_tone_8 : decode cX7_tone 8 = .ok (.ifCond .eq 24, 3) := by decide +kernel
theorem dX7_tone_11 : decode cX7_tone 11 = .ok (.iload_n 2, 1) := by decide +kernel
theorem dX7_tone_12 : decode cX7_tone 12 = .ok (.iconst 0, 1) := by decide +kernel
theorem dX7_tone_13 : decode cX7_tone 13 = .ok (.sipush 200, 3) := by decide +kernel
theorem dX7_tone_16 : decode cX7_tone 16 = .ok (.invokestatic 50, 3) := by decide +kernel
theorem dX7_tone_19 : decode cX7_tone 19 = .ok (.ifCond .eq 13, 3) := by decide +kernel
theorem dX7_tone_22 : decode cX7_tone 22 = .ok (.iload_n 3, 1) := by decide +kernel
theorem dX7_tone_23 : decode cX7_tone 23 = .ok (.iconst 1, 1) := by decide +kernel
theorem dX7_tone_24 : decode cX7_tone 24 = .ok (.bipush 64, 2) := by decide +kernel
theorem dX7_tone_26 : decode cX7_tone 26 = .ok (.invokestatic 50, 3) := by decide +kernel
theorem dX7_tone_29 : decode cX7_tone 29 = .ok (.ifCond .ne 6, 3) := by decide +kernel
theorem dX7_tone_32 : decode cX7_tone 32 = .ok (.ldc 54, 2) := by decide +kernel
theorem dX7_tone_34 : decode cX7_tone 34 = .ok (.ireturn, 1) := by decide +kernel
theorem dX7_tone_35 : decode cX7_tone 35 = .ok (.aload_n 0, 1) := by decide +kernel
theorem dX7_tone_36 : decode cX7_tone 36 = .ok (.getfield 12, 3) := by decide +kernel
theorem dX7_tone_39 : decode cX7_tone 39 = .ok (.getfield 144, 3) := by decide +kernel
theorem dX7_tone_42 : decode cX7_tone 42 = .ok (.bipush 6, 2) := by decide +kernel
theorem dX7_tone_44 : decode cX7_tone 44 = .ok (.if_icmp .lt 6, 3) := by decide +kernel
theorem dX7_tone_47 : decode cX7_tone 47 = .ok (.ldc 59, 2) := by decide +kernel
theorem dX7_tone_49 : decode cX7_tone 49 = .ok (.ireturn, 1) := by decide +kernel
theorem dX7_tone_50 : decode cX7_tone 50 = .ok (.aload_n 0, 1) := by decide +kernel
theorem dX7_tone_51 : decode cX7_tone 51 = .ok (.getfield 12, 3) := by decide +kernel
theorem dX7_tone_54 : decode cX7_tone 54 = .ok (.iload_n 1, 1) := by decide +kernel
theorem dX7_tone_55 : decode cX7_tone 55 = .ok (.iload_n 2, 1) := by decide +kernel
theorem dX7_tone_56 : decode cX7_tone 56 = .ok (.iload_n 3, 1) := by decide +kernel
theorem dX7_tone_57 : decode cX7_tone 57 = .ok (.invokevirtual 147, 3) := by decide +kernel
theorem dX7_tone_60 : decode cX7_tone 60 = .ok (.ireturn, 1) := by decide +kernel
theorem dX7_put_0 : decode cX7_put 0 = .ok (.iload_n 1, 1) := by decide +kernel
theorem dX7_put_1 : decode cX7_put 1 = .ok (.invokestatic 151, 3) := by decide +kernel
theorem dX7_put_4 : decode cX7_put 4 = .ok (.ifCond .eq 11, 3) := by decide +kernel
theorem dX7_put_7 : decode cX7_put 7 = .ok (.aload_n 0, 1) := by decide +kernel
theorem dX7_put_8 : decode cX7_put 8 = .ok (.iload_n 2, 1) := by decide +kernel
theorem dX7_put_9 : decode cX7_put 9 = .ok (.invokevirtual 83, 3) := by decide +kernel
theorem dX7_put_12 : decode cX7_put 12 = .ok (.ifCond .ne 6, 3) := by decide +kernel
theorem dX7_put_15 : decode cX7_put 15 = .ok (.ldc 87, 2) := by decide +kernel
theorem dX7_put_17 : decode cX7_put 17 = .ok (.ireturn, 1) := by decide +kernel
theorem dX7_put_18 : decode cX7_put 18 = .ok (.aload_n 0, 1) := by decide +kernel
theorem dX7_put_19 : decode cX7_put 19 = .ok (.getfield 12, 3) := by decide +kernel
theorem dX7_put_22 : decode cX7_put 22 = .ok (.getfield 88, 3) := by decide +kernel
theorem dX7_put_25 : decode cX7_put 25 = .ok (.iload_n 2, 1) := by decide +kernel
theorem dX7_put_26 : decode cX7_put 26 = .ok (.iaload, 1) := by decide +kernel
theorem dX7_put_27 : decode cX7_put 27 = .ok (.istore 6, 2) := by decide +kernel
theorem dX7_put_29 : decode cX7_put 29 = .ok (.iload_n 3, 1) := by decide +kernel
theorem dX7_put_30 : decode cX7_put 30 = .ok (.iconst 0, 1) := by decide +kernel
theorem dX7_put_31 : decode cX7_put 31 = .ok (.iload 6, 2) := by decide +kernel
theorem dX7_put_33 : decode cX7_put 33 = .ok (.iconst 1, 1) := by decide +kernel
theorem dX7_put_34 : decode cX7_put 34 = .ok (.isub, 1) := by decide +kernel
theorem dX7_put_35 : decode cX7_put 35 = .ok (.invokestatic 50, 3) := by decide +kernel
theorem dX7_put_38 : decode cX7_put 38 = .ok (.ifCond .eq 22, 3) := by decide +kernel
theorem dX7_put_41 : decode cX7_put 41 = .ok (.iload 4, 2) := by decide +kernel
theorem dX7_put_43 : decode cX7_put 43 = .ok (.iload 5, 2) := by decide +kernel
theorem dX7_put_45 : decode cX7_put 45 = .ok (.invokestatic 154, 3) := by decide +kernel
theorem dX7_put_48 : decode cX7_put 48 = .ok (.ifCond .eq 12, 3) := by decide +kernel
theorem dX7_put_51 : decode cX7_put 51 = .ok (.iload 4, 2) := by decide +kernel
theorem dX7_put_53 : decode cX7_put 53 = .ok (.iload 6, 2) := by decide +kernel
theorem dX7_put_55 : decode cX7_put 55 = .ok (.iload_n 3, 1) := by decide +kernel
theorem dX7_put_56 : decode cX7_put 56 = .ok (.isub, 1) := by decide +kernel
theorem dX7_put_57 : decode cX7_put 57 = .ok (.if_icmp .le 6, 3) := by decide +kernel
theorem dX7_put_60 : decode cX7_put 60 = .ok (.ldc 54, 2) := by decide +kernel
theorem dX7_put_62 : decode cX7_put 62 = .ok (.ireturn, 1) := by decide +kernel
theorem dX7_put_63 : decode cX7_put 63 = .ok (.aload_n 0, 1) := by decide +kernel
theorem dX7_put_64 : decode cX7_put 64 = .ok (.getfield 18, 3) := by decide +kernel
theorem dX7_put_67 : decode cX7_put 67 = .ok (.iload_n 1, 1) := by decide +kernel
theorem dX7_put_68 : decode cX7_put 68 = .ok (.aaload, 1) := by decide +kernel
theorem dX7_put_69 : decode cX7_put 69 = .ok (.astore 7, 2) := by decide +kernel
theorem dX7_put_71 : decode cX7_put 71 = .ok (.aload 7, 2) := by decide +kernel
theorem dX7_put_73 : decode cX7_put 73 = .ok (.new 122, 3) := by decide +kernel
theorem dX7_put_76 : decode cX7_put 76 = .ok (.dup, 1) := by decide +kernel
theorem dX7_put_77 : decode cX7_put 77 = .ok (.iload_n 2, 1) := by decide +kernel
theorem dX7_put_78 : decode cX7_put 78 = .ok (.iload_n 3, 1) := by decide +kernel
theorem dX7_put_79 : decode cX7_put 79 = .ok (.iload 4, 2) := by decide +kernel
theorem dX7_put_81 : decode cX7_put 81 = .ok (.iload 5, 2) := by decide +kernel
theorem dX7_put_83 : decode cX7_put 83 = .ok (.bipush 8, 2) := by decide +kernel
theorem dX7_put_85 : decode cX7_put 85 = .ok (.iconst 0, 1) := by decide +kernel
theorem dX7_put_86 : decode cX7_put 86 = .ok (.iconst 0, 1) := by decide +kernel
theorem dX7_put_87 : decode cX7_put 87 = .ok (.invokespecial 157, 3) := by decide +kernel
theorem dX7_put_90 : decode cX7_put 90 = .ok (.iconst (-1), 1) := by decide +kernel
theorem dX7_put_91 : decode cX7_put 91 = .ok (.invokevirtual 160, 3) := by decide +kernel
theorem dX7_put_94 : decode cX7_put 94 = .ok (.ifCond .ne 6, 3) := by decide +kernel
theorem dX7_put_97 : decode cX7_put 97 = .ok (.ldc 68, 2) := by decide +kernel
theorem dX7_put_99 : decode cX7_put 99 = .ok (.ireturn, 1) := by decide +kernel
theorem dX7_put_100 : decode cX7_put 100 = .ok (.aload 7, 2) := by decide +kernel
theorem dX7_put_102 : decode cX7_put 102 = .ok (.getfield 111, 3) := by decide +kernel
theorem dX7_put_105 : decode cX7_put 105 = .ok (.getfield 164, 3) := by decide +kernel
theorem dX7_put_108 : decode cX7_put 108 = .ok (.ireturn, 1) := by decide +kernel
theorem dX7_fade_0 : decode cX7_fade 0 = .ok (.aload_n 0, 1) := by decide +kernel
theorem dX7_fade_1 : decode cX7_fade 1 = .ok (.iload_n 1, 1) := by decide +kernel
theorem dX7_fade_2 : decode cX7_fade 2 = .ok (.iload_n 2, 1) := by decide +kernel
theorem dX7_fade_3 : decode cX7_fade 3 = .ok (.invokevirtual 107, 3) := by decide +kernel
theorem dX7_fade_6 : decode cX7_fade 6 = .ok (.ifCond .ne 6, 3) := by decide +kernel
theorem dX7_fade_9 : decode cX7_fade 9 = .ok (.ldc 87, 2) := by decide +kernel
theorem dX7_fade_11 : decode cX7_fade 11 = .ok (.ireturn, 1) := by decide +kernel
theorem dX7_fade_12 : decode cX7_fade 12 = .ok (.aload_n 0, 1) := by decide +kernel
theorem dX7_fade_13 : decode cX7_fade 13 = .ok (.getfield 18, 3) := by decide +kernel
theorem dX7_fade_16 : decode cX7_fade 16 = .ok (.iload_n 1, 1) := by decide +kernel
theorem dX7_fade_17 : decode cX7_fade 17 = .ok (.aaload, 1) := by decide +kernel
theorem dX7_fade_18 : decode cX7_fade 18 = .ok (.getfield 111, 3) := by decide +kernel
theorem dX7_fade_21 : decode cX7_fade 21 = .ok (.getfield 115, 3) := by decide +kernel
theorem dX7_fade_24 : decode cX7_fade 24 = .ok (.iload_n 2, 1) := by decide +kernel
theorem dX7_fade_25 : decode cX7_fade 25 = .ok (.aaload, 1) := by decide +kernel
theorem dX7_fade_26 : decode cX7_fade 26 = .ok (.astore 5, 2) := by decide +kernel
theorem dX7_fade_28 : decode cX7_fade 28 = .ok (.aload 5, 2) := by decide +kernel
theorem dX7_fade_30 : decode cX7_fade 30 = .ok (.iload_n 3, 1) := by decide +kernel
theorem dX7_fade_31 : decode cX7_fade 31 = .ok (.iload 4, 2) := by decide +kernel
theorem dX7_fade_33 : decode cX7_fade 33 = .ok (.invokevirtual 165, 3) := by decide +kernel
theorem dX7_fade_36 : decode cX7_fade 36 = .ok (.ifCond .ne 6, 3) := by decide +kernel
theorem dX7_fade_39 : decode cX7_fade 39 = .ok (.ldc 54, 2) := by decide +kernel
theorem dX7_fade_41 : decode cX7_fade 41 = .ok (.ireturn, 1) := by decide +kernel
theorem dX7_fade_42 : decode cX7_fade 42 = .ok (.aload_n 0, 1) := by decide +kernel
theorem dX7_fade_43 : decode cX7_fade 43 = .ok (.getfield 18, 3) := by decide +kernel
theorem dX7_fade_46 : decode cX7_fade 46 = .ok (.iload_n 1, 1) := by decide +kernel
theorem dX7_fade_47 : decode cX7_fade 47 = .ok (.aaload, 1) := by decide +kernel
theorem dX7_fade_48 : decode cX7_fade 48 = .ok (.iload_n 2, 1) := by decide +kernel
theorem dX7_fade_49 : decode cX7_fade 49 = .ok (.aload 5, 2) := by decide +kernel
theorem dX7_fade_51 : decode cX7_fade 51 = .ok (.iload_n 3, 1) := by decide +kernel
theorem dX7_fade_52 : decode cX7_fade 52 = .ok (.iload 4, 2) := by decide +kernel
theorem dX7_fade_54 : decode cX7_fade 54 = .ok (.invokevirtual 168, 3) := by decide +kernel
theorem dX7_fade_57 : decode cX7_fade 57 = .ok (.invokevirtual 172, 3) := by decide +kernel
theorem dX7_fade_60 : decode cX7_fade 60 = .ok (.aload 5, 2) := by decide +kernel
theorem dX7_fade_62 : decode cX7_fade 62 = .ok (.getfield 138, 3) := by decide +kernel
theorem dX7_fade_65 : decode cX7_fade 65 = .ok (.ireturn, 1) := by decide +kernel
theorem dX7_gain_0 : decode cX7_gain 0 = .ok (.aload_n 0, 1) := by decide +kernel
theorem dX7_gain_1 : decode cX7_gain 1 = .ok (.iload_n 1, 1) := by decide +kernel
theorem dX7_gain_2 : decode cX7_gain 2 = .ok (.iload_n 2, 1) := by decide +kernel
theorem dX7_gain_3 : decode cX7_gain 3 = .ok (.invokevirtual 107, 3) := by decide +kernel
theorem dX7_gain_6 : decode cX7_gain 6 = .ok (.ifCond .ne 6, 3) := by decide +kernel
theorem dX7_gain_9 : decode cX7_gain 9 = .ok (.ldc 87, 2) := by decide +kernel
theorem dX7_gain_11 : decode cX7_gain 11 = .ok (.ireturn, 1) := by decide +kernel
theorem dX7_gain_12 : decode cX7_gain 12 = .ok (.iload_n 3, 1) := by decide +kernel
theorem dX7_gain_13 : decode cX7_gain 13 = .ok (.iconst 0, 1) := by decide +kernel
theorem dX7_gain_14 : decode cX7_gain 14 = .ok (.bipush 16, 2) := by decide +kernel
theorem dX7_gain_16 : decode cX7_gain 16 = .ok (.invokestatic 50, 3) := by decide +kernel
theorem dX7_gain_19 : decode cX7_gain 19 = .ok (.ifCond .ne 6, 3) := by decide +kernel
theorem dX7_gain_22 : decode cX7_gain 22 = .ok (.ldc 54, 2) := by decide +kernel
theorem dX7_gain_24 : decode cX7_gain 24 = .ok (.ireturn, 1) := by decide +kernel
theorem dX7_gain_25 : decode cX7_gain 25 = .ok (.aload_n 0, 1) := by decide +kernel
theorem dX7_gain_26 : decode cX7_gain 26 = .ok (.getfield 18, 3) := by decide +kernel
theorem dX7_gain_29 : decode cX7_gain 29 = .ok (.iload_n 1, 1) := by decide +kernel
theorem dX7_gain_30 : decode cX7_gain 30 = .ok (.aaload, 1) := by decide +kernel
theorem dX7_gain_31 : decode cX7_gain 31 = .ok (.getfield 111, 3) := by decide +kernel
theorem dX7_gain_34 : decode cX7_gain 34 = .ok (.getfield 115, 3) := by decide +kernel
theorem dX7_gain_37 : decode cX7_gain 37 = .ok (.iload_n 2, 1) := by decide +kernel
theorem dX7_gain_38 : decode cX7_gain 38 = .ok (.aaload, 1) := by decide +kernel
theorem dX7_gain_39 : decode cX7_gain 39 = .ok (.astore 4, 2) := by decide +kernel
theorem dX7_gain_41 : decode cX7_gain 41 = .ok (.aload_n 0, 1) := by decide +kernel
theorem dX7_gain_42 : decode cX7_gain 42 = .ok (.getfield 18, 3) := by decide +kernel
theorem dX7_gain_45 : decode cX7_gain 45 = .ok (.iload_n 1, 1) := by decide +kernel
theorem dX7_gain_46 : decode cX7_gain 46 = .ok (.aaload, 1) := by decide +kernel
theorem dX7_gain_47 : decode cX7_gain 47 = .ok (.iload_n 2, 1) := by decide +kernel
theorem dX7_gain_48 : decode cX7_gain 48 = .ok (.aload 4, 2) := by decide +kernel
theorem dX7_gain_50 : decode cX7_gain 50 = .ok (.iload_n 3, 1) := by decide +kernel
theorem dX7_gain_51 : decode cX7_gain 51 = .ok (.invokevirtual 176, 3) := by decide +kernel
theorem dX7_gain_54 : decode cX7_gain 54 = .ok (.invokevirtual 172, 3) := by decide +kernel
theorem dX7_gain_57 : decode cX7_gain 57 = .ok (.aload 4, 2) := by decide +kernel
theorem dX7_gain_59 : decode cX7_gain 59 = .ok (.getfield 135, 3) := by decide +kernel
theorem dX7_gain_62 : decode cX7_gain 62 = .ok (.ireturn, 1) := by decide +kernel
theorem dX7_wipe_0 : decode cX7_wipe 0 = .ok (.iload_n 1, 1) := by decide +kernel
theorem dX7_wipe_1 : decode cX7_wipe 1 = .ok (.invokestatic 151, 3) := by decide +kernel
theorem dX7_wipe_4 : decode cX7_wipe 4 = .ok (.ifCond .ne 6, 3) := by decide +kernel
theorem dX7_wipe_7 : decode cX7_wipe 7 = .ok (.ldc 87, 2) := by decide +kernel
theorem dX7_wipe_9 : decode cX7_wipe 9 = .ok (.ireturn, 1) := by decide +kernel
theorem dX7_wipe_10 : decode cX7_wipe 10 = .ok (.iload_n 2, 1) := by decide +kernel
theorem dX7_wipe_11 : decode cX7_wipe 11 = .ok (.invokestatic 180, 3) := by decide +kernel
theorem dX7_wipe_14 : decode cX7_wipe 14 = .ok (.ifCond .eq 14, 3) := by decide +kernel
theorem dX7_wipe_17 : decode cX7_wipe 17 = .ok (.iload_n 3, 1) := by decide +kernel
theorem dX7_wipe_18 : decode cX7_wipe 18 = .ok (.iload_n 2, 1) := by decide +kernel
theorem dX7_wipe_19 : decode cX7_wipe 19 = .ok (.sipush 128, 3) := by decide +kernel
theorem dX7_wipe_22 : decode cX7_wipe 22 = .ok (.invokestatic 50, 3) := by decide +kernel
theorem dX7_wipe_25 : decode cX7_wipe 25 = .ok (.ifCond .ne 6, 3) := by decide +kernel
theorem dX7_wipe_28 : decode cX7_wipe 28 = .ok (.ldc 54, 2) := by decide +kernel
theorem dX7_wipe_30 : decode cX7_wipe 30 = .ok (.ireturn, 1) := by decide +kernel
theorem dX7_wipe_31 : decode cX7_wipe 31 = .ok (.aload_n 0, 1) := by decide +kernel
theorem dX7_wipe_32 : decode cX7_wipe 32 = .ok (.getfield 18, 3) := by decide +kernel
theorem dX7_wipe_35 : decode cX7_wipe 35 = .ok (.iload_n 1, 1) := by decide +kernel
theorem dX7_wipe_36 : decode cX7_wipe 36 = .ok (.aaload, 1) := by decide +kernel
theorem dX7_wipe_37 : decode cX7_wipe 37 = .ok (.iload_n 2, 1) := by decide +kernel
theorem dX7_wipe_38 : decode cX7_wipe 38 = .ok (.iload_n 3, 1) := by decide +kernel
theorem dX7_wipe_39 : decode cX7_wipe 39 = .ok (.invokevirtual 183, 3) := by decide +kernel
theorem dX7_wipe_42 : decode cX7_wipe 42 = .ok (.ifCond .eq 18, 3) := by decide +kernel
theorem dX7_wipe_45 : decode cX7_wipe 45 = .ok (.aload_n 0, 1) := by decide +kernel
theorem dX7_wipe_46 : decode cX7_wipe 46 = .ok (.getfield 18, 3) := by decide +kernel
theorem dX7_wipe_49 : decode cX7_wipe 49 = .ok (.iload_n 1, 1) := by decide +kernel
theorem dX7_wipe_50 : decode cX7_wipe 50 = .ok (.aaload, 1) := by decide +kernel
theorem dX7_wipe_51 : decode cX7_wipe 51 = .ok (.getfield 111, 3) := by decide +kernel
theorem dX7_wipe_54 : decode cX7_wipe 54 = .ok (.getfield 164, 3) := by decide +kernel
theorem dX7_wipe_57 : decode cX7_wipe 57 = .ok (.goto 5, 3) := by decide +kernel
theorem dX7_wipe_60 : decode cX7_wipe 60 = .ok (.ldc 68, 2) := by decide +kernel
theorem dX7_wipe_62 : decode cX7_wipe 62 = .ok (.ireturn, 1) := by decide +kernel
theorem dX7_cut_0 : decode cX7_cut 0 = .ok (.iload_n 1, 1) := by decide +kernel
theorem dX7_cut_1 : decode cX7_cut 1 = .ok (.invokestatic 151, 3) := by decide +kernel
theorem dX7_cut_4 : decode cX7_cut 4 = .ok (.ifCond .ne 6, 3) := by decide +kernel
theorem dX7_cut_7 : decode cX7_cut 7 = .ok (.ldc 87, 2) := by decide +kernel
theorem dX7_cut_9 : decode cX7_cut 9 = .ok (.ireturn, 1) := by decide +kernel
theorem dX7_cut_10 : decode cX7_cut 10 = .ok (.iload_n 2, 1) := by decide +kernel
theorem dX7_cut_11 : decode cX7_cut 11 = .ok (.iconst 1, 1) := by decide +kernel
theorem dX7_cut_12 : decode cX7_cut 12 = .ok (.bipush 127, 2) := by decide +kernel
theorem dX7_cut_14 : decode cX7_cut 14 = .ok (.invokestatic 50, 3) := by decide +kernel
theorem dX7_cut_17 : decode cX7_cut 17 = .ok (.ifCond .ne 6, 3) := by decide +kernel
theorem dX7_cut_20 : decode cX7_cut 20 = .ok (.ldc 54, 2) := by decide +kernel
theorem dX7_cut_22 : decode cX7_cut 22 = .ok (.ireturn, 1) := by decide +kernel
theorem dX7_cut_23 : decode cX7_cut 23 = .ok (.aload_n 0, 1) := by decide +kernel
theorem dX7_cut_24 : decode cX7_cut 24 = .ok (.getfield 18, 3) := by decide +kernel
theorem dX7_cut_27 : decode cX7_cut 27 = .ok (.iload_n 1, 1) := by decide +kernel
theorem dX7_cut_28 : decode cX7_cut 28 = .ok (.aaload, 1) := by decide +kernel
theorem dX7_cut_29 : decode cX7_cut 29 = .ok (.iload_n 2, 1) := by decide +kernel
theorem dX7_cut_30 : decode cX7_cut 30 = .ok (.invokevirtual 186, 3) := by decide +kernel
theorem dX7_cut_33 : decode cX7_cut 33 = .ok (.ifCond .eq 18, 3) := by decide +kernel
theorem dX7_cut_36 : decode cX7_cut 36 = .ok (.aload_n 0, 1) := by decide +kernel
theorem dX7_cut_37 : decode cX7_cut 37 = .ok (.getfield 18, 3) := by decide +kernel
theorem dX7_cut_40 : decode cX7_cut 40 = .ok (.iload_n 1, 1) := by decide +kernel
theorem dX7_cut_41 : decode cX7_cut 41 = .ok (.aaload, 1) := by decide +kernel
theorem dX7_cut_42 : decode cX7_cut 42 = .ok (.getfield 111, 3) := by decide +kernel
theorem dX7_cut_45 : decode cX7_cut 45 = .ok (.getfield 164, 3) := by decide +kernel
theorem dX7_cut_48 : decode cX7_cut 48 = .ok (.goto 5, 3) := by decide +kernel
theorem dX7_cut_51 : decode cX7_cut 51 = .ok (.ldc 68, 2) := by decide +kernel
theorem dX7_cut_53 : decode cX7_cut 53 = .ok (.ireturn, 1) := by decide +kernel
theorem dX7_move_0 : decode cX7_move 0 = .ok (.aload_n 0, 1) := by decide +kernel
theorem dX7_move_1 : decode cX7_move 1 = .ok (.iload_n 1, 1) := by decide +kernel
theorem dX7_move_2 : decode cX7_move 2 = .ok (.iload_n 2, 1) := by decide +kernel
theorem dX7_move_3 : decode cX7_move 3 = .ok (.invokevirtual 107, 3) := by decide +kernel
theorem dX7_move_6 : decode cX7_move 6 = .ok (.ifCond .ne 6, 3) := by decide +kernel
theorem dX7_move_9 : decode cX7_move 9 = .ok (.ldc 87, 2) := by decide +kernel
theorem dX7_move_11 : decode cX7_move 11 = .ok (.ireturn, 1) := by decide +kernel
theorem dX7_move_12 : decode cX7_move 12 = .ok (.aload_n 0, 1) := by decide +kernel
theorem dX7_move_13 : decode cX7_move 13 = .ok (.getfield 18, 3) := by decide +kernel
theorem dX7_move_16 : decode cX7_move 16 = .ok (.iload_n 1, 1) := by decide +kernel
theorem dX7_move_17 : decode cX7_move 17 = .ok (.aaload, 1) := by decide +kernel
theorem dX7_move_18 : decode cX7_move 18 = .ok (.getfield 111, 3) := by decide +kernel
theorem dX7_move_21 : decode cX7_move 21 = .ok (.getfield 115, 3) := by decide +kernel
theorem dX7_move_24 : decode cX7_move 24 = .ok (.iload_n 2, 1) := by decide +kernel
theorem dX7_move_25 : decode cX7_move 25 = .ok (.aaload, 1) := by decide +kernel
theorem dX7_move_26 : decode cX7_move 26 = .ok (.astore 4, 2) := by decide +kernel
theorem dX7_move_28 : decode cX7_move 28 = .ok (.aload 4, 2) := by decide +kernel
theorem dX7_move_30 : decode cX7_move 30 = .ok (.getfield 129, 3) := by decide +kernel
theorem dX7_move_33 : decode cX7_move 33 = .ok (.iload_n 3, 1) := by decide +kernel
theorem dX7_move_34 : decode cX7_move 34 = .ok (.invokestatic 154, 3) := by decide +kernel
theorem dX7_move_37 : decode cX7_move 37 = .ok (.ifCond .ne 6, 3) := by decide +kernel
theorem dX7_move_40 : decode cX7_move 40 = .ok (.ldc 54, 2) := by decide +kernel
theorem dX7_move_42 : decode cX7_move 42 = .ok (.ireturn, 1) := by decide +kernel
theorem dX7_move_43 : decode cX7_move 43 = .ok (.aload_n 0, 1) := by decide +kernel
theorem dX7_move_44 : decode cX7_move 44 = .ok (.getfield 18, 3) := by decide +kernel
theorem dX7_move_47 : decode cX7_move 47 = .ok (.iload_n 1, 1) := by decide +kernel
theorem dX7_move_48 : decode cX7_move 48 = .ok (.aaload, 1) := by decide +kernel
theorem dX7_move_49 : decode cX7_move 49 = .ok (.aload 4, 2) := by decide +kernel
theorem dX7_move_51 : decode cX7_move 51 = .ok (.iload_n 3, 1) := by decide +kernel
theorem dX7_move_52 : decode cX7_move 52 = .ok (.invokevirtual 189, 3) := by decide +kernel
theorem dX7_move_55 : decode cX7_move 55 = .ok (.iload_n 2, 1) := by decide +kernel
theorem dX7_move_56 : decode cX7_move 56 = .ok (.invokevirtual 160, 3) := by decide +kernel
theorem dX7_move_59 : decode cX7_move 59 = .ok (.ifCond .eq 18, 3) := by decide +kernel
theorem dX7_move_62 : decode cX7_move 62 = .ok (.aload_n 0, 1) := by decide +kernel
theorem dX7_move_63 : decode cX7_move 63 = .ok (.getfield 18, 3) := by decide +kernel
theorem dX7_move_66 : decode cX7_move 66 = .ok (.iload_n 1, 1) := by decide +kernel
theorem dX7_move_67 : decode cX7_move 67 = .ok (.aaload, 1) := by decide +kernel
theorem dX7_move_68 : decode cX7_move 68 = .ok (.getfield 111, 3) := by decide +kernel
theorem dX7_move_71 : decode cX7_move 71 = .ok (.getfield 164, 3) := by decide +kernel
theorem dX7_move_74 : decode cX7_move 74 = .ok (.goto 5, 3) := by decide +kernel
theorem dX7_move_77 : decode cX7_move 77 = .ok (.ldc 68, 2) := by decide +kernel
theorem dX7_move_79 : decode cX7_move 79 = .ok (.ireturn, 1) := by decide +kernel
theorem dX7_shift_0 : decode cX7_shift 0 = .ok (.iload_n 1, 1) := by decide +kernel
theorem dX7_shift_1 : decode cX7_shift 1 = .ok (.invokestatic 151, 3) := by decide +kernel
theorem dX7_shift_4 : decode cX7_shift 4 = .ok (.ifCond .ne 6, 3) := by decide +kernel
theorem dX7_shift_7 : decode cX7_shift 7 = .ok (.ldc 87, 2) := by decide +kernel
theorem dX7_shift_9 : decode cX7_shift 9 = .ok (.ireturn, 1) := by decide +kernel
theorem dX7_shift_10 : decode cX7_shift 10 = .ok (.iload_n 2, 1) := by decide +kernel
theorem dX7_shift_11 : decode cX7_shift 11 = .ok (.bipush (-16), 2) := by decide +kernel
theorem dX7_shift_13 : decode cX7_shift 13 = .ok (.bipush 16, 2) := by decide +kernel
theorem dX7_shift_15 : decode cX7_shift 15 = .ok (.invokestatic 50, 3) := by decide +kernel
theorem dX7_shift_18 : decode cX7_shift 18 = .ok (.ifCond .ne 6, 3) := by decide +kernel
theorem dX7_shift_21 : decode cX7_shift 21 = .ok (.ldc 54, 2) := by decide +kernel
theorem dX7_shift_23 : decode cX7_shift 23 = .ok (.ireturn, 1) := by decide +kernel
theorem dX7_shift_24 : decode cX7_shift 24 = .ok (.aload_n 0, 1) := by decide +kernel
theorem dX7_shift_25 : decode cX7_shift 25 = .ok (.getfield 18, 3) := by decide +kernel
theorem dX7_shift_28 : decode cX7_shift 28 = .ok (.iload_n 1, 1) := by decide +kernel
theorem dX7_shift_29 : decode cX7_shift 29 = .ok (.aaload, 1) := by decide +kernel
theorem dX7_shift_30 : decode cX7_shift 30 = .ok (.getfield 111, 3) := by decide +kernel
theorem dX7_shift_33 : decode cX7_shift 33 = .ok (.getfield 192, 3) := by decide +kernel
theorem dX7_shift_36 : decode cX7_shift 36 = .ok (.istore_n 3, 1) := by decide +kernel
theorem dX7_shift_37 : decode cX7_shift 37 = .ok (.aload_n 0, 1) := by decide +kernel
theorem dX7_shift_38 : decode cX7_shift 38 = .ok (.getfield 18, 3) := by decide +kernel
theorem dX7_shift_41 : decode cX7_shift 41 = .ok (.iload_n 1, 1) := by decide +kernel
theorem dX7_shift_42 : decode cX7_shift 42 = .ok (.aaload, 1) := by decide +kernel
theorem dX7_shift_43 : decode cX7_shift 43 = .ok (.iload_n 2, 1) := by decide +kernel
theorem dX7_shift_44 : decode cX7_shift 44 = .ok (.invokevirtual 195, 3) := by decide +kernel
theorem dX7_shift_47 : decode cX7_shift 47 = .ok (.iload_n 3, 1) := by decide +kernel
theorem dX7_shift_48 : decode cX7_shift 48 = .ok (.ireturn, 1) := by decide +kernel
theorem dX7_shut_0 : decode cX7_shut 0 = .ok (.iload_n 1, 1) := by decide +kernel
theorem dX7_shut_1 : decode cX7_shut 1 = .ok (.invokestatic 151, 3) := by decide +kernel
theorem dX7_shut_4 : decode cX7_shut 4 = .ok (.ifCond .ne 6, 3) := by decide +kernel
theorem dX7_shut_7 : decode cX7_shut 7 = .ok (.ldc 87, 2) := by decide +kernel
theorem dX7_shut_9 : decode cX7_shut 9 = .ok (.ireturn, 1) := by decide +kernel
theorem dX7_shut_10 : decode cX7_shut 10 = .ok (.aload_n 0, 1) := by decide +kernel
theorem dX7_shut_11 : decode cX7_shut 11 = .ok (.getfield 18, 3) := by decide +kernel
theorem dX7_shut_14 : decode cX7_shut 14 = .ok (.iload_n 1, 1) := by decide +kernel
theorem dX7_shut_15 : decode cX7_shut 15 = .ok (.aaload, 1) := by decide +kernel
theorem dX7_shut_16 : decode cX7_shut 16 = .ok (.astore_n 2, 1) := by decide +kernel
theorem dX7_shut_17 : decode cX7_shut 17 = .ok (.aload_n 2, 1) := by decide +kernel
theorem dX7_shut_18 : decode cX7_shut 18 = .ok (.aload_n 2, 1) := by decide +kernel
theorem dX7_shut_19 : decode cX7_shut 19 = .ok (.getfield 198, 3) := by decide +kernel
theorem dX7_shut_22 : decode cX7_shut 22 = .ok (.ifCond .ne 7, 3) := by decide +kernel
theorem dX7_shut_25 : decode cX7_shut 25 = .ok (.iconst 1, 1) := by decide +kernel
theorem dX7_shut_26 : decode cX7_shut 26 = .ok (.goto 4, 3) := by decide +kernel
theorem dX7_shut_29 : decode cX7_shut 29 = .ok (.iconst 0, 1) := by decide +kernel
theorem dX7_shut_30 : decode cX7_shut 30 = .ok (.putfield 198, 3) := by decide +kernel
theorem dX7_shut_33 : decode cX7_shut 33 = .ok (.aload_n 2, 1) := by decide +kernel
theorem dX7_shut_34 : decode cX7_shut 34 = .ok (.getfield 198, 3) := by decide +kernel
theorem dX7_shut_37 : decode cX7_shut 37 = .ok (.ifCond .eq 7, 3) := by decide +kernel
theorem dX7_shut_40 : decode cX7_shut 40 = .ok (.iconst 1, 1) := by decide +kernel
theorem dX7_shut_41 : decode cX7_shut 41 = .ok (.goto 4, 3) := by decide +kernel
theorem dX7_shut_44 : decode cX7_shut 44 = .ok (.iconst 0, 1) := by decide +kernel
theorem dX7_shut_45 : decode cX7_shut 45 = .ok (.ireturn, 1) := by decide +kernel
theorem dX7_bounce_0 : decode cX7_bounce 0 = .ok (.iload_n 2, 1) := by decide +kernel
theorem dX7_bounce_1 : decode cX7_bounce 1 = .ok (.iload_n 1, 1) := by decide +kernel
theorem dX7_bounce_2 : decode cX7_bounce 2 = .ok (.invokestatic 154, 3) := by decide +kernel
theorem dX7_bounce_5 : decode cX7_bounce 5 = .ok (.ifCond .ne 6, 3) := by decide +kernel
theorem dX7_bounce_8 : decode cX7_bounce 8 = .ok (.ldc 54, 2) := by decide +kernel
theorem dX7_bounce_10 : decode cX7_bounce 10 = .ok (.ireturn, 1) := by decide +kernel
theorem dX7_bounce_11 : decode cX7_bounce 11 = .ok (.aload_n 0, 1) := by decide +kernel
theorem dX7_bounce_12 : decode cX7_bounce 12 = .ok (.getfield 12, 3) := by decide +kernel
theorem dX7_bounce_15 : decode cX7_bounce 15 = .ok (.getfield 144, 3) := by decide +kernel
theorem dX7_bounce_18 : decode cX7_bounce 18 = .ok (.bipush 6, 2) := by decide +kernel
theorem dX7_bounce_20 : decode cX7_bounce 20 = .ok (.if_icmp .lt 6, 3) := by decide +kernel
theorem dX7_bounce_23 : decode cX7_bounce 23 = .ok (.ldc 59, 2) := by decide +kernel
theorem dX7_bounce_25 : decode cX7_bounce 25 = .ok (.ireturn, 1) := by decide +kernel
theorem dX7_bounce_26 : decode cX7_bounce 26 = .ok (.aload_n 0, 1) := by decide +kernel
theorem dX7_bounce_27 : decode cX7_bounce 27 = .ok (.getfield 12, 3) := by decide +kernel
theorem dX7_bounce_30 : decode cX7_bounce 30 = .ok (.iload_n 2, 1) := by decide +kernel
theorem dX7_bounce_31 : decode cX7_bounce 31 = .ok (.invokevirtual 202, 3) := by decide +kernel
theorem dX7_bounce_34 : decode cX7_bounce 34 = .ok (.istore_n 3, 1) := by decide +kernel
theorem dX7_bounce_35 : decode cX7_bounce 35 = .ok (.iconst 0, 1) := by decide +kernel
theorem dX7_bounce_36 : decode cX7_bounce 36 = .ok (.istore 4, 2) := by decide +kernel
theorem dX7_bounce_38 : decode cX7_bounce 38 = .ok (.iload 4, 2) := by decide +kernel
theorem dX7_bounce_40 : decode cX7_bounce 40 = .ok (.iload_n 2, 1) := by decide +kernel
theorem dX7_bounce_41 : decode cX7_bounce 41 = .ok (.if_icmp .ge 27, 3) := by decide +kernel
theorem dX7_bounce_44 : decode cX7_bounce 44 = .ok (.aload_n 0, 1) := by decide +kernel
theorem dX7_bounce_45 : decode cX7_bounce 45 = .ok (.getfield 12, 3) := by decide +kernel
theorem dX7_bounce_48 : decode cX7_bounce 48 = .ok (.iload_n 3, 1) := by decide +kernel
theorem dX7_bounce_49 : decode cX7_bounce 49 = .ok (.iload 4, 2) := by decide +kernel
theorem dX7_bounce_51 : decode cX7_bounce 51 = .ok (.aload_n 0, 1) := by decide +kernel
theorem dX7_bounce_52 : decode cX7_bounce 52 = .ok (.iload_n 1, 1) := by decide +kernel
theorem dX7_bounce_53 : decode cX7_bounce 53 = .ok (.iload 4, 2) := by decide +kernel
theorem dX7_bounce_55 : decode cX7_bounce 55 = .ok (.iadd, 1) := by decide +kernel
theorem dX7_bounce_56 : decode cX7_bounce 56 = .ok (.invokevirtual 206, 3) := by decide +kernel
theorem dX7_bounce_59 : decode cX7_bounce 59 = .ok (.invokevirtual 210, 3) := by decide +kernel
theorem dX7_bounce_62 : decode cX7_bounce 62 = .ok (.iinc 4 1, 3) := by decide +kernel
theorem dX7_bounce_65 : decode cX7_bounce 65 = .ok (.goto (-27), 3) := by decide +kernel
theorem dX7_bounce_68 : decode cX7_bounce 68 = .ok (.iload_n 3, 1) := by decide +kernel
theorem dX7_bounce_69 : decode cX7_bounce 69 = .ok (.ireturn, 1) := by decide +kernel
theorem dX7_undo_0 : decode cX7_undo 0 = .ok (.iload_n 1, 1) := by decide +kernel
theorem dX7_undo_1 : decode cX7_undo 1 = .ok (.invokestatic 151, 3) := by decide +kernel
theorem dX7_undo_4 : decode cX7_undo 4 = .ok (.ifCond .ne 6, 3) := by decide +kernel
theorem dX7_undo_7 : decode cX7_undo 7 = .ok (.ldc 87, 2) := by decide +kernel
theorem dX7_undo_9 : decode cX7_undo 9 = .ok (.ireturn, 1) := by decide +kernel
theorem dX7_undo_10 : decode cX7_undo 10 = .ok (.aload_n 0, 1) := by decide +kernel
theorem dX7_undo_11 : decode cX7_undo 11 = .ok (.getfield 18, 3) := by decide +kernel
theorem dX7_undo_14 : decode cX7_undo 14 = .ok (.iload_n 1, 1) := by decide +kernel
theorem dX7_undo_15 : decode cX7_undo 15 = .ok (.aaload, 1) := by decide +kernel
theorem dX7_undo_16 : decode cX7_undo 16 = .ok (.invokevirtual 214, 3) := by decide +kernel
theorem dX7_undo_19 : decode cX7_undo 19 = .ok (.ifCond .eq 15, 3) := by decide +kernel
theorem dX7_undo_22 : decode cX7_undo 22 = .ok (.aload_n 0, 1) := by decide +kernel
theorem dX7_undo_23 : decode cX7_undo 23 = .ok (.getfield 18, 3) := by decide +kernel
theorem dX7_undo_26 : decode cX7_undo 26 = .ok (.iload_n 1, 1) := by decide +kernel
theorem dX7_undo_27 : decode cX7_undo 27 = .ok (.aaload, 1) := by decide +kernel
theorem dX7_undo_28 : decode cX7_undo 28 = .ok (.getfield 218, 3) := by decide +kernel
theorem dX7_undo_31 : decode cX7_undo 31 = .ok (.goto 5, 3) := by decide +kernel
theorem dX7_undo_34 : decode cX7_undo 34 = .ok (.ldc 68, 2) := by decide +kernel
theorem dX7_undo_36 : decode cX7_undo 36 = .ok (.ireturn, 1) := by decide +kernel
theorem dX7_keep_0 : decode cX7_keep 0 = .ok (.iload_n 1, 1) := by decide +kernel
theorem dX7_keep_1 : decode cX7_keep 1 = .ok (.iconst 0, 1) := by decide +kernel
theorem dX7_keep_2 : decode cX7_keep 2 = .ok (.iconst 1, 1) := by decide +kernel
theorem dX7_keep_3 : decode cX7_keep 3 = .ok (.invokestatic 50, 3) := by decide +kernel
theorem dX7_keep_6 : decode cX7_keep 6 = .ok (.ifCond .ne 6, 3) := by decide +kernel
theorem dX7_keep_9 : decode cX7_keep 9 = .ok (.ldc 54, 2) := by decide +kernel
theorem dX7_keep_11 : decode cX7_keep 11 = .ok (.ireturn, 1) := by decide +kernel
theorem dX7_keep_12 : decode cX7_keep 12 = .ok (.iconst 0, 1) := by decide +kernel
theorem dX7_keep_13 : decode cX7_keep 13 = .ok (.istore_n 2, 1) := by decide +kernel
theorem dX7_keep_14 : decode cX7_keep 14 = .ok (.iload_n 2, 1) := by decide +kernel
theorem dX7_keep_15 : decode cX7_keep 15 = .ok (.iconst 4, 1) := by decide +kernel
theorem dX7_keep_16 : decode cX7_keep 16 = .ok (.if_icmp .ge 19, 3) := by decide +kernel
theorem dX7_keep_19 : decode cX7_keep 19 = .ok (.aload_n 0, 1) := by decide +kernel
theorem dX7_keep_20 : decode cX7_keep 20 = .ok (.getfield 18, 3) := by decide +kernel
theorem dX7_keep_23 : decode cX7_keep 23 = .ok (.iload_n 2, 1) := by decide +kernel
theorem dX7_keep_24 : decode cX7_keep 24 = .ok (.aaload, 1) := by decide +kernel
theorem dX7_keep_25 : decode cX7_keep 25 = .ok (.iload_n 1, 1) := by decide +kernel
theorem dX7_keep_26 : decode cX7_keep 26 = .ok (.invokevirtual 221, 3) := by decide +kernel
theorem dX7_keep_29 : decode cX7_keep 29 = .ok (.iinc 2 1, 3) := by decide +kernel
theorem dX7_keep_32 : decode cX7_keep 32 = .ok (.goto (-18), 3) := by decide +kernel
theorem dX7_keep_35 : decode cX7_keep 35 = .ok (.aload_n 0, 1) := by decide +kernel
theorem dX7_keep_36 : decode cX7_keep 36 = .ok (.getfield 22, 3) := by decide +kernel
theorem dX7_keep_39 : decode cX7_keep 39 = .ok (.iload_n 1, 1) := by decide +kernel
theorem dX7_keep_40 : decode cX7_keep 40 = .ok (.iconst 1, 1) := by decide +kernel
theorem dX7_keep_41 : decode cX7_keep 41 = .ok (.bastore, 1) := by decide +kernel
theorem dX7_keep_42 : decode cX7_keep 42 = .ok (.aload_n 0, 1) := by decide +kernel
theorem dX7_keep_43 : decode cX7_keep 43 = .ok (.invokevirtual 224, 3) := by decide +kernel
theorem dX7_keep_46 : decode cX7_keep 46 = .ok (.ireturn, 1) := by decide +kernel
theorem dX7_back_0 : decode cX7_back 0 = .ok (.iload_n 1, 1) := by decide +kernel
theorem dX7_back_1 : decode cX7_back 1 = .ok (.iconst 0, 1) := by decide +kernel
theorem dX7_back_2 : decode cX7_back 2 = .ok (.iconst 1, 1) := by decide +kernel
theorem dX7_back_3 : decode cX7_back 3 = .ok (.invokestatic 50, 3) := by decide +kernel
theorem dX7_back_6 : decode cX7_back 6 = .ok (.ifCond .ne 6, 3) := by decide +kernel
theorem dX7_back_9 : decode cX7_back 9 = .ok (.ldc 54, 2) := by decide +kernel
theorem dX7_back_11 : decode cX7_back 11 = .ok (.ireturn, 1) := by decide +kernel
theorem dX7_back_12 : decode cX7_back 12 = .ok (.aload_n 0, 1) := by decide +kernel
theorem dX7_back_13 : decode cX7_back 13 = .ok (.getfield 22, 3) := by decide +kernel
theorem dX7_back_16 : decode cX7_back 16 = .ok (.iload_n 1, 1) := by decide +kernel
theorem dX7_back_17 : decode cX7_back 17 = .ok (.baload, 1) := by decide +kernel
theorem dX7_back_18 : decode cX7_back 18 = .ok (.ifCond .ne 6, 3) := by decide +kernel
theorem dX7_back_21 : decode cX7_back 21 = .ok (.ldc 68, 2) := by decide +kernel
theorem dX7_back_23 : decode cX7_back 23 = .ok (.ireturn, 1) := by decide +kernel
theorem dX7_back_24 : decode cX7_back 24 = .ok (.iconst 0, 1) := by decide +kernel
theorem dX7_back_25 : decode cX7_back 25 = .ok (.istore_n 2, 1) := by decide +kernel
theorem dX7_back_26 : decode cX7_back 26 = .ok (.iload_n 2, 1) := by decide +kernel
theorem dX7_back_27 : decode cX7_back 27 = .ok (.iconst 4, 1) := by decide +kernel
theorem dX7_back_28 : decode cX7_back 28 = .ok (.if_icmp .ge 19, 3) := by decide +kernel
theorem dX7_back_31 : decode cX7_back 31 = .ok (.aload_n 0, 1) := by decide +kernel
theorem dX7_back_32 : decode cX7_back 32 = .ok (.getfield 18, 3) := by decide +kernel
theorem dX7_back_35 : decode cX7_back 35 = .ok (.iload_n 2, 1) := by decide +kernel
theorem dX7_back_36 : decode cX7_back 36 = .ok (.aaload, 1) := by decide +kernel
theorem dX7_back_37 : decode cX7_back 37 = .ok (.iload_n 1, 1) := by decide +kernel
theorem dX7_back_38 : decode cX7_back 38 = .ok (.invokevirtual 228, 3) := by decide +kernel
theorem dX7_back_41 : decode cX7_back 41 = .ok (.iinc 2 1, 3) := by decide +kernel
theorem dX7_back_44 : decode cX7_back 44 = .ok (.goto (-18), 3) := by decide +kernel
theorem dX7_back_47 : decode cX7_back 47 = .ok (.aload_n 0, 1) := by decide +kernel
theorem dX7_back_48 : decode cX7_back 48 = .ok (.invokevirtual 224, 3) := by decide +kernel
theorem dX7_back_51 : decode cX7_back 51 = .ok (.ireturn, 1) := by decide +kernel
theorem dX7_heard_0 : decode cX7_heard 0 = .ok (.iload_n 1, 1) := by decide +kernel
theorem dX7_heard_1 : decode cX7_heard 1 = .ok (.invokestatic 180, 3) := by decide +kernel
theorem dX7_heard_4 : decode cX7_heard 4 = .ok (.ifCond .eq 14, 3) := by decide +kernel
theorem dX7_heard_7 : decode cX7_heard 7 = .ok (.aload_n 0, 1) := by decide +kernel
theorem dX7_heard_8 : decode cX7_heard 8 = .ok (.iload_n 1, 1) := by decide +kernel
theorem dX7_heard_9 : decode cX7_heard 9 = .ok (.invokevirtual 206, 3) := by decide +kernel
theorem dX7_heard_12 : decode cX7_heard 12 = .ok (.invokestatic 96, 3) := by decide +kernel
theorem dX7_heard_15 : decode cX7_heard 15 = .ok (.goto 5, 3) := by decide +kernel
theorem dX7_heard_18 : decode cX7_heard 18 = .ok (.ldc 54, 2) := by decide +kernel
theorem dX7_heard_20 : decode cX7_heard 20 = .ok (.ireturn, 1) := by decide +kernel
theorem dX7_exact_0 : decode cX7_exact 0 = .ok (.iload_n 1, 1) := by decide +kernel
theorem dX7_exact_1 : decode cX7_exact 1 = .ok (.invokestatic 180, 3) := by decide +kernel
theorem dX7_exact_4 : decode cX7_exact 4 = .ok (.ifCond .eq 15, 3) := by decide +kernel
theorem dX7_exact_7 : decode cX7_exact 7 = .ok (.aload_n 0, 1) := by decide +kernel
theorem dX7_exact_8 : decode cX7_exact 8 = .ok (.iload_n 1, 1) := by decide +kernel
theorem dX7_exact_9 : decode cX7_exact 9 = .ok (.invokevirtual 206, 3) := by decide +kernel
theorem dX7_exact_12 : decode cX7_exact 12 = .ok (.invokestatic 100, 3) := by decide +kernel
theorem dX7_exact_15 : decode cX7_exact 15 = .ok (.i2l, 1) := by decide +kernel
theorem dX7_exact_16 : decode cX7_exact 16 = .ok (.goto 6, 3) := by decide +kernel
theorem dX7_exact_19 : decode cX7_exact 19 = .ok (.ldc2_w 231, 3) := by decide +kernel
theorem dX7_exact_22 : decode cX7_exact 22 = .ok (.lreturn, 1) := by decide +kernel
theorem dX7_sum_0 : decode cX7_sum 0 = .ok (.iload_n 1, 1) := by decide +kernel
theorem dX7_sum_1 : decode cX7_sum 1 = .ok (.invokestatic 180, 3) := by decide +kernel
theorem dX7_sum_4 : decode cX7_sum 4 = .ok (.ifCond .eq 15, 3) := by decide +kernel
theorem dX7_sum_7 : decode cX7_sum 7 = .ok (.iload_n 2, 1) := by decide +kernel
theorem dX7_sum_8 : decode cX7_sum 8 = .ok (.invokestatic 180, 3) := by decide +kernel
theorem dX7_sum_11 : decode cX7_sum 11 = .ok (.ifCond .eq 8, 3) := by decide +kernel
theorem dX7_sum_14 : decode cX7_sum 14 = .ok (.iload_n 1, 1) := by decide +kernel
theorem dX7_sum_15 : decode cX7_sum 15 = .ok (.iload_n 2, 1) := by decide +kernel
theorem dX7_sum_16 : decode cX7_sum 16 = .ok (.if_icmp .le 7, 3) := by decide +kernel
theorem dX7_sum_19 : decode cX7_sum 19 = .ok (.ldc2_w 231, 3) := by decide +kernel
theorem dX7_sum_22 : decode cX7_sum 22 = .ok (.lreturn, 1) := by decide +kernel
theorem dX7_sum_23 : decode cX7_sum 23 = .ok (.dconst 0, 1) := by decide +kernel
theorem dX7_sum_24 : decode cX7_sum 24 = .ok (.dstore_n 3, 1) := by decide +kernel
theorem dX7_sum_25 : decode cX7_sum 25 = .ok (.iload_n 1, 1) := by decide +kernel
theorem dX7_sum_26 : decode cX7_sum 26 = .ok (.istore 5, 2) := by decide +kernel
theorem dX7_sum_28 : decode cX7_sum 28 = .ok (.iload 5, 2) := by decide +kernel
theorem dX7_sum_30 : decode cX7_sum 30 = .ok (.iload_n 2, 1) := by decide +kernel
theorem dX7_sum_31 : decode cX7_sum 31 = .ok (.if_icmp .gt 19, 3) := by decide +kernel
theorem dX7_sum_34 : decode cX7_sum 34 = .ok (.dload_n 3, 1) := by decide +kernel
theorem dX7_sum_35 : decode cX7_sum 35 = .ok (.aload_n 0, 1) := by decide +kernel
theorem dX7_sum_36 : decode cX7_sum 36 = .ok (.iload 5, 2) := by decide +kernel
theorem dX7_sum_38 : decode cX7_sum 38 = .ok (.invokevirtual 206, 3) := by decide +kernel
theorem dX7_sum_41 : decode cX7_sum 41 = .ok (.f2d, 1) := by decide +kernel
theorem dX7_sum_42 : decode cX7_sum 42 = .ok (.dadd, 1) := by decide +kernel
theorem dX7_sum_43 : decode cX7_sum 43 = .ok (.dstore_n 3, 1) := by decide +kernel
theorem dX7_sum_44 : decode cX7_sum 44 = .ok (.iinc 5 1, 3) := by decide +kernel
theorem dX7_sum_47 : decode cX7_sum 47 = .ok (.goto (-19), 3) := by decide +kernel
theorem dX7_sum_50 : decode cX7_sum 50 = .ok (.dload_n 3, 1) := by decide +kernel
theorem dX7_sum_51 : decode cX7_sum 51 = .ok (.invokestatic 233, 3) := by decide +kernel
theorem dX7_sum_54 : decode cX7_sum 54 = .ok (.lreturn, 1) := by decide +kernel
theorem dX7_played_0 : decode cX7_played 0 = .ok (.iload_n 1, 1) := by decide +kernel
theorem dX7_played_1 : decode cX7_played 1 = .ok (.invokestatic 151, 3) := by decide +kernel
theorem dX7_played_4 : decode cX7_played 4 = .ok (.ifCond .ne 6, 3) := by decide +kernel
theorem dX7_played_7 : decode cX7_played 7 = .ok (.ldc 87, 2) := by decide +kernel
theorem dX7_played_9 : decode cX7_played 9 = .ok (.ireturn, 1) := by decide +kernel
theorem dX7_played_10 : decode cX7_played 10 = .ok (.iload_n 2, 1) := by decide +kernel
theorem dX7_played_11 : decode cX7_played 11 = .ok (.invokestatic 180, 3) := by decide +kernel
theorem dX7_played_14 : decode cX7_played 14 = .ok (.ifCond .eq 23, 3) := by decide +kernel
theorem dX7_played_17 : decode cX7_played 17 = .ok (.aload_n 0, 1) := by decide +kernel
theorem dX7_played_18 : decode cX7_played 18 = .ok (.aload_n 0, 1) := by decide +kernel
theorem dX7_played_19 : decode cX7_played 19 = .ok (.getfield 18, 3) := by decide +kernel
theorem dX7_played_22 : decode cX7_played 22 = .ok (.iload_n 1, 1) := by decide +kernel
theorem dX7_played_23 : decode cX7_played 23 = .ok (.aaload, 1) := by decide +kernel
theorem dX7_played_24 : decode cX7_played 24 = .ok (.getfield 111, 3) := by decide +kernel
theorem dX7_played_27 : decode cX7_played 27 = .ok (.iload_n 2, 1) := by decide +kernel
theorem dX7_played_28 : decode cX7_played 28 = .ok (.invokevirtual 237, 3) := by decide +kernel
theorem dX7_played_31 : decode cX7_played 31 = .ok (.invokestatic 96, 3) := by decide +kernel
theorem dX7_played_34 : decode cX7_played 34 = .ok (.goto 5, 3) := by decide +kernel
theorem dX7_played_37 : decode cX7_played 37 = .ok (.ldc 54, 2) := by decide +kernel
theorem dX7_played_39 : decode cX7_played 39 = .ok (.ireturn, 1) := by decide +kernel
theorem dX7_covers_0 : decode cX7_covers 0 = .ok (.iload_n 1, 1) := by decide +kernel
theorem dX7_covers_1 : decode cX7_covers 1 = .ok (.invokestatic 151, 3) := by decide +kernel
theorem dX7_covers_4 : decode cX7_covers 4 = .ok (.ifCond .ne 6, 3) := by decide +kernel
theorem dX7_covers_7 : decode cX7_covers 7 = .ok (.ldc 87, 2) := by decide +kernel
theorem dX7_covers_9 : decode cX7_covers 9 = .ok (.ireturn, 1) := by decide +kernel
theorem dX7_covers_10 : decode cX7_covers 10 = .ok (.iload_n 2, 1) := by decide +kernel
theorem dX7_covers_11 : decode cX7_covers 11 = .ok (.iload_n 3, 1) := by decide +kernel
theorem dX7_covers_12 : decode cX7_covers 12 = .ok (.invokestatic 154, 3) := by decide +kernel
theorem dX7_covers_15 : decode cX7_covers 15 = .ok (.ifCond .eq 22, 3) := by decide +kernel
theorem dX7_covers_18 : decode cX7_covers 18 = .ok (.aload_n 0, 1) := by decide +kernel
theorem dX7_covers_19 : decode cX7_covers 19 = .ok (.getfield 18, 3) := by decide +kernel
theorem dX7_covers_22 : decode cX7_covers 22 = .ok (.iload_n 1, 1) := by decide +kernel
theorem dX7_covers_23 : decode cX7_covers 23 = .ok (.aaload, 1) := by decide +kernel
theorem dX7_covers_24 : decode cX7_covers 24 = .ok (.getfield 111, 3) := by decide +kernel
theorem dX7_covers_27 : decode cX7_covers 27 = .ok (.iload_n 3, 1) := by decide +kernel
theorem dX7_covers_28 : decode cX7_covers 28 = .ok (.iload_n 3, 1) := by decide +kernel
theorem dX7_covers_29 : decode cX7_covers 29 = .ok (.iload_n 2, 1) := by decide +kernel
theorem dX7_covers_30 : decode cX7_covers 30 = .ok (.iadd, 1) := by decide +kernel
theorem dX7_covers_31 : decode cX7_covers 31 = .ok (.invokevirtual 241, 3) := by decide +kernel
theorem dX7_covers_34 : decode cX7_covers 34 = .ok (.goto 5, 3) := by decide +kernel
theorem dX7_covers_37 : decode cX7_covers 37 = .ok (.ldc 54, 2) := by decide +kernel
theorem dX7_covers_39 : decode cX7_covers 39 = .ok (.ireturn, 1) := by decide +kernel
theorem dX7_rack_0 : decode cX7_rack 0 = .ok (.iload_n 1, 1) := by decide +kernel
theorem dX7_rack_1 : decode cX7_rack 1 = .ok (.invokestatic 244, 3) := by decide +kernel
theorem dX7_rack_4 : decode cX7_rack 4 = .ok (.ifCond .ne 6, 3) := by decide +kernel
theorem dX7_rack_7 : decode cX7_rack 7 = .ok (.ldc 87, 2) := by decide +kernel
theorem dX7_rack_9 : decode cX7_rack 9 = .ok (.ireturn, 1) := by decide +kernel
theorem dX7_rack_10 : decode cX7_rack 10 = .ok (.iload_n 2, 1) := by decide +kernel
theorem dX7_rack_11 : decode cX7_rack 11 = .ok (.iconst 0, 1) := by decide +kernel
theorem dX7_rack_12 : decode cX7_rack 12 = .ok (.iconst 2, 1) := by decide +kernel
theorem dX7_rack_13 : decode cX7_rack 13 = .ok (.invokestatic 50, 3) := by decide +kernel
theorem dX7_rack_16 : decode cX7_rack 16 = .ok (.ifCond .eq 9, 3) := by decide +kernel
theorem dX7_rack_19 : decode cX7_rack 19 = .ok (.iload_n 3, 1) := by decide +kernel
theorem dX7_rack_20 : decode cX7_rack 20 = .ok (.bipush 8, 2) := by decide +kernel
theorem dX7_rack_22 : decode cX7_rack 22 = .ok (.if_icmp .le 6, 3) := by decide +kernel
theorem dX7_rack_25 : decode cX7_rack 25 = .ok (.ldc 54, 2) := by decide +kernel
theorem dX7_rack_27 : decode cX7_rack 27 = .ok (.ireturn, 1) := by decide +kernel
theorem dX7_rack_28 : decode cX7_rack 28 = .ok (.iload_n 3, 1) := by decide +kernel
theorem dX7_rack_29 : decode cX7_rack 29 = .ok (.ifCond .ge 6, 3) := by decide +kernel
theorem dX7_rack_32 : decode cX7_rack 32 = .ok (.ldc 247, 2) := by decide +kernel
theorem dX7_rack_34 : decode cX7_rack 34 = .ok (.ireturn, 1) := by decide +kernel
theorem dX7_rack_35 : decode cX7_rack 35 = .ok (.aload_n 0, 1) := by decide +kernel
theorem dX7_rack_36 : decode cX7_rack 36 = .ok (.getfield 28, 3) := by decide +kernel
theorem dX7_rack_39 : decode cX7_rack 39 = .ok (.iload_n 1, 1) := by decide +kernel
theorem dX7_rack_40 : decode cX7_rack 40 = .ok (.aaload, 1) := by decide +kernel
theorem dX7_rack_41 : decode cX7_rack 41 = .ok (.iload_n 2, 1) := by decide +kernel
theorem dX7_rack_42 : decode cX7_rack 42 = .ok (.iload_n 3, 1) := by decide +kernel
theorem dX7_rack_43 : decode cX7_rack 43 = .ok (.invokevirtual 248, 3) := by decide +kernel
theorem dX7_rack_46 : decode cX7_rack 46 = .ok (.iload_n 3, 1) := by decide +kernel
theorem dX7_rack_47 : decode cX7_rack 47 = .ok (.ireturn, 1) := by decide +kernel
theorem dX7_hang_0 : decode cX7_hang 0 = .ok (.iload_n 1, 1) := by decide +kernel
theorem dX7_hang_1 : decode cX7_hang 1 = .ok (.invokestatic 244, 3) := by decide +kernel
theorem dX7_hang_4 : decode cX7_hang 4 = .ok (.ifCond .ne 6, 3) := by decide +kernel
theorem dX7_hang_7 : decode cX7_hang 7 = .ok (.ldc 87, 2) := by decide +kernel
theorem dX7_hang_9 : decode cX7_hang 9 = .ok (.ireturn, 1) := by decide +kernel
theorem dX7_hang_10 : decode cX7_hang 10 = .ok (.iload_n 3, 1) := by decide +kernel
theorem dX7_hang_11 : decode cX7_hang 11 = .ok (.iconst 1, 1) := by decide +kernel
theorem dX7_hang_12 : decode cX7_hang 12 = .ok (.iconst 2, 1) := by decide +kernel
theorem dX7_hang_13 : decode cX7_hang 13 = .ok (.invokestatic 50, 3) := by decide +kernel
theorem dX7_hang_16 : decode cX7_hang 16 = .ok (.ifCond .eq 14, 3) := by decide +kernel
theorem dX7_hang_19 : decode cX7_hang 19 = .ok (.iload 4, 2) := by decide +kernel
theorem dX7_hang_21 : decode cX7_hang 21 = .ok (.iconst 0, 1) := by decide +kernel
theorem dX7_hang_22 : decode cX7_hang 22 = .ok (.bipush 99, 2) := by decide +kernel
theorem dX7_hang_24 : decode cX7_hang 24 = .ok (.invokestatic 50, 3) := by decide +kernel
theorem dX7_hang_27 : decode cX7_hang 27 = .ok (.ifCond .ne 6, 3) := by decide +kernel
theorem dX7_hang_30 : decode cX7_hang 30 = .ok (.ldc 54, 2) := by decide +kernel
theorem dX7_hang_32 : decode cX7_hang 32 = .ok (.ireturn, 1) := by decide +kernel
theorem dX7_hang_33 : decode cX7_hang 33 = .ok (.aload_n 0, 1) := by decide +kernel
theorem dX7_hang_34 : decode cX7_hang 34 = .ok (.getfield 28, 3) := by decide +kernel
theorem dX7_hang_37 : decode cX7_hang 37 = .ok (.iload_n 1, 1) := by decide +kernel
theorem dX7_hang_38 : decode cX7_hang 38 = .ok (.aaload, 1) := by decide +kernel
theorem dX7_hang_39 : decode cX7_hang 39 = .ok (.iload_n 2, 1) := by decide +kernel
theorem dX7_hang_40 : decode cX7_hang 40 = .ok (.iload_n 3, 1) := by decide +kernel
theorem dX7_hang_41 : decode cX7_hang 41 = .ok (.iload 4, 2) := by decide +kernel
theorem dX7_hang_43 : decode cX7_hang 43 = .ok (.invokevirtual 252, 3) := by decide +kernel
theorem dX7_hang_46 : decode cX7_hang 46 = .ok (.istore 5, 2) := by decide +kernel
theorem dX7_hang_48 : decode cX7_hang 48 = .ok (.iload 5, 2) := by decide +kernel
theorem dX7_hang_50 : decode cX7_hang 50 = .ok (.ifCond .ne 8, 3) := by decide +kernel
theorem dX7_hang_53 : decode cX7_hang 53 = .ok (.iload 4, 2) := by decide +kernel
theorem dX7_hang_55 : decode cX7_hang 55 = .ok (.goto 5, 3) := by decide +kernel
theorem dX7_hang_58 : decode cX7_hang 58 = .ok (.iload 5, 2) := by decide +kernel
theorem dX7_hang_60 : decode cX7_hang 60 = .ok (.ireturn, 1) := by decide +kernel
theorem dX7_take_0 : decode cX7_take 0 = .ok (.iload_n 1, 1) := by decide +kernel
theorem dX7_take_1 : decode cX7_take 1 = .ok (.invokestatic 244, 3) := by decide +kernel
theorem dX7_take_4 : decode cX7_take 4 = .ok (.ifCond .eq 16, 3) := by decide +kernel
theorem dX7_take_7 : decode cX7_take 7 = .ok (.aload_n 0, 1) := by decide +kernel
theorem dX7_take_8 : decode cX7_take 8 = .ok (.getfield 28, 3) := by decide +kernel
theorem dX7_take_11 : decode cX7_take 11 = .ok (.iload_n 1, 1) := by decide +kernel
theorem dX7_take_12 : decode cX7_take 12 = .ok (.aaload, 1) := by decide +kernel
theorem dX7_take_13 : decode cX7_take 13 = .ok (.iload_n 2, 1) := by decide +kernel
theorem dX7_take_14 : decode cX7_take 14 = .ok (.invokevirtual 255, 3) := by decide +kernel
theorem dX7_take_17 : decode cX7_take 17 = .ok (.goto 5, 3) := by decide +kernel
theorem dX7_take_20 : decode cX7_take 20 = .ok (.ldc 87, 2) := by decide +kernel
theorem dX7_take_22 : decode cX7_take 22 = .ok (.ireturn, 1) := by decide +kernel
theorem dX7_likeness_0 : decode cX7_likeness 0 = .ok (.iload_n 1, 1) := by decide +kernel
theorem dX7_likeness_1 : decode cX7_likeness 1 = .ok (.invokestatic 244, 3) := by decide +kernel
theorem dX7_likeness_4 : decode cX7_likeness 4 = .ok (.ifCond .eq 10, 3) := by decide +kernel
theorem dX7_likeness_7 : decode cX7_likeness 7 = .ok (.iload_n 2, 1) := by decide +kernel
theorem dX7_likeness_8 : decode cX7_likeness 8 = .ok (.invokestatic 244, 3) := by decide +kernel
theorem dX7_likeness_11 : decode cX7_likeness 11 = .ok (.ifCond .ne 6, 3) := by decide +kernel
theorem dX7_likeness_14 : decode cX7_likeness 14 = .ok (.ldc 87, 2) := by decide +kernel
theorem dX7_likeness_16 : decode cX7_likeness 16 = .ok (.ireturn, 1) := by decide +kernel
theorem dX7_likeness_17 : decode cX7_likeness 17 = .ok (.aload_n 0, 1) := by decide +kernel
theorem dX7_likeness_18 : decode cX7_likeness 18 = .ok (.getfield 28, 3) := by decide +kernel
theorem dX7_likeness_21 : decode cX7_likeness 21 = .ok (.iload_n 2, 1) := by decide +kernel
theorem dX7_likeness_22 : decode cX7_likeness 22 = .ok (.aaload, 1) := by decide +kernel
theorem dX7_likeness_23 : decode cX7_likeness 23 = .ok (.getfield 258, 3) := by decide +kernel
theorem dX7_likeness_26 : decode cX7_likeness 26 = .ok (.ifCond .eq 7, 3) := by decide +kernel
theorem dX7_likeness_29 : decode cX7_likeness 29 = .ok (.ldc_w 261, 3) := by decide +kernel
theorem dX7_likeness_32 : decode cX7_likeness 32 = .ok (.ireturn, 1) := by decide +kernel
theorem dX7_likeness_33 : decode cX7_likeness 33 = .ok (.aload_n 0, 1) := by decide +kernel
theorem dX7_likeness_34 : decode cX7_likeness 34 = .ok (.getfield 28, 3) := by decide +kernel
theorem dX7_likeness_37 : decode cX7_likeness 37 = .ok (.iload_n 1, 1) := by decide +kernel
theorem dX7_likeness_38 : decode cX7_likeness 38 = .ok (.aaload, 1) := by decide +kernel
theorem dX7_likeness_39 : decode cX7_likeness 39 = .ok (.aload_n 0, 1) := by decide +kernel
theorem dX7_likeness_40 : decode cX7_likeness 40 = .ok (.getfield 28, 3) := by decide +kernel
theorem dX7_likeness_43 : decode cX7_likeness 43 = .ok (.iload_n 2, 1) := by decide +kernel
theorem dX7_likeness_44 : decode cX7_likeness 44 = .ok (.aaload, 1) := by decide +kernel
theorem dX7_likeness_45 : decode cX7_likeness 45 = .ok (.invokevirtual 262, 3) := by decide +kernel
theorem dX7_likeness_48 : decode cX7_likeness 48 = .ok (.aload_n 0, 1) := by decide +kernel
theorem dX7_likeness_49 : decode cX7_likeness 49 = .ok (.getfield 28, 3) := by decide +kernel
theorem dX7_likeness_52 : decode cX7_likeness 52 = .ok (.iload_n 1, 1) := by decide +kernel
theorem dX7_likeness_53 : decode cX7_likeness 53 = .ok (.aaload, 1) := by decide +kernel
theorem dX7_likeness_54 : decode cX7_likeness 54 = .ok (.invokevirtual 266, 3) := by decide +kernel
theorem dX7_likeness_57 : decode cX7_likeness 57 = .ok (.ireturn, 1) := by decide +kernel
theorem dX7_pass_0 : decode cX7_pass 0 = .ok (.iload_n 1, 1) := by decide +kernel
theorem dX7_pass_1 : decode cX7_pass 1 = .ok (.invokestatic 244, 3) := by decide +kernel
theorem dX7_pass_4 : decode cX7_pass 4 = .ok (.ifCond .eq 10, 3) := by decide +kernel
theorem dX7_pass_7 : decode cX7_pass 7 = .ok (.iload_n 2, 1) := by decide +kernel
theorem dX7_pass_8 : decode cX7_pass 8 = .ok (.invokestatic 244, 3) := by decide +kernel
theorem dX7_pass_11 : decode cX7_pass 11 = .ok (.ifCond .ne 6, 3) := by decide +kernel
theorem dX7_pass_14 : decode cX7_pass 14 = .ok (.ldc 87, 2) := by decide +kernel
theorem dX7_pass_16 : decode cX7_pass 16 = .ok (.ireturn, 1) := by decide +kernel
theorem dX7_pass_17 : decode cX7_pass 17 = .ok (.aload_n 0, 1) := by decide +kernel
theorem dX7_pass_18 : decode cX7_pass 18 = .ok (.getfield 28, 3) := by decide +kernel
theorem dX7_pass_21 : decode cX7_pass 21 = .ok (.iload_n 1, 1) := by decide +kernel
theorem dX7_pass_22 : decode cX7_pass 22 = .ok (.aaload, 1) := by decide +kernel
theorem dX7_pass_23 : decode cX7_pass 23 = .ok (.getfield 258, 3) := by decide +kernel
theorem dX7_pass_26 : decode cX7_pass 26 = .ok (.ifCond .ne 15, 3) := by decide +kernel
theorem dX7_pass_29 : decode cX7_pass 29 = .ok (.aload_n 0, 1) := by decide +kernel
theorem dX7_pass_30 : decode cX7_pass 30 = .ok (.getfield 28, 3) := by decide +kernel
theorem dX7_pass_33 : decode cX7_pass 33 = .ok (.iload_n 2, 1) := by decide +kernel
theorem dX7_pass_34 : decode cX7_pass 34 = .ok (.aaload, 1) := by decide +kernel
theorem dX7_pass_35 : decode cX7_pass 35 = .ok (.getfield 258, 3) := by decide +kernel
theorem dX7_pass_38 : decode cX7_pass 38 = .ok (.ifCond .eq 7, 3) := by decide +kernel
theorem dX7_pass_41 : decode cX7_pass 41 = .ok (.ldc_w 261, 3) := by decide +kernel
theorem dX7_pass_44 : decode cX7_pass 44 = .ok (.ireturn, 1) := by decide +kernel
theorem dX7_pass_45 : decode cX7_pass 45 = .ok (.aload_n 0, 1) := by decide +kernel
theorem dX7_pass_46 : decode cX7_pass 46 = .ok (.getfield 28, 3) := by decide +kernel
theorem dX7_pass_49 : decode cX7_pass 49 = .ok (.iload_n 1, 1) := by decide +kernel
theorem dX7_pass_50 : decode cX7_pass 50 = .ok (.aaload, 1) := by decide +kernel
theorem dX7_pass_51 : decode cX7_pass 51 = .ok (.aload_n 0, 1) := by decide +kernel
theorem dX7_pass_52 : decode cX7_pass 52 = .ok (.getfield 28, 3) := by decide +kernel
theorem dX7_pass_55 : decode cX7_pass 55 = .ok (.iload_n 2, 1) := by decide +kernel
theorem dX7_pass_56 : decode cX7_pass 56 = .ok (.aaload, 1) := by decide +kernel
theorem dX7_pass_57 : decode cX7_pass 57 = .ok (.invokevirtual 269, 3) := by decide +kernel
theorem dX7_pass_60 : decode cX7_pass 60 = .ok (.ireturn, 1) := by decide +kernel
theorem dX7_drop_0 : decode cX7_drop 0 = .ok (.iload_n 1, 1) := by decide +kernel
theorem dX7_drop_1 : decode cX7_drop 1 = .ok (.invokestatic 244, 3) := by decide +kernel
theorem dX7_drop_4 : decode cX7_drop 4 = .ok (.ifCond .ne 6, 3) := by decide +kernel
theorem dX7_drop_7 : decode cX7_drop 7 = .ok (.ldc 87, 2) := by decide +kernel
theorem dX7_drop_9 : decode cX7_drop 9 = .ok (.ireturn, 1) := by decide +kernel
theorem dX7_drop_10 : decode cX7_drop 10 = .ok (.aload_n 0, 1) := by decide +kernel
theorem dX7_drop_11 : decode cX7_drop 11 = .ok (.getfield 28, 3) := by decide +kernel
theorem dX7_drop_14 : decode cX7_drop 14 = .ok (.iload_n 1, 1) := by decide +kernel
theorem dX7_drop_15 : decode cX7_drop 15 = .ok (.aaload, 1) := by decide +kernel
theorem dX7_drop_16 : decode cX7_drop 16 = .ok (.getfield 258, 3) := by decide +kernel
theorem dX7_drop_19 : decode cX7_drop 19 = .ok (.ifCond .eq 7, 3) := by decide +kernel
theorem dX7_drop_22 : decode cX7_drop 22 = .ok (.ldc_w 261, 3) := by decide +kernel
theorem dX7_drop_25 : decode cX7_drop 25 = .ok (.ireturn, 1) := by decide +kernel
theorem dX7_drop_26 : decode cX7_drop 26 = .ok (.aload_n 0, 1) := by decide +kernel
theorem dX7_drop_27 : decode cX7_drop 27 = .ok (.getfield 28, 3) := by decide +kernel
theorem dX7_drop_30 : decode cX7_drop 30 = .ok (.iload_n 1, 1) := by decide +kernel
theorem dX7_drop_31 : decode cX7_drop 31 = .ok (.aaload, 1) := by decide +kernel
theorem dX7_drop_32 : decode cX7_drop 32 = .ok (.invokevirtual 266, 3) := by decide +kernel
theorem dX7_drop_35 : decode cX7_drop 35 = .ok (.istore_n 2, 1) := by decide +kernel
theorem dX7_drop_36 : decode cX7_drop 36 = .ok (.aload_n 0, 1) := by decide +kernel
theorem dX7_drop_37 : decode cX7_drop 37 = .ok (.getfield 28, 3) := by decide +kernel
theorem dX7_drop_40 : decode cX7_drop 40 = .ok (.iload_n 1, 1) := by decide +kernel
theorem dX7_drop_41 : decode cX7_drop 41 = .ok (.aaload, 1) := by decide +kernel
theorem dX7_drop_42 : decode cX7_drop 42 = .ok (.iconst 1, 1) := by decide +kernel
theorem dX7_drop_43 : decode cX7_drop 43 = .ok (.putfield 258, 3) := by decide +kernel
theorem dX7_drop_46 : decode cX7_drop 46 = .ok (.iload_n 2, 1) := by decide +kernel
theorem dX7_drop_47 : decode cX7_drop 47 = .ok (.ireturn, 1) := by decide +kernel
theorem dX7_count_0 : decode cX7_count 0 = .ok (.iload_n 1, 1) := by decide +kernel
theorem dX7_count_1 : decode cX7_count 1 = .ok (.iconst 1, 1) := by decide +kernel
theorem dX7_count_2 : decode cX7_count 2 = .ok (.iconst 4, 1) := by decide +kernel
theorem dX7_count_3 : decode cX7_count 3 = .ok (.invokestatic 50, 3) := by decide +kernel
theorem dX7_count_6 : decode cX7_count 6 = .ok (.ifCond .eq 18, 3) := by decide +kernel
theorem dX7_count_9 : decode cX7_count 9 = .ok (.aload_n 0, 1) := by decide +kernel
theorem dX7_count_10 : decode cX7_count 10 = .ok (.getfield 18, 3) := by decide +kernel
theorem dX7_count_13 : decode cX7_count 13 = .ok (.iload_n 1, 1) := by decide +kernel
theorem dX7_count_14 : decode cX7_count 14 = .ok (.iconst 1, 1) := by decide +kernel
theorem dX7_count_15 : decode cX7_count 15 = .ok (.isub, 1) := by decide +kernel
theorem dX7_count_16 : decode cX7_count 16 = .ok (.aaload, 1) := by decide +kernel
theorem dX7_count_17 : decode cX7_count 17 = .ok (.getfield 111, 3) := by decide +kernel
theorem dX7_count_20 : decode cX7_count 20 = .ok (.getfield 164, 3) := by decide +kernel
theorem dX7_count_23 : decode cX7_count 23 = .ok (.ireturn, 1) := by decide +kernel
theorem dX7_count_24 : decode cX7_count 24 = .ok (.iload_n 1, 1) := by decide +kernel
theorem dX7_count_25 : decode cX7_count 25 = .ok (.bipush 8, 2) := by decide +kernel
theorem dX7_count_27 : decode cX7_count 27 = .ok (.bipush 11, 2) := by decide +kernel
theorem dX7_count_29 : decode cX7_count 29 = .ok (.invokestatic 50, 3) := by decide +kernel
theorem dX7_count_32 : decode cX7_count 32 = .ok (.ifCond .eq 19, 3) := by decide +kernel
theorem dX7_count_35 : decode cX7_count 35 = .ok (.aload_n 0, 1) := by decide +kernel
theorem dX7_count_36 : decode cX7_count 36 = .ok (.getfield 18, 3) := by decide +kernel
theorem dX7_count_39 : decode cX7_count 39 = .ok (.iload_n 1, 1) := by decide +kernel
theorem dX7_count_40 : decode cX7_count 40 = .ok (.bipush 8, 2) := by decide +kernel
theorem dX7_count_42 : decode cX7_count 42 = .ok (.isub, 1) := by decide +kernel
theorem dX7_count_43 : decode cX7_count 43 = .ok (.aaload, 1) := by decide +kernel
theorem dX7_count_44 : decode cX7_count 44 = .ok (.getfield 111, 3) := by decide +kernel
theorem dX7_count_47 : decode cX7_count 47 = .ok (.invokevirtual 273, 3) := by decide +kernel
theorem dX7_count_50 : decode cX7_count 50 = .ok (.ireturn, 1) := by decide +kernel
theorem dX7_count_51 : decode cX7_count 51 = .ok (.iload_n 1, 1) := by decide +kernel
theorem dX7_count_52 : decode cX7_count 52 = .ok (.bipush 13, 2) := by decide +kernel
theorem dX7_count_54 : decode cX7_count 54 = .ok (.bipush 16, 2) := by decide +kernel
theorem dX7_count_56 : decode cX7_count 56 = .ok (.invokestatic 50, 3) := by decide +kernel
theorem dX7_count_59 : decode cX7_count 59 = .ok (.ifCond .eq 16, 3) := by decide +kernel
theorem dX7_count_62 : decode cX7_count 62 = .ok (.aload_n 0, 1) := by decide +kernel
theorem dX7_count_63 : decode cX7_count 63 = .ok (.getfield 18, 3) := by decide +kernel
theorem dX7_count_66 : decode cX7_count 66 = .ok (.iload_n 1, 1) := by decide +kernel
theorem dX7_count_67 : decode cX7_count 67 = .ok (.bipush 13, 2) := by decide +kernel
theorem dX7_count_69 : decode cX7_count 69 = .ok (.isub, 1) := by decide +kernel
theorem dX7_count_70 : decode cX7_count 70 = .ok (.aaload, 1) := by decide +kernel
theorem dX7_count_71 : decode cX7_count 71 = .ok (.getfield 218, 3) := by decide +kernel
theorem dX7_count_74 : decode cX7_count 74 = .ok (.ireturn, 1) := by decide +kernel
theorem dX7_count_75 : decode cX7_count 75 = .ok (.iload_n 1, 1) := by decide +kernel
theorem dX7_count_76 : decode cX7_count 76 = .ok (.bipush 18, 2) := by decide +kernel
theorem dX7_count_78 : decode cX7_count 78 = .ok (.bipush 21, 2) := by decide +kernel
theorem dX7_count_80 : decode cX7_count 80 = .ok (.invokestatic 50, 3) := by decide +kernel
theorem dX7_count_83 : decode cX7_count 83 = .ok (.ifCond .eq 22, 3) := by decide +kernel
theorem dX7_count_86 : decode cX7_count 86 = .ok (.aload_n 0, 1) := by decide +kernel
theorem dX7_count_87 : decode cX7_count 87 = .ok (.getfield 18, 3) := by decide +kernel
theorem dX7_count_90 : decode cX7_count 90 = .ok (.iload_n 1, 1) := by decide +kernel
theorem dX7_count_91 : decode cX7_count 91 = .ok (.bipush 18, 2) := by decide +kernel
theorem dX7_count_93 : decode cX7_count 93 = .ok (.isub, 1) := by decide +kernel
theorem dX7_count_94 : decode cX7_count 94 = .ok (.aaload, 1) := by decide +kernel
theorem dX7_count_95 : decode cX7_count 95 = .ok (.getfield 111, 3) := by decide +kernel
theorem dX7_count_98 : decode cX7_count 98 = .ok (.getfield 192, 3) := by decide +kernel
theorem dX7_count_101 : decode cX7_count 101 = .ok (.bipush 100, 2) := by decide +kernel
theorem dX7_count_103 : decode cX7_count 103 = .ok (.iadd, 1) := by decide +kernel
theorem dX7_count_104 : decode cX7_count 104 = .ok (.ireturn, 1) := by decide +kernel
theorem dX7_count_105 : decode cX7_count 105 = .ok (.iload_n 1, 1) := by decide +kernel
theorem dX7_count_106 : decode cX7_count 106 = .ok (.tableswitch 122 0 17 #[86, 122, 122, 122, 122, 94, 99, 104, 122, 122, 122, 122, 109, 122, 122, 122, 122, 114], 86) := by decide +kernel
theorem dX7_count_192 : decode cX7_count 192 = .ok (.aload_n 0, 1) := by decide +kernel
theorem dX7_count_193 : decode cX7_count 193 = .ok (.getfield 12, 3) := by decide +kernel
theorem dX7_count_196 : decode cX7_count 196 = .ok (.getfield 144, 3) := by decide +kernel
theorem dX7_count_199 : decode cX7_count 199 = .ok (.ireturn, 1) := by decide +kernel
theorem dX7_count_200 : decode cX7_count 200 = .ok (.aload_n 0, 1) := by decide +kernel
theorem dX7_count_201 : decode cX7_count 201 = .ok (.invokevirtual 276, 3) := by decide +kernel
theorem dX7_count_204 : decode cX7_count 204 = .ok (.ireturn, 1) := by decide +kernel
theorem dX7_count_205 : decode cX7_count 205 = .ok (.aload_n 0, 1) := by decide +kernel
theorem dX7_count_206 : decode cX7_count 206 = .ok (.invokevirtual 279, 3) := by decide +kernel
theorem dX7_count_209 : decode cX7_count 209 = .ok (.ireturn, 1) := by decide +kernel
theorem dX7_count_210 : decode cX7_count 210 = .ok (.aload_n 0, 1) := by decide +kernel
theorem dX7_count_211 : decode cX7_count 211 = .ok (.invokevirtual 282, 3) := by decide +kernel
theorem dX7_count_214 : decode cX7_count 214 = .ok (.ireturn, 1) := by decide +kernel
theorem dX7_count_215 : decode cX7_count 215 = .ok (.aload_n 0, 1) := by decide +kernel
theorem dX7_count_216 : decode cX7_count 216 = .ok (.invokevirtual 285, 3) := by decide +kernel
theorem dX7_count_219 : decode cX7_count 219 = .ok (.ireturn, 1) := by decide +kernel
theorem dX7_count_220 : decode cX7_count 220 = .ok (.aload_n 0, 1) := by decide +kernel
theorem dX7_count_221 : decode cX7_count 221 = .ok (.getfield 35, 3) := by decide +kernel
theorem dX7_count_224 : decode cX7_count 224 = .ok (.getfield 55, 3) := by decide +kernel
theorem dX7_count_227 : decode cX7_count 227 = .ok (.ireturn, 1) := by decide +kernel
theorem dX7_count_228 : decode cX7_count 228 = .ok (.ldc 54, 2) := by decide +kernel
theorem dX7_count_230 : decode cX7_count 230 = .ok (.ireturn, 1) := by decide +kernel
theorem dX7_isWithin_0 : decode cX7_isWithin 0 = .ok (.iload_n 0, 1) := by decide +kernel
theorem dX7_isWithin_1 : decode cX7_isWithin 1 = .ok (.iload_n 1, 1) := by decide +kernel
theorem dX7_isWithin_2 : decode cX7_isWithin 2 = .ok (.if_icmp .lt 12, 3) := by decide +kernel
theorem dX7_isWithin_5 : decode cX7_isWithin 5 = .ok (.iload_n 0, 1) := by decide +kernel
theorem dX7_isWithin_6 : decode cX7_isWithin 6 = .ok (.iload_n 2, 1) := by decide +kernel
theorem dX7_isWithin_7 : decode cX7_isWithin 7 = .ok (.if_icmp .gt 7, 3) := by decide +kernel
theorem dX7_isWithin_10 : decode cX7_isWithin 10 = .ok (.iconst 1, 1) := by decide +kernel
theorem dX7_isWithin_11 : decode cX7_isWithin 11 = .ok (.goto 4, 3) := by decide +kernel
theorem dX7_isWithin_14 : decode cX7_isWithin 14 = .ok (.iconst 0, 1) := by decide +kernel
theorem dX7_isWithin_15 : decode cX7_isWithin 15 = .ok (.ireturn, 1) := by decide +kernel
theorem dX7_isMoment_0 : decode cX7_isMoment 0 = .ok (.iload_n 0, 1) := by decide +kernel
theorem dX7_isMoment_1 : decode cX7_isMoment 1 = .ok (.iconst 0, 1) := by decide +kernel
theorem dX7_isMoment_2 : decode cX7_isMoment 2 = .ok (.bipush 127, 2) := by decide +kernel
theorem dX7_isMoment_4 : decode cX7_isMoment 4 = .ok (.invokestatic 50, 3) := by decide +kernel
theorem dX7_isMoment_7 : decode cX7_isMoment 7 = .ok (.ireturn, 1) := by decide +kernel
theorem dX7_isPlaceFor_0 : decode cX7_isPlaceFor 0 = .ok (.iload_n 0, 1) := by decide +kernel
theorem dX7_isPlaceFor_1 : decode cX7_isPlaceFor 1 = .ok (.iconst 1, 1) := by decide +kernel
theorem dX7_isPlaceFor_2 : decode cX7_isPlaceFor 2 = .ok (.bipush 64, 2) := by decide +kernel
theorem dX7_isPlaceFor_4 : decode cX7_isPlaceFor 4 = .ok (.invokestatic 50, 3) := by decide +kernel
theorem dX7_isPlaceFor_7 : decode cX7_isPlaceFor 7 = .ok (.ifCond .eq 20, 3) := by decide +kernel
theorem dX7_isPlaceFor_10 : decode cX7_isPlaceFor 10 = .ok (.iload_n 1, 1) := by decide +kernel
theorem dX7_isPlaceFor_11 : decode cX7_isPlaceFor 11 = .ok (.iconst 0, 1) := by decide +kernel
theorem dX7_isPlaceFor_12 : decode cX7_isPlaceFor 12 = .ok (.sipush 128, 3) := by decide +kernel
theorem dX7_isPlaceFor_15 : decode cX7_isPlaceFor 15 = .ok (.iload_n 0, 1) := by decide +kernel
theorem dX7_isPlaceFor_16 : decode cX7_isPlaceFor 16 = .ok (.isub, 1) := by decide +kernel
theorem dX7_isPlaceFor_17 : decode cX7_isPlaceFor 17 = .ok (.invokestatic 50, 3) := by decide +kernel
theorem dX7_isPlaceFor_20 : decode cX7_isPlaceFor 20 = .ok (.ifCond .eq 7, 3) := by decide +kernel
theorem dX7_isPlaceFor_23 : decode cX7_isPlaceFor 23 = .ok (.iconst 1, 1) := by decide +kernel
theorem dX7_isPlaceFor_24 : decode cX7_isPlaceFor 24 = .ok (.goto 4, 3) := by decide +kernel
theorem dX7_isPlaceFor_27 : decode cX7_isPlaceFor 27 = .ok (.iconst 0, 1) := by decide +kernel
theorem dX7_isPlaceFor_28 : decode cX7_isPlaceFor 28 = .ok (.ireturn, 1) := by decide +kernel
theorem dX7_isTrack_0 : decode cX7_isTrack 0 = .ok (.iload_n 0, 1) := by decide +kernel
theorem dX7_isTrack_1 : decode cX7_isTrack 1 = .ok (.iconst 0, 1) := by decide +kernel
theorem dX7_isTrack_2 : decode cX7_isTrack 2 = .ok (.iconst 3, 1) := by decide +kernel
theorem dX7_isTrack_3 : decode cX7_isTrack 3 = .ok (.invokestatic 50, 3) := by decide +kernel
theorem dX7_isTrack_6 : decode cX7_isTrack 6 = .ok (.ireturn, 1) := by decide +kernel
theorem dX7_isRack_0 : decode cX7_isRack 0 = .ok (.iload_n 0, 1) := by decide +kernel
theorem dX7_isRack_1 : decode cX7_isRack 1 = .ok (.iconst 0, 1) := by decide +kernel
theorem dX7_isRack_2 : decode cX7_isRack 2 = .ok (.iconst 2, 1) := by decide +kernel
theorem dX7_isRack_3 : decode cX7_isRack 3 = .ok (.invokestatic 50, 3) := by decide +kernel
theorem dX7_isRack_6 : decode cX7_isRack 6 = .ok (.ireturn, 1) := by decide +kernel
theorem dX7_isSound_0 : decode cX7_isSound 0 = .ok (.iload_n 1, 1) := by decide +kernel
theorem dX7_isSound_1 : decode cX7_isSound 1 = .ok (.iconst 0, 1) := by decide +kernel
theorem dX7_isSound_2 : decode cX7_isSound 2 = .ok (.aload_n 0, 1) := by decide +kernel
theorem dX7_isSound_3 : decode cX7_isSound 3 = .ok (.getfield 12, 3) := by decide +kernel
theorem dX7_isSound_6 : decode cX7_isSound 6 = .ok (.getfield 144, 3) := by decide +kernel
theorem dX7_isSound_9 : decode cX7_isSound 9 = .ok (.iconst 1, 1) := by decide +kernel
theorem dX7_isSound_10 : decode cX7_isSound 10 = .ok (.isub, 1) := by decide +kernel
theorem dX7_isSound_11 : decode cX7_isSound 11 = .ok (.invokestatic 50, 3) := by decide +kernel
theorem dX7_isSound_14 : decode cX7_isSound 14 = .ok (.ireturn, 1) := by decide +kernel
theorem dX7_isSpan_0 : decode cX7_isSpan 0 = .ok (.iload_n 1, 1) := by decide +kernel
theorem dX7_isSpan_1 : decode cX7_isSpan 1 = .ok (.invokestatic 151, 3) := by decide +kernel
theorem dX7_isSpan_4 : decode cX7_isSpan 4 = .ok (.ifCond .eq 29, 3) := by decide +kernel
theorem dX7_isSpan_7 : decode cX7_isSpan 7 = .ok (.iload_n 2, 1) := by decide +kernel
theorem dX7_isSpan_8 : decode cX7_isSpan 8 = .ok (.iconst 0, 1) := by decide +kernel
theorem dX7_isSpan_9 : decode cX7_isSpan 9 = .ok (.aload_n 0, 1) := by decide +kernel
theorem dX7_isSpan_10 : decode cX7_isSpan 10 = .ok (.getfield 18, 3) := by decide +kernel
theorem dX7_isSpan_13 : decode cX7_isSpan 13 = .ok (.iload_n 1, 1) := by decide +kernel
theorem dX7_isSpan_14 : decode cX7_isSpan 14 = .ok (.aaload, 1) := by decide +kernel
theorem dX7_isSpan_15 : decode cX7_isSpan 15 = .ok (.getfield 111, 3) := by decide +kernel
theorem dX7_isSpan_18 : decode cX7_isSpan 18 = .ok (.getfield 164, 3) := by decide +kernel
theorem dX7_isSpan_21 : decode cX7_isSpan 21 = .ok (.iconst 1, 1) := by decide +kernel
theorem dX7_isSpan_22 : decode cX7_isSpan 22 = .ok (.isub, 1) := by decide +kernel
theorem dX7_isSpan_23 : decode cX7_isSpan 23 = .ok (.invokestatic 50, 3) := by decide +kernel
theorem dX7_isSpan_26 : decode cX7_isSpan 26 = .ok (.ifCond .eq 7, 3) := by decide +kernel
theorem dX7_isSpan_29 : decode cX7_isSpan 29 = .ok (.iconst 1, 1) := by decide +kernel
theorem dX7_isSpan_30 : decode cX7_isSpan 30 = .ok (.goto 4, 3) := by decide +kernel
theorem dX7_isSpan_33 : decode cX7_isSpan 33 = .ok (.iconst 0, 1) := by decide +kernel
theorem dX7_isSpan_34 : decode cX7_isSpan 34 = .ok (.ireturn, 1) := by decide +kernel
theorem dX7_perform_0 : decode cX7_perform 0 = .ok (.aload_n 1, 1) := by decide +kernel
theorem dX7_perform_1 : decode cX7_perform 1 = .ok (.iconst 0, 1) := by decide +kernel
theorem dX7_perform_2 : decode cX7_perform 2 = .ok (.iaload, 1) := by decide +kernel
theorem dX7_perform_3 : decode cX7_perform 3 = .ok (.tableswitch 166 0 6 #[41, 48, 68, 91, 111, 128, 142], 41) := by decide +kernel
theorem dX7_perform_44 : decode cX7_perform 44 = .ok (.aload_n 0, 1) := by decide +kernel
theorem dX7_perform_45 : decode cX7_perform 45 = .ok (.invokevirtual 288, 3) := by decide +kernel
theorem dX7_perform_48 : decode cX7_perform 48 = .ok (.goto 121, 3) := by decide +kernel
theorem dX7_perform_51 : decode cX7_perform 51 = .ok (.aload_n 0, 1) := by decide +kernel
theorem dX7_perform_52 : decode cX7_perform 52 = .ok (.getfield 12, 3) := by decide +kernel
theorem dX7_perform_55 : decode cX7_perform 55 = .ok (.aload_n 1, 1) := by decide +kernel
theorem dX7_perform_56 : decode cX7_perform 56 = .ok (.iconst 1, 1) := by decide +kernel
theorem dX7_perform_57 : decode cX7_perform 57 = .ok (.iaload, 1) := by decide +kernel
theorem dX7_perform_58 : decode cX7_perform 58 = .ok (.aload_n 1, 1) := by decide +kernel
theorem dX7_perform_59 : decode cX7_perform 59 = .ok (.iconst 2, 1) := by decide +kernel
theorem dX7_perform_60 : decode cX7_perform 60 = .ok (.iaload, 1) := by decide +kernel
theorem dX7_perform_61 : decode cX7_perform 61 = .ok (.aload_n 1, 1) := by decide +kernel
theorem dX7_perform_62 : decode cX7_perform 62 = .ok (.iconst 3, 1) := by decide +kernel
theorem dX7_perform_63 : decode cX7_perform 63 = .ok (.iaload, 1) := by decide +kernel
theorem dX7_perform_64 : decode cX7_perform 64 = .ok (.invokevirtual 147, 3) := by decide +kernel
theorem dX7_perform_67 : decode cX7_perform 67 = .ok (.pop, 1) := by decide +kernel
theorem dX7_perform_68 : decode cX7_perform 68 = .ok (.goto 101, 3) := by decide +kernel
theorem dX7_perform_71 : decode cX7_perform 71 = .ok (.aload_n 0, 1) := by decide +kernel
theorem dX7_perform_72 : decode cX7_perform 72 = .ok (.aload_n 1, 1) := by decide +kernel
theorem dX7_perform_73 : decode cX7_perform 73 = .ok (.iconst 1, 1) := by decide +kernel
theorem dX7_perform_74 : decode cX7_perform 74 = .ok (.iaload, 1) := by decide +kernel
theorem dX7_perform_75 : decode cX7_perform 75 = .ok (.aload_n 1, 1) := by decide +kernel
theorem dX7_perform_76 : decode cX7_perform 76 = .ok (.iconst 2, 1) := by decide +kernel
theorem dX7_perform_77 : decode cX7_perform 77 = .ok (.iaload, 1) := by decide +kernel
theorem dX7_perform_78 : decode cX7_perform 78 = .ok (.aload_n 1, 1) := by decide +kernel
theorem dX7_perform_79 : decode cX7_perform 79 = .ok (.iconst 3, 1) := by decide +kernel
theorem dX7_perform_80 : decode cX7_perform 80 = .ok (.iaload, 1) := by decide +kernel
theorem dX7_perform_81 : decode cX7_perform 81 = .ok (.aload_n 1, 1) := by decide +kernel
theorem dX7_perform_82 : decode cX7_perform 82 = .ok (.iconst 4, 1) := by decide +kernel
theorem dX7_perform_83 : decode cX7_perform 83 = .ok (.iaload, 1) := by decide +kernel
theorem dX7_perform_84 : decode cX7_perform 84 = .ok (.aload_n 1, 1) := by decide +kernel
theorem dX7_perform_85 : decode cX7_perform 85 = .ok (.iconst 5, 1) := by decide +kernel
theorem dX7_perform_86 : decode cX7_perform 86 = .ok (.iaload, 1) := by decide +kernel
theorem dX7_perform_87 : decode cX7_perform 87 = .ok (.invokevirtual 291, 3) := by decide +kernel
theorem dX7_perform_90 : decode cX7_perform 90 = .ok (.pop, 1) := by decide +kernel
theorem dX7_perform_91 : decode cX7_perform 91 = .ok (.goto 78, 3) := by decide +kernel
theorem dX7_perform_94 : decode cX7_perform 94 = .ok (.aload_n 0, 1) := by decide +kernel
theorem dX7_perform_95 : decode cX7_perform 95 = .ok (.aload_n 1, 1) := by decide +kernel
theorem dX7_perform_96 : decode cX7_perform 96 = .ok (.iconst 1, 1) := by decide +kernel
theorem dX7_perform_97 : decode cX7_perform 97 = .ok (.iaload, 1) := by decide +kernel
theorem dX7_perform_98 : decode cX7_perform 98 = .ok (.aload_n 1, 1) := by decide +kernel
theorem dX7_perform_99 : decode cX7_perform 99 = .ok (.iconst 2, 1) := by decide +kernel
theorem dX7_perform_100 : decode cX7_perform 100 = .ok (.iaload, 1) := by decide +kernel
theorem dX7_perform_101 : decode cX7_perform 101 = .ok (.aload_n 1, 1) := by decide +kernel
theorem dX7_perform_102 : decode cX7_perform 102 = .ok (.iconst 3, 1) := by decide +kernel
theorem dX7_perform_103 : decode cX7_perform 103 = .ok (.iaload, 1) := by decide +kernel
theorem dX7_perform_104 : decode cX7_perform 104 = .ok (.aload_n 1, 1) := by decide +kernel
theorem dX7_perform_105 : decode cX7_perform 105 = .ok (.iconst 4, 1) := by decide +kernel
theorem dX7_perform_106 : decode cX7_perform 106 = .ok (.iaload, 1) := by decide +kernel
theorem dX7_perform_107 : decode cX7_perform 107 = .ok (.invokevirtual 295, 3) := by decide +kernel
theorem dX7_perform_110 : decode cX7_perform 110 = .ok (.pop, 1) := by decide +kernel
theorem dX7_perform_111 : decode cX7_perform 111 = .ok (.goto 58, 3) := by decide +kernel
theorem dX7_perform_114 : decode cX7_perform 114 = .ok (.aload_n 0, 1) := by decide +kernel
theorem dX7_perform_115 : decode cX7_perform 115 = .ok (.aload_n 1, 1) := by decide +kernel
theorem dX7_perform_116 : decode cX7_perform 116 = .ok (.iconst 1, 1) := by decide +kernel
theorem dX7_perform_117 : decode cX7_perform 117 = .ok (.iaload, 1) := by decide +kernel
theorem dX7_perform_118 : decode cX7_perform 118 = .ok (.aload_n 1, 1) := by decide +kernel
theorem dX7_perform_119 : decode cX7_perform 119 = .ok (.iconst 2, 1) := by decide +kernel
theorem dX7_perform_120 : decode cX7_perform 120 = .ok (.iaload, 1) := by decide +kernel
theorem dX7_perform_121 : decode cX7_perform 121 = .ok (.aload_n 1, 1) := by decide +kernel
theorem dX7_perform_122 : decode cX7_perform 122 = .ok (.iconst 3, 1) := by decide +kernel
theorem dX7_perform_123 : decode cX7_perform 123 = .ok (.iaload, 1) := by decide +kernel
theorem dX7_perform_124 : decode cX7_perform 124 = .ok (.invokevirtual 299, 3) := by decide +kernel
theorem dX7_perform_127 : decode cX7_perform 127 = .ok (.pop, 1) := by decide +kernel
theorem dX7_perform_128 : decode cX7_perform 128 = .ok (.goto 41, 3) := by decide +kernel
theorem dX7_perform_131 : decode cX7_perform 131 = .ok (.aload_n 0, 1) := by decide +kernel
theorem dX7_perform_132 : decode cX7_perform 132 = .ok (.aload_n 1, 1) := by decide +kernel
theorem dX7_perform_133 : decode cX7_perform 133 = .ok (.iconst 1, 1) := by decide +kernel
theorem dX7_perform_134 : decode cX7_perform 134 = .ok (.iaload, 1) := by decide +kernel
theorem dX7_perform_135 : decode cX7_perform 135 = .ok (.aload_n 1, 1) := by decide +kernel
theorem dX7_perform_136 : decode cX7_perform 136 = .ok (.iconst 2, 1) := by decide +kernel
theorem dX7_perform_137 : decode cX7_perform 137 = .ok (.iaload, 1) := by decide +kernel
theorem dX7_perform_138 : decode cX7_perform 138 = .ok (.invokevirtual 301, 3) := by decide +kernel
theorem dX7_perform_141 : decode cX7_perform 141 = .ok (.pop, 1) := by decide +kernel
theorem dX7_perform_142 : decode cX7_perform 142 = .ok (.goto 27, 3) := by decide +kernel
theorem dX7_perform_145 : decode cX7_perform 145 = .ok (.aload_n 1, 1) := by decide +kernel
theorem dX7_perform_146 : decode cX7_perform 146 = .ok (.iconst 1, 1) := by decide +kernel
theorem dX7_perform_147 : decode cX7_perform 147 = .ok (.iaload, 1) := by decide +kernel
theorem dX7_perform_148 : decode cX7_perform 148 = .ok (.invokestatic 151, 3) := by decide +kernel
theorem dX7_perform_151 : decode cX7_perform 151 = .ok (.ifCond .eq 18, 3) := by decide +kernel
theorem dX7_perform_154 : decode cX7_perform 154 = .ok (.aload_n 0, 1) := by decide +kernel
theorem dX7_perform_155 : decode cX7_perform 155 = .ok (.getfield 18, 3) := by decide +kernel
theorem dX7_perform_158 : decode cX7_perform 158 = .ok (.aload_n 1, 1) := by decide +kernel
theorem dX7_perform_159 : decode cX7_perform 159 = .ok (.iconst 1, 1) := by decide +kernel
theorem dX7_perform_160 : decode cX7_perform 160 = .ok (.iaload, 1) := by decide +kernel
theorem dX7_perform_161 : decode cX7_perform 161 = .ok (.aaload, 1) := by decide +kernel
theorem dX7_perform_162 : decode cX7_perform 162 = .ok (.iconst 1, 1) := by decide +kernel
theorem dX7_perform_163 : decode cX7_perform 163 = .ok (.putfield 198, 3) := by decide +kernel
theorem dX7_perform_166 : decode cX7_perform 166 = .ok (.goto 3, 3) := by decide +kernel
theorem dX7_perform_169 : decode cX7_perform 169 = .ok (.return_, 1) := by decide +kernel
theorem dX7_clearAll_0 : decode cX7_clearAll 0 = .ok (.aload_n 0, 1) := by decide +kernel
theorem dX7_clearAll_1 : decode cX7_clearAll 1 = .ok (.getfield 12, 3) := by decide +kernel
theorem dX7_clearAll_4 : decode cX7_clearAll 4 = .ok (.iconst 0, 1) := by decide +kernel
theorem dX7_clearAll_5 : decode cX7_clearAll 5 = .ok (.putfield 144, 3) := by decide +kernel
theorem dX7_clearAll_8 : decode cX7_clearAll 8 = .ok (.iconst 0, 1) := by decide +kernel
theorem dX7_clearAll_9 : decode cX7_clearAll 9 = .ok (.istore_n 1, 1) := by decide +kernel
theorem dX7_clearAll_10 : decode cX7_clearAll 10 = .ok (.iload_n 1, 1) := by decide +kernel
theorem dX7_clearAll_11 : decode cX7_clearAll 11 = .ok (.iconst 4, 1) := by decide +kernel
theorem dX7_clearAll_12 : decode cX7_clearAll 12 = .ok (.if_icmp .ge 18, 3) := by decide +kernel
theorem dX7_clearAll_15 : decode cX7_clearAll 15 = .ok (.aload_n 0, 1) := by decide +kernel
theorem dX7_clearAll_16 : decode cX7_clearAll 16 = .ok (.getfield 18, 3) := by decide +kernel
theorem dX7_clearAll_19 : decode cX7_clearAll 19 = .ok (.iload_n 1, 1) := by decide +kernel
theorem dX7_clearAll_20 : decode cX7_clearAll 20 = .ok (.aaload, 1) := by decide +kernel
theorem dX7_clearAll_21 : decode cX7_clearAll 21 = .ok (.invokevirtual 303, 3) := by decide +kernel
theorem dX7_clearAll_24 : decode cX7_clearAll 24 = .ok (.iinc 1 1, 3) := by decide +kernel
theorem dX7_clearAll_27 : decode cX7_clearAll 27 = .ok (.goto (-17), 3) := by decide +kernel
theorem dX7_clearAll_30 : decode cX7_clearAll 30 = .ok (.return_, 1) := by decide +kernel
theorem dX7_forgetAllBehindText_0 : decode cX7_forgetAllBehindText 0 = .ok (.iconst 0, 1) := by decide +kernel
theorem dX7_forgetAllBehindText_1 : decode cX7_forgetAllBehindText 1 = .ok (.istore_n 1, 1) := by decide +kernel
theorem dX7_forgetAllBehindText_2 : decode cX7_forgetAllBehindText 2 = .ok (.iload_n 1, 1) := by decide +kernel
theorem dX7_forgetAllBehindText_3 : decode cX7_forgetAllBehindText 3 = .ok (.iconst 4, 1) := by decide +kernel
theorem dX7_forgetAllBehindText_4 : decode cX7_forgetAllBehindText 4 = .ok (.if_icmp .ge 19, 3) := by decide +kernel
theorem dX7_forgetAllBehindText_7 : decode cX7_forgetAllBehindText 7 = .ok (.aload_n 0, 1) := by decide +kernel
theorem dX7_forgetAllBehindText_8 : decode cX7_forgetAllBehindText 8 = .ok (.getfield 18, 3) := by decide +kernel
theorem dX7_forgetAllBehindText_11 : decode cX7_forgetAllBehindText 11 = .ok (.iload_n 1, 1) := by decide +kernel
theorem dX7_forgetAllBehindText_12 : decode cX7_forgetAllBehindText 12 = .ok (.aaload, 1) := by decide +kernel
theorem dX7_forgetAllBehindText_13 : decode cX7_forgetAllBehindText 13 = .ok (.iconst 0, 1) := by decide +kernel
theorem dX7_forgetAllBehindText_14 : decode cX7_forgetAllBehindText 14 = .ok (.putfield 218, 3) := by decide +kernel
theorem dX7_forgetAllBehindText_17 : decode cX7_forgetAllBehindText 17 = .ok (.iinc 1 1, 3) := by decide +kernel
theorem dX7_forgetAllBehindText_20 : decode cX7_forgetAllBehindText 20 = .ok (.goto (-18), 3) := by decide +kernel
theorem dX7_forgetAllBehindText_23 : decode cX7_forgetAllBehindText 23 = .ok (.iconst 0, 1) := by decide +kernel
theorem dX7_forgetAllBehindText_24 : decode cX7_forgetAllBehindText 24 = .ok (.istore_n 1, 1) := by decide +kernel
theorem dX7_forgetAllBehindText_25 : decode cX7_forgetAllBehindText 25 = .ok (.iload_n 1, 1) := by decide +kernel
theorem dX7_forgetAllBehindText_26 : decode cX7_forgetAllBehindText 26 = .ok (.iconst 2, 1) := by decide +kernel
theorem dX7_forgetAllBehindText_27 : decode cX7_forgetAllBehindText 27 = .ok (.if_icmp .ge 16, 3) := by decide +kernel
theorem dX7_forgetAllBehindText_30 : decode cX7_forgetAllBehindText 30 = .ok (.aload_n 0, 1) := by decide +kernel
theorem dX7_forgetAllBehindText_31 : decode cX7_forgetAllBehindText 31 = .ok (.getfield 22, 3) := by decide +kernel
theorem dX7_forgetAllBehindText_34 : decode cX7_forgetAllBehindText 34 = .ok (.iload_n 1, 1) := by decide +kernel
theorem dX7_forgetAllBehindText_35 : decode cX7_forgetAllBehindText 35 = .ok (.iconst 0, 1) := by decide +kernel
theorem dX7_forgetAllBehindText_36 : decode cX7_forgetAllBehindText 36 = .ok (.bastore, 1) := by decide +kernel
theorem dX7_forgetAllBehindText_37 : decode cX7_forgetAllBehindText 37 = .ok (.iinc 1 1, 3) := by decide +kernel
theorem dX7_forgetAllBehindText_40 : decode cX7_forgetAllBehindText 40 = .ok (.goto (-15), 3) := by decide +kernel
theorem dX7_forgetAllBehindText_43 : decode cX7_forgetAllBehindText 43 = .ok (.iconst 0, 1) := by decide +kernel
theorem dX7_forgetAllBehindText_44 : decode cX7_forgetAllBehindText 44 = .ok (.istore_n 1, 1) := by decide +kernel
theorem dX7_forgetAllBehindText_45 : decode cX7_forgetAllBehindText 45 = .ok (.iload_n 1, 1) := by decide +kernel
theorem dX7_forgetAllBehindText_46 : decode cX7_forgetAllBehindText 46 = .ok (.iconst 3, 1) := by decide +kernel
theorem dX7_forgetAllBehindText_47 : decode cX7_forgetAllBehindText 47 = .ok (.if_icmp .ge 19, 3) := by decide +kernel
theorem dX7_forgetAllBehindText_50 : decode cX7_forgetAllBehindText 50 = .ok (.aload_n 0, 1) := by decide +kernel
theorem dX7_forgetAllBehindText_51 : decode cX7_forgetAllBehindText 51 = .ok (.getfield 28, 3) := by decide +kernel
theorem dX7_forgetAllBehindText_54 : decode cX7_forgetAllBehindText 54 = .ok (.iload_n 1, 1) := by decide +kernel
theorem dX7_forgetAllBehindText_55 : decode cX7_forgetAllBehindText 55 = .ok (.aaload, 1) := by decide +kernel
theorem dX7_forgetAllBehindText_56 : decode cX7_forgetAllBehindText 56 = .ok (.iconst 1, 1) := by decide +kernel
theorem dX7_forgetAllBehindText_57 : decode cX7_forgetAllBehindText 57 = .ok (.putfield 258, 3) := by decide +kernel
theorem dX7_forgetAllBehindText_60 : decode cX7_forgetAllBehindText 60 = .ok (.iinc 1 1, 3) := by decide +kernel
theorem dX7_forgetAllBehindText_63 : decode cX7_forgetAllBehindText 63 = .ok (.goto (-18), 3) := by decide +kernel
theorem dX7_forgetAllBehindText_66 : decode cX7_forgetAllBehindText 66 = .ok (.return_, 1) := by decide +kernel
theorem dX7_playedOn_0 : decode cX7_playedOn 0 = .ok (.aload_n 1, 1) := by decide +kernel
theorem dX7_playedOn_1 : decode cX7_playedOn 1 = .ok (.iload_n 2, 1) := by decide +kernel
theorem dX7_playedOn_2 : decode cX7_playedOn 2 = .ok (.invokevirtual 306, 3) := by decide +kernel
theorem dX7_playedOn_5 : decode cX7_playedOn 5 = .ok (.istore_n 3, 1) := by decide +kernel
theorem dX7_playedOn_6 : decode cX7_playedOn 6 = .ok (.iload_n 3, 1) := by decide +kernel
theorem dX7_playedOn_7 : decode cX7_playedOn 7 = .ok (.iconst (-1), 1) := by decide +kernel
theorem dX7_playedOn_8 : decode cX7_playedOn 8 = .ok (.if_icmp .ne 5, 3) := by decide +kernel
theorem dX7_playedOn_11 : decode cX7_playedOn 11 = .ok (.fconst 0, 1) := by decide +kernel
theorem dX7_playedOn_12 : decode cX7_playedOn 12 = .ok (.freturn, 1) := by decide +kernel
theorem dX7_playedOn_13 : decode cX7_playedOn 13 = .ok (.aload_n 1, 1) := by decide +kernel
theorem dX7_playedOn_14 : decode cX7_playedOn 14 = .ok (.getfield 115, 3) := by decide +kernel
theorem dX7_playedOn_17 : decode cX7_playedOn 17 = .ok (.iload_n 3, 1) := by decide +kernel
theorem dX7_playedOn_18 : decode cX7_playedOn 18 = .ok (.aaload, 1) := by decide +kernel
theorem dX7_playedOn_19 : decode cX7_playedOn 19 = .ok (.astore 4, 2) := by decide +kernel
theorem dX7_playedOn_21 : decode cX7_playedOn 21 = .ok (.iload_n 2, 1) := by decide +kernel
theorem dX7_playedOn_22 : decode cX7_playedOn 22 = .ok (.aload 4, 2) := by decide +kernel
theorem dX7_playedOn_24 : decode cX7_playedOn 24 = .ok (.getfield 132, 3) := by decide +kernel
theorem dX7_playedOn_27 : decode cX7_playedOn 27 = .ok (.isub, 1) := by decide +kernel
theorem dX7_playedOn_28 : decode cX7_playedOn 28 = .ok (.istore 5, 2) := by decide +kernel
theorem dX7_playedOn_30 : decode cX7_playedOn 30 = .ok (.aload 4, 2) := by decide +kernel
theorem dX7_playedOn_32 : decode cX7_playedOn 32 = .ok (.aload_n 0, 1) := by decide +kernel
theorem dX7_playedOn_33 : decode cX7_playedOn 33 = .ok (.getfield 12, 3) := by decide +kernel
theorem dX7_playedOn_36 : decode cX7_playedOn 36 = .ok (.aload 4, 2) := by decide +kernel
theorem dX7_playedOn_38 : decode cX7_playedOn 38 = .ok (.getfield 121, 3) := by decide +kernel
theorem dX7_playedOn_41 : decode cX7_playedOn 41 = .ok (.aload 4, 2) := by decide +kernel
theorem dX7_playedOn_43 : decode cX7_playedOn 43 = .ok (.getfield 126, 3) := by decide +kernel
theorem dX7_playedOn_46 : decode cX7_playedOn 46 = .ok (.iload 5, 2) := by decide +kernel
theorem dX7_playedOn_48 : decode cX7_playedOn 48 = .ok (.iadd, 1) := by decide +kernel
theorem dX7_playedOn_49 : decode cX7_playedOn 49 = .ok (.invokevirtual 92, 3) := by decide +kernel
theorem dX7_playedOn_52 : decode cX7_playedOn 52 = .ok (.iload 5, 2) := by decide +kernel
theorem dX7_playedOn_54 : decode cX7_playedOn 54 = .ok (.invokevirtual 309, 3) := by decide +kernel
theorem dX7_playedOn_57 : decode cX7_playedOn 57 = .ok (.freturn, 1) := by decide +kernel
theorem dX7_heardAt_0 : decode cX7_heardAt 0 = .ok (.fconst 0, 1) := by decide +kernel
theorem dX7_heardAt_1 : decode cX7_heardAt 1 = .ok (.fstore_n 2, 1) := by decide +kernel
theorem dX7_heardAt_2 : decode cX7_heardAt 2 = .ok (.iconst 0, 1) := by decide +kernel
theorem dX7_heardAt_3 : decode cX7_heardAt 3 = .ok (.istore_n 3, 1) := by decide +kernel
theorem dX7_heardAt_4 : decode cX7_heardAt 4 = .ok (.iload_n 3, 1) := by decide +kernel
