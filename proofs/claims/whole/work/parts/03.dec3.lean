theorem dX8_reads_60 : decode cX8_reads 60 = .ok (.ifCond .ge 79, 3) := by decide +kernel
theorem dX8_reads_63 : decode cX8_reads 63 = .ok (.aload_n 0, 1) := by decide +kernel
theorem dX8_reads_64 : decode cX8_reads 64 = .ok (.iload_n 1, 1) := by decide +kernel
theorem dX8_reads_65 : decode cX8_reads 65 = .ok (.invokevirtual 185, 3) := by decide +kernel
theorem dX8_reads_68 : decode cX8_reads 68 = .ok (.iinc 2 1, 3) := by decide +kernel
theorem dX8_reads_71 : decode cX8_reads 71 = .ok (.aload_n 0, 1) := by decide +kernel
theorem dX8_reads_72 : decode cX8_reads 72 = .ok (.getfield 121, 3) := by decide +kernel
theorem dX8_reads_75 : decode cX8_reads 75 = .ok (.ifCond .ge 30, 3) := by decide +kernel
theorem dX8_reads_78 : decode cX8_reads 78 = .ok (.aload_n 0, 1) := by decide +kernel
theorem dX8_reads_79 : decode cX8_reads 79 = .ok (.getfield 114, 3) := by decide +kernel
theorem dX8_reads_82 : decode cX8_reads 82 = .ok (.iconst 3, 1) := by decide +kernel
theorem dX8_reads_83 : decode cX8_reads 83 = .ok (.if_icmp .ne 22, 3) := by decide +kernel
theorem dX8_reads_86 : decode cX8_reads 86 = .ok (.aload_n 0, 1) := by decide +kernel
theorem dX8_reads_87 : decode cX8_reads 87 = .ok (.getfield 107, 3) := by decide +kernel
theorem dX8_reads_90 : decode cX8_reads 90 = .ok (.bipush 59, 2) := by decide +kernel
theorem dX8_reads_92 : decode cX8_reads 92 = .ok (.if_icmp .ne 13, 3) := by decide +kernel
theorem dX8_reads_95 : decode cX8_reads 95 = .ok (.iload_n 2, 1) := by decide +kernel
theorem dX8_reads_96 : decode cX8_reads 96 = .ok (.bipush 24, 2) := by decide +kernel
theorem dX8_reads_98 : decode cX8_reads 98 = .ok (.if_icmp .ge 7, 3) := by decide +kernel
theorem dX8_reads_101 : decode cX8_reads 101 = .ok (.iconst 1, 1) := by decide +kernel
theorem dX8_reads_102 : decode cX8_reads 102 = .ok (.goto 4, 3) := by decide +kernel
theorem dX8_reads_105 : decode cX8_reads 105 = .ok (.iconst 0, 1) := by decide +kernel
theorem dX8_reads_106 : decode cX8_reads 106 = .ok (.istore_n 3, 1) := by decide +kernel
theorem dX8_reads_107 : decode cX8_reads 107 = .ok (.iload_n 3, 1) := by decide +kernel
theorem dX8_reads_108 : decode cX8_reads 108 = .ok (.ifCond .eq 10, 3) := by decide +kernel
theorem dX8_reads_111 : decode cX8_reads 111 = .ok (.aload_n 0, 1) := by decide +kernel
theorem dX8_reads_112 : decode cX8_reads 112 = .ok (.invokevirtual 127, 3) := by decide +kernel
theorem dX8_reads_115 : decode cX8_reads 115 = .ok (.goto (-63), 3) := by decide +kernel
theorem dX8_reads_118 : decode cX8_reads 118 = .ok (.aload_n 0, 1) := by decide +kernel
theorem dX8_reads_119 : decode cX8_reads 119 = .ok (.getfield 121, 3) := by decide +kernel
theorem dX8_reads_122 : decode cX8_reads 122 = .ok (.ifCond .ge (-70), 3) := by decide +kernel
theorem dX8_reads_125 : decode cX8_reads 125 = .ok (.aload_n 0, 1) := by decide +kernel
theorem dX8_reads_126 : decode cX8_reads 126 = .ok (.getfield 114, 3) := by decide +kernel
theorem dX8_reads_129 : decode cX8_reads 129 = .ok (.ifCond .eq (-77), 3) := by decide +kernel
theorem dX8_reads_132 : decode cX8_reads 132 = .ok (.aload_n 0, 1) := by decide +kernel
theorem dX8_reads_133 : decode cX8_reads 133 = .ok (.invokevirtual 124, 3) := by decide +kernel
theorem dX8_reads_136 : decode cX8_reads 136 = .ok (.goto (-84), 3) := by decide +kernel
theorem dX8_reads_139 : decode cX8_reads 139 = .ok (.iload_n 2, 1) := by decide +kernel
theorem dX8_reads_140 : decode cX8_reads 140 = .ok (.ireturn, 1) := by decide +kernel
theorem dX8_write_0 : decode cX8_write 0 = .ok (.iload_n 1, 1) := by decide +kernel
theorem dX8_write_1 : decode cX8_write 1 = .ok (.i2l, 1) := by decide +kernel
theorem dX8_write_2 : decode cX8_write 2 = .ok (.lconst 0, 1) := by decide +kernel
theorem dX8_write_3 : decode cX8_write 3 = .ok (.ldc2_w 188, 3) := by decide +kernel
theorem dX8_write_6 : decode cX8_write 6 = .ok (.invokestatic 62, 3) := by decide +kernel
theorem dX8_write_9 : decode cX8_write 9 = .ok (.ifCond .ne 6, 3) := by decide +kernel
theorem dX8_write_12 : decode cX8_write 12 = .ok (.ldc 190, 2) := by decide +kernel
theorem dX8_write_14 : decode cX8_write 14 = .ok (.ireturn, 1) := by decide +kernel
theorem dX8_write_15 : decode cX8_write 15 = .ok (.aload_n 0, 1) := by decide +kernel
theorem dX8_write_16 : decode cX8_write 16 = .ok (.getfield 94, 3) := by decide +kernel
theorem dX8_write_19 : decode cX8_write 19 = .ok (.sipush 200, 3) := by decide +kernel
theorem dX8_write_22 : decode cX8_write 22 = .ok (.if_icmp .ne 6, 3) := by decide +kernel
theorem dX8_write_25 : decode cX8_write 25 = .ok (.ldc 191, 2) := by decide +kernel
theorem dX8_write_27 : decode cX8_write 27 = .ok (.ireturn, 1) := by decide +kernel
theorem dX8_write_28 : decode cX8_write 28 = .ok (.aload_n 0, 1) := by decide +kernel
theorem dX8_write_29 : decode cX8_write 29 = .ok (.getfield 45, 3) := by decide +kernel
theorem dX8_write_32 : decode cX8_write 32 = .ok (.aload_n 0, 1) := by decide +kernel
theorem dX8_write_33 : decode cX8_write 33 = .ok (.getfield 94, 3) := by decide +kernel
theorem dX8_write_36 : decode cX8_write 36 = .ok (.iload_n 1, 1) := by decide +kernel
theorem dX8_write_37 : decode cX8_write 37 = .ok (.iastore, 1) := by decide +kernel
theorem dX8_write_38 : decode cX8_write 38 = .ok (.aload_n 0, 1) := by decide +kernel
theorem dX8_write_39 : decode cX8_write 39 = .ok (.dup, 1) := by decide +kernel
theorem dX8_write_40 : decode cX8_write 40 = .ok (.getfield 94, 3) := by decide +kernel
theorem dX8_write_43 : decode cX8_write 43 = .ok (.iconst 1, 1) := by decide +kernel
theorem dX8_write_44 : decode cX8_write 44 = .ok (.iadd, 1) := by decide +kernel
theorem dX8_write_45 : decode cX8_write 45 = .ok (.putfield 94, 3) := by decide +kernel
theorem dX8_write_48 : decode cX8_write 48 = .ok (.aload_n 0, 1) := by decide +kernel
theorem dX8_write_49 : decode cX8_write 49 = .ok (.getfield 94, 3) := by decide +kernel
theorem dX8_write_52 : decode cX8_write 52 = .ok (.ireturn, 1) := by decide +kernel
theorem dX8_erase_0 : decode cX8_erase 0 = .ok (.aload_n 0, 1) := by decide +kernel
theorem dX8_erase_1 : decode cX8_erase 1 = .ok (.getfield 94, 3) := by decide +kernel
theorem dX8_erase_4 : decode cX8_erase 4 = .ok (.istore_n 1, 1) := by decide +kernel
theorem dX8_erase_5 : decode cX8_erase 5 = .ok (.aload_n 0, 1) := by decide +kernel
theorem dX8_erase_6 : decode cX8_erase 6 = .ok (.iconst 0, 1) := by decide +kernel
theorem dX8_erase_7 : decode cX8_erase 7 = .ok (.putfield 94, 3) := by decide +kernel
theorem dX8_erase_10 : decode cX8_erase 10 = .ok (.iload_n 1, 1) := by decide +kernel
theorem dX8_erase_11 : decode cX8_erase 11 = .ok (.ireturn, 1) := by decide +kernel
theorem dX8_fault_0 : decode cX8_fault 0 = .ok (.aload_n 0, 1) := by decide +kernel
theorem dX8_fault_1 : decode cX8_fault 1 = .ok (.iconst 0, 1) := by decide +kernel
theorem dX8_fault_2 : decode cX8_fault 2 = .ok (.invokevirtual 192, 3) := by decide +kernel
theorem dX8_fault_5 : decode cX8_fault 5 = .ok (.pop, 1) := by decide +kernel
theorem dX8_fault_6 : decode cX8_fault 6 = .ok (.aload_n 0, 1) := by decide +kernel
theorem dX8_fault_7 : decode cX8_fault 7 = .ok (.getfield 121, 3) := by decide +kernel
theorem dX8_fault_10 : decode cX8_fault 10 = .ok (.ireturn, 1) := by decide +kernel
theorem dX8_house_0 : decode cX8_house 0 = .ok (.aload_n 0, 1) := by decide +kernel
theorem dX8_house_1 : decode cX8_house 1 = .ok (.iconst 0, 1) := by decide +kernel
theorem dX8_house_2 : decode cX8_house 2 = .ok (.invokevirtual 192, 3) := by decide +kernel
theorem dX8_house_5 : decode cX8_house 5 = .ok (.pop, 1) := by decide +kernel
theorem dX8_house_6 : decode cX8_house 6 = .ok (.aload_n 0, 1) := by decide +kernel
theorem dX8_house_7 : decode cX8_house 7 = .ok (.getfield 121, 3) := by decide +kernel
theorem dX8_house_10 : decode cX8_house 10 = .ok (.ifCond .lt 6, 3) := by decide +kernel
theorem dX8_house_13 : decode cX8_house 13 = .ok (.ldc 196, 2) := by decide +kernel
theorem dX8_house_15 : decode cX8_house 15 = .ok (.ireturn, 1) := by decide +kernel
theorem dX8_house_16 : decode cX8_house 16 = .ok (.aload_n 0, 1) := by decide +kernel
theorem dX8_house_17 : decode cX8_house 17 = .ok (.iconst 1, 1) := by decide +kernel
theorem dX8_house_18 : decode cX8_house 18 = .ok (.invokevirtual 192, 3) := by decide +kernel
theorem dX8_house_21 : decode cX8_house 21 = .ok (.istore_n 1, 1) := by decide +kernel
theorem dX8_house_22 : decode cX8_house 22 = .ok (.aload_n 0, 1) := by decide +kernel
theorem dX8_house_23 : decode cX8_house 23 = .ok (.iconst 0, 1) := by decide +kernel
theorem dX8_house_24 : decode cX8_house 24 = .ok (.putfield 94, 3) := by decide +kernel
theorem dX8_house_27 : decode cX8_house 27 = .ok (.iconst 0, 1) := by decide +kernel
theorem dX8_house_28 : decode cX8_house 28 = .ok (.istore_n 2, 1) := by decide +kernel
theorem dX8_house_29 : decode cX8_house 29 = .ok (.iload_n 2, 1) := by decide +kernel
theorem dX8_house_30 : decode cX8_house 30 = .ok (.iconst 4, 1) := by decide +kernel
theorem dX8_house_31 : decode cX8_house 31 = .ok (.if_icmp .ge 16, 3) := by decide +kernel
theorem dX8_house_34 : decode cX8_house 34 = .ok (.aload_n 0, 1) := by decide +kernel
theorem dX8_house_35 : decode cX8_house 35 = .ok (.getfield 26, 3) := by decide +kernel
theorem dX8_house_38 : decode cX8_house 38 = .ok (.iload_n 2, 1) := by decide +kernel
theorem dX8_house_39 : decode cX8_house 39 = .ok (.iconst 0, 1) := by decide +kernel
theorem dX8_house_40 : decode cX8_house 40 = .ok (.iastore, 1) := by decide +kernel
theorem dX8_house_41 : decode cX8_house 41 = .ok (.iinc 2 1, 3) := by decide +kernel
theorem dX8_house_44 : decode cX8_house 44 = .ok (.goto (-15), 3) := by decide +kernel
theorem dX8_house_47 : decode cX8_house 47 = .ok (.iconst 0, 1) := by decide +kernel
theorem dX8_house_48 : decode cX8_house 48 = .ok (.istore_n 2, 1) := by decide +kernel
theorem dX8_house_49 : decode cX8_house 49 = .ok (.iload_n 2, 1) := by decide +kernel
theorem dX8_house_50 : decode cX8_house 50 = .ok (.iconst 2, 1) := by decide +kernel
theorem dX8_house_51 : decode cX8_house 51 = .ok (.if_icmp .ge 16, 3) := by decide +kernel
theorem dX8_house_54 : decode cX8_house 54 = .ok (.aload_n 0, 1) := by decide +kernel
theorem dX8_house_55 : decode cX8_house 55 = .ok (.getfield 35, 3) := by decide +kernel
theorem dX8_house_58 : decode cX8_house 58 = .ok (.iload_n 2, 1) := by decide +kernel
theorem dX8_house_59 : decode cX8_house 59 = .ok (.iconst 0, 1) := by decide +kernel
theorem dX8_house_60 : decode cX8_house 60 = .ok (.bastore, 1) := by decide +kernel
theorem dX8_house_61 : decode cX8_house 61 = .ok (.iinc 2 1, 3) := by decide +kernel
theorem dX8_house_64 : decode cX8_house 64 = .ok (.goto (-15), 3) := by decide +kernel
theorem dX8_house_67 : decode cX8_house 67 = .ok (.iconst 0, 1) := by decide +kernel
theorem dX8_house_68 : decode cX8_house 68 = .ok (.istore_n 2, 1) := by decide +kernel
theorem dX8_house_69 : decode cX8_house 69 = .ok (.iload_n 2, 1) := by decide +kernel
theorem dX8_house_70 : decode cX8_house 70 = .ok (.iconst 3, 1) := by decide +kernel
theorem dX8_house_71 : decode cX8_house 71 = .ok (.if_icmp .ge 16, 3) := by decide +kernel
theorem dX8_house_74 : decode cX8_house 74 = .ok (.aload_n 0, 1) := by decide +kernel
theorem dX8_house_75 : decode cX8_house 75 = .ok (.getfield 51, 3) := by decide +kernel
theorem dX8_house_78 : decode cX8_house 78 = .ok (.iload_n 2, 1) := by decide +kernel
theorem dX8_house_79 : decode cX8_house 79 = .ok (.iconst (-1), 1) := by decide +kernel
theorem dX8_house_80 : decode cX8_house 80 = .ok (.iastore, 1) := by decide +kernel
theorem dX8_house_81 : decode cX8_house 81 = .ok (.iinc 2 1, 3) := by decide +kernel
theorem dX8_house_84 : decode cX8_house 84 = .ok (.goto (-15), 3) := by decide +kernel
theorem dX8_house_87 : decode cX8_house 87 = .ok (.iload_n 1, 1) := by decide +kernel
theorem dX8_house_88 : decode cX8_house 88 = .ok (.ireturn, 1) := by decide +kernel
theorem dX8_sounds_0 : decode cX8_sounds 0 = .ok (.iconst 0, 1) := by decide +kernel
theorem dX8_sounds_1 : decode cX8_sounds 1 = .ok (.istore 4, 2) := by decide +kernel
theorem dX8_sounds_3 : decode cX8_sounds 3 = .ok (.iload 4, 2) := by decide +kernel
theorem dX8_sounds_5 : decode cX8_sounds 5 = .ok (.iload_n 3, 1) := by decide +kernel
theorem dX8_sounds_6 : decode cX8_sounds 6 = .ok (.if_icmp .ge 38, 3) := by decide +kernel
theorem dX8_sounds_9 : decode cX8_sounds 9 = .ok (.aload_n 0, 1) := by decide +kernel
theorem dX8_sounds_10 : decode cX8_sounds 10 = .ok (.getfield 7, 3) := by decide +kernel
theorem dX8_sounds_13 : decode cX8_sounds 13 = .ok (.bipush 64, 2) := by decide +kernel
theorem dX8_sounds_15 : decode cX8_sounds 15 = .ok (.aload_n 0, 1) := by decide +kernel
theorem dX8_sounds_16 : decode cX8_sounds 16 = .ok (.getfield 159, 3) := by decide +kernel
theorem dX8_sounds_19 : decode cX8_sounds 19 = .ok (.imul, 1) := by decide +kernel
theorem dX8_sounds_20 : decode cX8_sounds 20 = .ok (.iload 4, 2) := by decide +kernel
theorem dX8_sounds_22 : decode cX8_sounds 22 = .ok (.iadd, 1) := by decide +kernel
theorem dX8_sounds_23 : decode cX8_sounds 23 = .ok (.iload_n 1, 1) := by decide +kernel
theorem dX8_sounds_24 : decode cX8_sounds 24 = .ok (.iload 4, 2) := by decide +kernel
theorem dX8_sounds_26 : decode cX8_sounds 26 = .ok (.imul, 1) := by decide +kernel
theorem dX8_sounds_27 : decode cX8_sounds 27 = .ok (.iload_n 2, 1) := by decide +kernel
theorem dX8_sounds_28 : decode cX8_sounds 28 = .ok (.iadd, 1) := by decide +kernel
theorem dX8_sounds_29 : decode cX8_sounds 29 = .ok (.sipush 201, 3) := by decide +kernel
theorem dX8_sounds_32 : decode cX8_sounds 32 = .ok (.irem, 1) := by decide +kernel
theorem dX8_sounds_33 : decode cX8_sounds 33 = .ok (.bipush 100, 2) := by decide +kernel
theorem dX8_sounds_35 : decode cX8_sounds 35 = .ok (.isub, 1) := by decide +kernel
theorem dX8_sounds_36 : decode cX8_sounds 36 = .ok (.i2f, 1) := by decide +kernel
theorem dX8_sounds_37 : decode cX8_sounds 37 = .ok (.fastore, 1) := by decide +kernel
theorem dX8_sounds_38 : decode cX8_sounds 38 = .ok (.iinc 4 1, 3) := by decide +kernel
theorem dX8_sounds_41 : decode cX8_sounds 41 = .ok (.goto (-38), 3) := by decide +kernel
theorem dX8_sounds_44 : decode cX8_sounds 44 = .ok (.aload_n 0, 1) := by decide +kernel
theorem dX8_sounds_45 : decode cX8_sounds 45 = .ok (.getfield 13, 3) := by decide +kernel
theorem dX8_sounds_48 : decode cX8_sounds 48 = .ok (.aload_n 0, 1) := by decide +kernel
theorem dX8_sounds_49 : decode cX8_sounds 49 = .ok (.getfield 159, 3) := by decide +kernel
theorem dX8_sounds_52 : decode cX8_sounds 52 = .ok (.iload_n 3, 1) := by decide +kernel
theorem dX8_sounds_53 : decode cX8_sounds 53 = .ok (.iastore, 1) := by decide +kernel
theorem dX8_sounds_54 : decode cX8_sounds 54 = .ok (.aload_n 0, 1) := by decide +kernel
theorem dX8_sounds_55 : decode cX8_sounds 55 = .ok (.dup, 1) := by decide +kernel
theorem dX8_sounds_56 : decode cX8_sounds 56 = .ok (.getfield 159, 3) := by decide +kernel
theorem dX8_sounds_59 : decode cX8_sounds 59 = .ok (.iconst 1, 1) := by decide +kernel
theorem dX8_sounds_60 : decode cX8_sounds 60 = .ok (.iadd, 1) := by decide +kernel
theorem dX8_sounds_61 : decode cX8_sounds 61 = .ok (.putfield 159, 3) := by decide +kernel
theorem dX8_sounds_64 : decode cX8_sounds 64 = .ok (.return_, 1) := by decide +kernel
theorem dX8_spanAt_0 : decode cX8_spanAt 0 = .ok (.iconst 0, 1) := by decide +kernel
theorem dX8_spanAt_1 : decode cX8_spanAt 1 = .ok (.istore_n 3, 1) := by decide +kernel
theorem dX8_spanAt_2 : decode cX8_spanAt 2 = .ok (.iload_n 3, 1) := by decide +kernel
theorem dX8_spanAt_3 : decode cX8_spanAt 3 = .ok (.aload_n 0, 1) := by decide +kernel
theorem dX8_spanAt_4 : decode cX8_spanAt 4 = .ok (.iload_n 1, 1) := by decide +kernel
theorem dX8_spanAt_5 : decode cX8_spanAt 5 = .ok (.invokevirtual 70, 3) := by decide +kernel
theorem dX8_spanAt_8 : decode cX8_spanAt 8 = .ok (.if_icmp .ge 45, 3) := by decide +kernel
theorem dX8_spanAt_11 : decode cX8_spanAt 11 = .ok (.iload_n 2, 1) := by decide +kernel
theorem dX8_spanAt_12 : decode cX8_spanAt 12 = .ok (.i2l, 1) := by decide +kernel
theorem dX8_spanAt_13 : decode cX8_spanAt 13 = .ok (.aload_n 0, 1) := by decide +kernel
theorem dX8_spanAt_14 : decode cX8_spanAt 14 = .ok (.iload_n 1, 1) := by decide +kernel
theorem dX8_spanAt_15 : decode cX8_spanAt 15 = .ok (.iload_n 3, 1) := by decide +kernel
theorem dX8_spanAt_16 : decode cX8_spanAt 16 = .ok (.iconst 3, 1) := by decide +kernel
theorem dX8_spanAt_17 : decode cX8_spanAt 17 = .ok (.invokevirtual 74, 3) := by decide +kernel
theorem dX8_spanAt_20 : decode cX8_spanAt 20 = .ok (.i2l, 1) := by decide +kernel
theorem dX8_spanAt_21 : decode cX8_spanAt 21 = .ok (.aload_n 0, 1) := by decide +kernel
theorem dX8_spanAt_22 : decode cX8_spanAt 22 = .ok (.iload_n 1, 1) := by decide +kernel
theorem dX8_spanAt_23 : decode cX8_spanAt 23 = .ok (.iload_n 3, 1) := by decide +kernel
theorem dX8_spanAt_24 : decode cX8_spanAt 24 = .ok (.iconst 3, 1) := by decide +kernel
theorem dX8_spanAt_25 : decode cX8_spanAt 25 = .ok (.invokevirtual 74, 3) := by decide +kernel
theorem dX8_spanAt_28 : decode cX8_spanAt 28 = .ok (.aload_n 0, 1) := by decide +kernel
theorem dX8_spanAt_29 : decode cX8_spanAt 29 = .ok (.iload_n 1, 1) := by decide +kernel
theorem dX8_spanAt_30 : decode cX8_spanAt 30 = .ok (.iload_n 3, 1) := by decide +kernel
theorem dX8_spanAt_31 : decode cX8_spanAt 31 = .ok (.iconst 2, 1) := by decide +kernel
theorem dX8_spanAt_32 : decode cX8_spanAt 32 = .ok (.invokevirtual 74, 3) := by decide +kernel
theorem dX8_spanAt_35 : decode cX8_spanAt 35 = .ok (.iadd, 1) := by decide +kernel
theorem dX8_spanAt_36 : decode cX8_spanAt 36 = .ok (.iconst 1, 1) := by decide +kernel
theorem dX8_spanAt_37 : decode cX8_spanAt 37 = .ok (.isub, 1) := by decide +kernel
theorem dX8_spanAt_38 : decode cX8_spanAt 38 = .ok (.i2l, 1) := by decide +kernel
theorem dX8_spanAt_39 : decode cX8_spanAt 39 = .ok (.invokestatic 62, 3) := by decide +kernel
theorem dX8_spanAt_42 : decode cX8_spanAt 42 = .ok (.ifCond .eq 5, 3) := by decide +kernel
theorem dX8_spanAt_45 : decode cX8_spanAt 45 = .ok (.iload_n 3, 1) := by decide +kernel
theorem dX8_spanAt_46 : decode cX8_spanAt 46 = .ok (.ireturn, 1) := by decide +kernel
theorem dX8_spanAt_47 : decode cX8_spanAt 47 = .ok (.iinc 3 1, 3) := by decide +kernel
theorem dX8_spanAt_50 : decode cX8_spanAt 50 = .ok (.goto (-48), 3) := by decide +kernel
theorem dX8_spanAt_53 : decode cX8_spanAt 53 = .ok (.iconst (-1), 1) := by decide +kernel
theorem dX8_spanAt_54 : decode cX8_spanAt 54 = .ok (.ireturn, 1) := by decide +kernel
theorem dX8_playedAt_0 : decode cX8_playedAt 0 = .ok (.aload_n 0, 1) := by decide +kernel
theorem dX8_playedAt_1 : decode cX8_playedAt 1 = .ok (.iload_n 1, 1) := by decide +kernel
theorem dX8_playedAt_2 : decode cX8_playedAt 2 = .ok (.iload_n 2, 1) := by decide +kernel
theorem dX8_playedAt_3 : decode cX8_playedAt 3 = .ok (.invokevirtual 197, 3) := by decide +kernel
theorem dX8_playedAt_6 : decode cX8_playedAt 6 = .ok (.istore_n 3, 1) := by decide +kernel
theorem dX8_playedAt_7 : decode cX8_playedAt 7 = .ok (.iload_n 3, 1) := by decide +kernel
theorem dX8_playedAt_8 : decode cX8_playedAt 8 = .ok (.iconst (-1), 1) := by decide +kernel
theorem dX8_playedAt_9 : decode cX8_playedAt 9 = .ok (.if_icmp .ne 5, 3) := by decide +kernel
theorem dX8_playedAt_12 : decode cX8_playedAt 12 = .ok (.fconst 0, 1) := by decide +kernel
theorem dX8_playedAt_13 : decode cX8_playedAt 13 = .ok (.freturn, 1) := by decide +kernel
theorem dX8_playedAt_14 : decode cX8_playedAt 14 = .ok (.iload_n 2, 1) := by decide +kernel
theorem dX8_playedAt_15 : decode cX8_playedAt 15 = .ok (.aload_n 0, 1) := by decide +kernel
theorem dX8_playedAt_16 : decode cX8_playedAt 16 = .ok (.iload_n 1, 1) := by decide +kernel
theorem dX8_playedAt_17 : decode cX8_playedAt 17 = .ok (.iload_n 3, 1) := by decide +kernel
theorem dX8_playedAt_18 : decode cX8_playedAt 18 = .ok (.iconst 3, 1) := by decide +kernel
theorem dX8_playedAt_19 : decode cX8_playedAt 19 = .ok (.invokevirtual 74, 3) := by decide +kernel
theorem dX8_playedAt_22 : decode cX8_playedAt 22 = .ok (.isub, 1) := by decide +kernel
theorem dX8_playedAt_23 : decode cX8_playedAt 23 = .ok (.istore 4, 2) := by decide +kernel
theorem dX8_playedAt_25 : decode cX8_playedAt 25 = .ok (.aload_n 0, 1) := by decide +kernel
theorem dX8_playedAt_26 : decode cX8_playedAt 26 = .ok (.getfield 7, 3) := by decide +kernel
theorem dX8_playedAt_29 : decode cX8_playedAt 29 = .ok (.bipush 64, 2) := by decide +kernel
theorem dX8_playedAt_31 : decode cX8_playedAt 31 = .ok (.aload_n 0, 1) := by decide +kernel
theorem dX8_playedAt_32 : decode cX8_playedAt 32 = .ok (.iload_n 1, 1) := by decide +kernel
theorem dX8_playedAt_33 : decode cX8_playedAt 33 = .ok (.iload_n 3, 1) := by decide +kernel
theorem dX8_playedAt_34 : decode cX8_playedAt 34 = .ok (.iconst 0, 1) := by decide +kernel
theorem dX8_playedAt_35 : decode cX8_playedAt 35 = .ok (.invokevirtual 74, 3) := by decide +kernel
theorem dX8_playedAt_38 : decode cX8_playedAt 38 = .ok (.imul, 1) := by decide +kernel
theorem dX8_playedAt_39 : decode cX8_playedAt 39 = .ok (.aload_n 0, 1) := by decide +kernel
theorem dX8_playedAt_40 : decode cX8_playedAt 40 = .ok (.iload_n 1, 1) := by decide +kernel
theorem dX8_playedAt_41 : decode cX8_playedAt 41 = .ok (.iload_n 3, 1) := by decide +kernel
theorem dX8_playedAt_42 : decode cX8_playedAt 42 = .ok (.iconst 1, 1) := by decide +kernel
theorem dX8_playedAt_43 : decode cX8_playedAt 43 = .ok (.invokevirtual 74, 3) := by decide +kernel
theorem dX8_playedAt_46 : decode cX8_playedAt 46 = .ok (.iadd, 1) := by decide +kernel
theorem dX8_playedAt_47 : decode cX8_playedAt 47 = .ok (.iload 4, 2) := by decide +kernel
theorem dX8_playedAt_49 : decode cX8_playedAt 49 = .ok (.iadd, 1) := by decide +kernel
theorem dX8_playedAt_50 : decode cX8_playedAt 50 = .ok (.faload, 1) := by decide +kernel
theorem dX8_playedAt_51 : decode cX8_playedAt 51 = .ok (.fstore 5, 2) := by decide +kernel
theorem dX8_playedAt_53 : decode cX8_playedAt 53 = .ok (.fload 5, 2) := by decide +kernel
theorem dX8_playedAt_55 : decode cX8_playedAt 55 = .ok (.aload_n 0, 1) := by decide +kernel
theorem dX8_playedAt_56 : decode cX8_playedAt 56 = .ok (.iload_n 1, 1) := by decide +kernel
theorem dX8_playedAt_57 : decode cX8_playedAt 57 = .ok (.iload_n 3, 1) := by decide +kernel
theorem dX8_playedAt_58 : decode cX8_playedAt 58 = .ok (.iconst 4, 1) := by decide +kernel
theorem dX8_playedAt_59 : decode cX8_playedAt 59 = .ok (.invokevirtual 74, 3) := by decide +kernel
theorem dX8_playedAt_62 : decode cX8_playedAt 62 = .ok (.i2f, 1) := by decide +kernel
theorem dX8_playedAt_63 : decode cX8_playedAt 63 = .ok (.ldc 200, 2) := by decide +kernel
theorem dX8_playedAt_65 : decode cX8_playedAt 65 = .ok (.fdiv, 1) := by decide +kernel
theorem dX8_playedAt_66 : decode cX8_playedAt 66 = .ok (.fmul, 1) := by decide +kernel
theorem dX8_playedAt_67 : decode cX8_playedAt 67 = .ok (.fstore 5, 2) := by decide +kernel
theorem dX8_playedAt_69 : decode cX8_playedAt 69 = .ok (.iload 4, 2) := by decide +kernel
theorem dX8_playedAt_71 : decode cX8_playedAt 71 = .ok (.aload_n 0, 1) := by decide +kernel
theorem dX8_playedAt_72 : decode cX8_playedAt 72 = .ok (.iload_n 1, 1) := by decide +kernel
theorem dX8_playedAt_73 : decode cX8_playedAt 73 = .ok (.iload_n 3, 1) := by decide +kernel
theorem dX8_playedAt_74 : decode cX8_playedAt 74 = .ok (.iconst 5, 1) := by decide +kernel
theorem dX8_playedAt_75 : decode cX8_playedAt 75 = .ok (.invokevirtual 74, 3) := by decide +kernel
theorem dX8_playedAt_78 : decode cX8_playedAt 78 = .ok (.if_icmp .ge 24, 3) := by decide +kernel
theorem dX8_playedAt_81 : decode cX8_playedAt 81 = .ok (.fload 5, 2) := by decide +kernel
theorem dX8_playedAt_83 : decode cX8_playedAt 83 = .ok (.iload 4, 2) := by decide +kernel
theorem dX8_playedAt_85 : decode cX8_playedAt 85 = .ok (.iconst 1, 1) := by decide +kernel
theorem dX8_playedAt_86 : decode cX8_playedAt 86 = .ok (.iadd, 1) := by decide +kernel
theorem dX8_playedAt_87 : decode cX8_playedAt 87 = .ok (.i2f, 1) := by decide +kernel
theorem dX8_playedAt_88 : decode cX8_playedAt 88 = .ok (.aload_n 0, 1) := by decide +kernel
theorem dX8_playedAt_89 : decode cX8_playedAt 89 = .ok (.iload_n 1, 1) := by decide +kernel
theorem dX8_playedAt_90 : decode cX8_playedAt 90 = .ok (.iload_n 3, 1) := by decide +kernel
theorem dX8_playedAt_91 : decode cX8_playedAt 91 = .ok (.iconst 5, 1) := by decide +kernel
theorem dX8_playedAt_92 : decode cX8_playedAt 92 = .ok (.invokevirtual 74, 3) := by decide +kernel
theorem dX8_playedAt_95 : decode cX8_playedAt 95 = .ok (.iconst 1, 1) := by decide +kernel
theorem dX8_playedAt_96 : decode cX8_playedAt 96 = .ok (.iadd, 1) := by decide +kernel
theorem dX8_playedAt_97 : decode cX8_playedAt 97 = .ok (.i2f, 1) := by decide +kernel
theorem dX8_playedAt_98 : decode cX8_playedAt 98 = .ok (.fdiv, 1) := by decide +kernel
theorem dX8_playedAt_99 : decode cX8_playedAt 99 = .ok (.fmul, 1) := by decide +kernel
theorem dX8_playedAt_100 : decode cX8_playedAt 100 = .ok (.fstore 5, 2) := by decide +kernel
theorem dX8_playedAt_102 : decode cX8_playedAt 102 = .ok (.iload 4, 2) := by decide +kernel
theorem dX8_playedAt_104 : decode cX8_playedAt 104 = .ok (.aload_n 0, 1) := by decide +kernel
theorem dX8_playedAt_105 : decode cX8_playedAt 105 = .ok (.iload_n 1, 1) := by decide +kernel
theorem dX8_playedAt_106 : decode cX8_playedAt 106 = .ok (.iload_n 3, 1) := by decide +kernel
theorem dX8_playedAt_107 : decode cX8_playedAt 107 = .ok (.iconst 2, 1) := by decide +kernel
theorem dX8_playedAt_108 : decode cX8_playedAt 108 = .ok (.invokevirtual 74, 3) := by decide +kernel
theorem dX8_playedAt_111 : decode cX8_playedAt 111 = .ok (.aload_n 0, 1) := by decide +kernel
theorem dX8_playedAt_112 : decode cX8_playedAt 112 = .ok (.iload_n 1, 1) := by decide +kernel
theorem dX8_playedAt_113 : decode cX8_playedAt 113 = .ok (.iload_n 3, 1) := by decide +kernel
theorem dX8_playedAt_114 : decode cX8_playedAt 114 = .ok (.bipush 6, 2) := by decide +kernel
theorem dX8_playedAt_116 : decode cX8_playedAt 116 = .ok (.invokevirtual 74, 3) := by decide +kernel
theorem dX8_playedAt_119 : decode cX8_playedAt 119 = .ok (.isub, 1) := by decide +kernel
theorem dX8_playedAt_120 : decode cX8_playedAt 120 = .ok (.if_icmp .lt 31, 3) := by decide +kernel
theorem dX8_playedAt_123 : decode cX8_playedAt 123 = .ok (.fload 5, 2) := by decide +kernel
theorem dX8_playedAt_125 : decode cX8_playedAt 125 = .ok (.aload_n 0, 1) := by decide +kernel
theorem dX8_playedAt_126 : decode cX8_playedAt 126 = .ok (.iload_n 1, 1) := by decide +kernel
theorem dX8_playedAt_127 : decode cX8_playedAt 127 = .ok (.iload_n 3, 1) := by decide +kernel
theorem dX8_playedAt_128 : decode cX8_playedAt 128 = .ok (.iconst 2, 1) := by decide +kernel
theorem dX8_playedAt_129 : decode cX8_playedAt 129 = .ok (.invokevirtual 74, 3) := by decide +kernel
theorem dX8_playedAt_132 : decode cX8_playedAt 132 = .ok (.iload 4, 2) := by decide +kernel
theorem dX8_playedAt_134 : decode cX8_playedAt 134 = .ok (.isub, 1) := by decide +kernel
theorem dX8_playedAt_135 : decode cX8_playedAt 135 = .ok (.i2f, 1) := by decide +kernel
theorem dX8_playedAt_136 : decode cX8_playedAt 136 = .ok (.aload_n 0, 1) := by decide +kernel
theorem dX8_playedAt_137 : decode cX8_playedAt 137 = .ok (.iload_n 1, 1) := by decide +kernel
theorem dX8_playedAt_138 : decode cX8_playedAt 138 = .ok (.iload_n 3, 1) := by decide +kernel
theorem dX8_playedAt_139 : decode cX8_playedAt 139 = .ok (.bipush 6, 2) := by decide +kernel
theorem dX8_playedAt_141 : decode cX8_playedAt 141 = .ok (.invokevirtual 74, 3) := by decide +kernel
theorem dX8_playedAt_144 : decode cX8_playedAt 144 = .ok (.iconst 1, 1) := by decide +kernel
theorem dX8_playedAt_145 : decode cX8_playedAt 145 = .ok (.iadd, 1) := by decide +kernel
theorem dX8_playedAt_146 : decode cX8_playedAt 146 = .ok (.i2f, 1) := by decide +kernel
theorem dX8_playedAt_147 : decode cX8_playedAt 147 = .ok (.fdiv, 1) := by decide +kernel
theorem dX8_playedAt_148 : decode cX8_playedAt 148 = .ok (.fmul, 1) := by decide +kernel
theorem dX8_playedAt_149 : decode cX8_playedAt 149 = .ok (.fstore 5, 2) := by decide +kernel
theorem dX8_playedAt_151 : decode cX8_playedAt 151 = .ok (.fload 5, 2) := by decide +kernel
theorem dX8_playedAt_153 : decode cX8_playedAt 153 = .ok (.freturn, 1) := by decide +kernel
theorem dX8_heardAt_0 : decode cX8_heardAt 0 = .ok (.fconst 0, 1) := by decide +kernel
theorem dX8_heardAt_1 : decode cX8_heardAt 1 = .ok (.fstore_n 2, 1) := by decide +kernel
theorem dX8_heardAt_2 : decode cX8_heardAt 2 = .ok (.iconst 0, 1) := by decide +kernel
theorem dX8_heardAt_3 : decode cX8_heardAt 3 = .ok (.istore_n 3, 1) := by decide +kernel
theorem dX8_heardAt_4 : decode cX8_heardAt 4 = .ok (.iload_n 3, 1) := by decide +kernel
theorem dX8_heardAt_5 : decode cX8_heardAt 5 = .ok (.iconst 4, 1) := by decide +kernel
theorem dX8_heardAt_6 : decode cX8_heardAt 6 = .ok (.if_icmp .ge 57, 3) := by decide +kernel
theorem dX8_heardAt_9 : decode cX8_heardAt 9 = .ok (.iload_n 1, 1) := by decide +kernel
theorem dX8_heardAt_10 : decode cX8_heardAt 10 = .ok (.aload_n 0, 1) := by decide +kernel
theorem dX8_heardAt_11 : decode cX8_heardAt 11 = .ok (.getfield 17, 3) := by decide +kernel
theorem dX8_heardAt_14 : decode cX8_heardAt 14 = .ok (.bipush 86, 2) := by decide +kernel
theorem dX8_heardAt_16 : decode cX8_heardAt 16 = .ok (.iload_n 3, 1) := by decide +kernel
theorem dX8_heardAt_17 : decode cX8_heardAt 17 = .ok (.imul, 1) := by decide +kernel
theorem dX8_heardAt_18 : decode cX8_heardAt 18 = .ok (.bipush 85, 2) := by decide +kernel
theorem dX8_heardAt_20 : decode cX8_heardAt 20 = .ok (.iadd, 1) := by decide +kernel
theorem dX8_heardAt_21 : decode cX8_heardAt 21 = .ok (.iaload, 1) := by decide +kernel
theorem dX8_heardAt_22 : decode cX8_heardAt 22 = .ok (.isub, 1) := by decide +kernel
theorem dX8_heardAt_23 : decode cX8_heardAt 23 = .ok (.istore 4, 2) := by decide +kernel
theorem dX8_heardAt_25 : decode cX8_heardAt 25 = .ok (.aload_n 0, 1) := by decide +kernel
theorem dX8_heardAt_26 : decode cX8_heardAt 26 = .ok (.getfield 20, 3) := by decide +kernel
theorem dX8_heardAt_29 : decode cX8_heardAt 29 = .ok (.iload_n 3, 1) := by decide +kernel
theorem dX8_heardAt_30 : decode cX8_heardAt 30 = .ok (.iaload, 1) := by decide +kernel
theorem dX8_heardAt_31 : decode cX8_heardAt 31 = .ok (.ifCond .ne 26, 3) := by decide +kernel
theorem dX8_heardAt_34 : decode cX8_heardAt 34 = .ok (.iload 4, 2) := by decide +kernel
theorem dX8_heardAt_36 : decode cX8_heardAt 36 = .ok (.i2l, 1) := by decide +kernel
theorem dX8_heardAt_37 : decode cX8_heardAt 37 = .ok (.lconst 0, 1) := by decide +kernel
theorem dX8_heardAt_38 : decode cX8_heardAt 38 = .ok (.ldc2_w 201, 3) := by decide +kernel
theorem dX8_heardAt_41 : decode cX8_heardAt 41 = .ok (.invokestatic 62, 3) := by decide +kernel
theorem dX8_heardAt_44 : decode cX8_heardAt 44 = .ok (.ifCond .eq 13, 3) := by decide +kernel
theorem dX8_heardAt_47 : decode cX8_heardAt 47 = .ok (.fload_n 2, 1) := by decide +kernel
theorem dX8_heardAt_48 : decode cX8_heardAt 48 = .ok (.aload_n 0, 1) := by decide +kernel
theorem dX8_heardAt_49 : decode cX8_heardAt 49 = .ok (.iload_n 3, 1) := by decide +kernel
theorem dX8_heardAt_50 : decode cX8_heardAt 50 = .ok (.iload 4, 2) := by decide +kernel
theorem dX8_heardAt_52 : decode cX8_heardAt 52 = .ok (.invokevirtual 203, 3) := by decide +kernel
theorem dX8_heardAt_55 : decode cX8_heardAt 55 = .ok (.fadd, 1) := by decide +kernel
theorem dX8_heardAt_56 : decode cX8_heardAt 56 = .ok (.fstore_n 2, 1) := by decide +kernel
theorem dX8_heardAt_57 : decode cX8_heardAt 57 = .ok (.iinc 3 1, 3) := by decide +kernel
theorem dX8_heardAt_60 : decode cX8_heardAt 60 = .ok (.goto (-56), 3) := by decide +kernel
theorem dX8_heardAt_63 : decode cX8_heardAt 63 = .ok (.fload_n 2, 1) := by decide +kernel
theorem dX8_heardAt_64 : decode cX8_heardAt 64 = .ok (.freturn, 1) := by decide +kernel
theorem dX8_times_0 : decode cX8_times 0 = .ok (.iconst 0, 1) := by decide +kernel
theorem dX8_times_1 : decode cX8_times 1 = .ok (.istore_n 3, 1) := by decide +kernel
theorem dX8_times_2 : decode cX8_times 2 = .ok (.iconst 0, 1) := by decide +kernel
theorem dX8_times_3 : decode cX8_times 3 = .ok (.istore 4, 2) := by decide +kernel
theorem dX8_times_5 : decode cX8_times 5 = .ok (.iload 4, 2) := by decide +kernel
theorem dX8_times_7 : decode cX8_times 7 = .ok (.iconst 4, 1) := by decide +kernel
theorem dX8_times_8 : decode cX8_times 8 = .ok (.if_icmp .ge 89, 3) := by decide +kernel
theorem dX8_times_11 : decode cX8_times 11 = .ok (.iconst 0, 1) := by decide +kernel
theorem dX8_times_12 : decode cX8_times 12 = .ok (.istore 5, 2) := by decide +kernel
theorem dX8_times_14 : decode cX8_times 14 = .ok (.iload 5, 2) := by decide +kernel
theorem dX8_times_16 : decode cX8_times 16 = .ok (.sipush 128, 3) := by decide +kernel
theorem dX8_times_19 : decode cX8_times 19 = .ok (.if_icmp .ge 72, 3) := by decide +kernel
theorem dX8_times_22 : decode cX8_times 22 = .ok (.aload_n 0, 1) := by decide +kernel
theorem dX8_times_23 : decode cX8_times 23 = .ok (.iload 4, 2) := by decide +kernel
theorem dX8_times_25 : decode cX8_times 25 = .ok (.iload 5, 2) := by decide +kernel
theorem dX8_times_27 : decode cX8_times 27 = .ok (.invokevirtual 197, 3) := by decide +kernel
theorem dX8_times_30 : decode cX8_times 30 = .ok (.istore 6, 2) := by decide +kernel
theorem dX8_times_32 : decode cX8_times 32 = .ok (.iload_n 3, 1) := by decide +kernel
theorem dX8_times_33 : decode cX8_times 33 = .ok (.iload 6, 2) := by decide +kernel
theorem dX8_times_35 : decode cX8_times 35 = .ok (.iconst (-1), 1) := by decide +kernel
theorem dX8_times_36 : decode cX8_times 36 = .ok (.if_icmp .eq 46, 3) := by decide +kernel
theorem dX8_times_39 : decode cX8_times 39 = .ok (.aload_n 0, 1) := by decide +kernel
theorem dX8_times_40 : decode cX8_times 40 = .ok (.iload 4, 2) := by decide +kernel
theorem dX8_times_42 : decode cX8_times 42 = .ok (.iload 6, 2) := by decide +kernel
theorem dX8_times_44 : decode cX8_times 44 = .ok (.iconst 0, 1) := by decide +kernel
theorem dX8_times_45 : decode cX8_times 45 = .ok (.invokevirtual 74, 3) := by decide +kernel
theorem dX8_times_48 : decode cX8_times 48 = .ok (.iload_n 1, 1) := by decide +kernel
theorem dX8_times_49 : decode cX8_times 49 = .ok (.if_icmp .ne 33, 3) := by decide +kernel
theorem dX8_times_52 : decode cX8_times 52 = .ok (.aload_n 0, 1) := by decide +kernel
theorem dX8_times_53 : decode cX8_times 53 = .ok (.iload 4, 2) := by decide +kernel
theorem dX8_times_55 : decode cX8_times 55 = .ok (.iload 6, 2) := by decide +kernel
theorem dX8_times_57 : decode cX8_times 57 = .ok (.iconst 1, 1) := by decide +kernel
theorem dX8_times_58 : decode cX8_times 58 = .ok (.invokevirtual 74, 3) := by decide +kernel
theorem dX8_times_61 : decode cX8_times 61 = .ok (.iload 5, 2) := by decide +kernel
theorem dX8_times_63 : decode cX8_times 63 = .ok (.iadd, 1) := by decide +kernel
theorem dX8_times_64 : decode cX8_times 64 = .ok (.aload_n 0, 1) := by decide +kernel
theorem dX8_times_65 : decode cX8_times 65 = .ok (.iload 4, 2) := by decide +kernel
theorem dX8_times_67 : decode cX8_times 67 = .ok (.iload 6, 2) := by decide +kernel
theorem dX8_times_69 : decode cX8_times 69 = .ok (.iconst 3, 1) := by decide +kernel
theorem dX8_times_70 : decode cX8_times 70 = .ok (.invokevirtual 74, 3) := by decide +kernel
theorem dX8_times_73 : decode cX8_times 73 = .ok (.isub, 1) := by decide +kernel
theorem dX8_times_74 : decode cX8_times 74 = .ok (.iload_n 2, 1) := by decide +kernel
theorem dX8_times_75 : decode cX8_times 75 = .ok (.if_icmp .ne 7, 3) := by decide +kernel
theorem dX8_times_78 : decode cX8_times 78 = .ok (.iconst 1, 1) := by decide +kernel
theorem dX8_times_79 : decode cX8_times 79 = .ok (.goto 4, 3) := by decide +kernel
theorem dX8_times_82 : decode cX8_times 82 = .ok (.iconst 0, 1) := by decide +kernel
theorem dX8_times_83 : decode cX8_times 83 = .ok (.iadd, 1) := by decide +kernel
theorem dX8_times_84 : decode cX8_times 84 = .ok (.istore_n 3, 1) := by decide +kernel
theorem dX8_times_85 : decode cX8_times 85 = .ok (.iinc 5 1, 3) := by decide +kernel
theorem dX8_times_88 : decode cX8_times 88 = .ok (.goto (-74), 3) := by decide +kernel
theorem dX8_times_91 : decode cX8_times 91 = .ok (.iinc 4 1, 3) := by decide +kernel
theorem dX8_times_94 : decode cX8_times 94 = .ok (.goto (-89), 3) := by decide +kernel
theorem dX8_times_97 : decode cX8_times 97 = .ok (.iload_n 3, 1) := by decide +kernel
theorem dX8_times_98 : decode cX8_times 98 = .ok (.ireturn, 1) := by decide +kernel
theorem dX8_sound_0 : decode cX8_sound 0 = .ok (.iload_n 1, 1) := by decide +kernel
theorem dX8_sound_1 : decode cX8_sound 1 = .ok (.i2l, 1) := by decide +kernel
theorem dX8_sound_2 : decode cX8_sound 2 = .ok (.lconst 0, 1) := by decide +kernel
theorem dX8_sound_3 : decode cX8_sound 3 = .ok (.aload_n 0, 1) := by decide +kernel
theorem dX8_sound_4 : decode cX8_sound 4 = .ok (.getfield 159, 3) := by decide +kernel
theorem dX8_sound_7 : decode cX8_sound 7 = .ok (.iconst 1, 1) := by decide +kernel
theorem dX8_sound_8 : decode cX8_sound 8 = .ok (.isub, 1) := by decide +kernel
theorem dX8_sound_9 : decode cX8_sound 9 = .ok (.i2l, 1) := by decide +kernel
theorem dX8_sound_10 : decode cX8_sound 10 = .ok (.invokestatic 62, 3) := by decide +kernel
theorem dX8_sound_13 : decode cX8_sound 13 = .ok (.ifCond .ne 6, 3) := by decide +kernel
theorem dX8_sound_16 : decode cX8_sound 16 = .ok (.ldc 207, 2) := by decide +kernel
theorem dX8_sound_18 : decode cX8_sound 18 = .ok (.ireturn, 1) := by decide +kernel
theorem dX8_sound_19 : decode cX8_sound 19 = .ok (.iload_n 2, 1) := by decide +kernel
theorem dX8_sound_20 : decode cX8_sound 20 = .ok (.i2l, 1) := by decide +kernel
theorem dX8_sound_21 : decode cX8_sound 21 = .ok (.lconst 0, 1) := by decide +kernel
theorem dX8_sound_22 : decode cX8_sound 22 = .ok (.ldc2_w 60, 3) := by decide +kernel
theorem dX8_sound_25 : decode cX8_sound 25 = .ok (.invokestatic 62, 3) := by decide +kernel
theorem dX8_sound_28 : decode cX8_sound 28 = .ok (.ifCond .eq 25, 3) := by decide +kernel
theorem dX8_sound_31 : decode cX8_sound 31 = .ok (.iload_n 2, 1) := by decide +kernel
theorem dX8_sound_32 : decode cX8_sound 32 = .ok (.ifCond .le 24, 3) := by decide +kernel
theorem dX8_sound_35 : decode cX8_sound 35 = .ok (.iload_n 3, 1) := by decide +kernel
theorem dX8_sound_36 : decode cX8_sound 36 = .ok (.i2l, 1) := by decide +kernel
theorem dX8_sound_37 : decode cX8_sound 37 = .ok (.lconst 0, 1) := by decide +kernel
theorem dX8_sound_38 : decode cX8_sound 38 = .ok (.aload_n 0, 1) := by decide +kernel
theorem dX8_sound_39 : decode cX8_sound 39 = .ok (.getfield 13, 3) := by decide +kernel
theorem dX8_sound_42 : decode cX8_sound 42 = .ok (.iload_n 1, 1) := by decide +kernel
theorem dX8_sound_43 : decode cX8_sound 43 = .ok (.iaload, 1) := by decide +kernel
theorem dX8_sound_44 : decode cX8_sound 44 = .ok (.iconst 1, 1) := by decide +kernel
theorem dX8_sound_45 : decode cX8_sound 45 = .ok (.isub, 1) := by decide +kernel
theorem dX8_sound_46 : decode cX8_sound 46 = .ok (.i2l, 1) := by decide +kernel
theorem dX8_sound_47 : decode cX8_sound 47 = .ok (.invokestatic 62, 3) := by decide +kernel
theorem dX8_sound_50 : decode cX8_sound 50 = .ok (.ifCond .ne 6, 3) := by decide +kernel
theorem dX8_sound_53 : decode cX8_sound 53 = .ok (.ldc 190, 2) := by decide +kernel
theorem dX8_sound_55 : decode cX8_sound 55 = .ok (.ireturn, 1) := by decide +kernel
theorem dX8_sound_56 : decode cX8_sound 56 = .ok (.iload_n 2, 1) := by decide +kernel
theorem dX8_sound_57 : decode cX8_sound 57 = .ok (.ifCond .ne 10, 3) := by decide +kernel
theorem dX8_sound_60 : decode cX8_sound 60 = .ok (.aload_n 0, 1) := by decide +kernel
theorem dX8_sound_61 : decode cX8_sound 61 = .ok (.getfield 13, 3) := by decide +kernel
theorem dX8_sound_64 : decode cX8_sound 64 = .ok (.iload_n 1, 1) := by decide +kernel
theorem dX8_sound_65 : decode cX8_sound 65 = .ok (.iaload, 1) := by decide +kernel
theorem dX8_sound_66 : decode cX8_sound 66 = .ok (.ireturn, 1) := by decide +kernel
theorem dX8_sound_67 : decode cX8_sound 67 = .ok (.aload_n 0, 1) := by decide +kernel
theorem dX8_sound_68 : decode cX8_sound 68 = .ok (.getfield 7, 3) := by decide +kernel
theorem dX8_sound_71 : decode cX8_sound 71 = .ok (.bipush 64, 2) := by decide +kernel
theorem dX8_sound_73 : decode cX8_sound 73 = .ok (.iload_n 1, 1) := by decide +kernel
theorem dX8_sound_74 : decode cX8_sound 74 = .ok (.imul, 1) := by decide +kernel
theorem dX8_sound_75 : decode cX8_sound 75 = .ok (.iload_n 3, 1) := by decide +kernel
theorem dX8_sound_76 : decode cX8_sound 76 = .ok (.iadd, 1) := by decide +kernel
theorem dX8_sound_77 : decode cX8_sound 77 = .ok (.faload, 1) := by decide +kernel
theorem dX8_sound_78 : decode cX8_sound 78 = .ok (.fstore 4, 2) := by decide +kernel
theorem dX8_sound_80 : decode cX8_sound 80 = .ok (.iload_n 2, 1) := by decide +kernel
theorem dX8_sound_81 : decode cX8_sound 81 = .ok (.iconst 1, 1) := by decide +kernel
theorem dX8_sound_82 : decode cX8_sound 82 = .ok (.if_icmp .ne 12, 3) := by decide +kernel
theorem dX8_sound_85 : decode cX8_sound 85 = .ok (.fload 4, 2) := by decide +kernel
theorem dX8_sound_87 : decode cX8_sound 87 = .ok (.ldc 208, 2) := by decide +kernel
theorem dX8_sound_89 : decode cX8_sound 89 = .ok (.fmul, 1) := by decide +kernel
theorem dX8_sound_90 : decode cX8_sound 90 = .ok (.f2i, 1) := by decide +kernel
theorem dX8_sound_91 : decode cX8_sound 91 = .ok (.goto 22, 3) := by decide +kernel
theorem dX8_sound_94 : decode cX8_sound 94 = .ok (.iload_n 2, 1) := by decide +kernel
theorem dX8_sound_95 : decode cX8_sound 95 = .ok (.iconst 2, 1) := by decide +kernel
theorem dX8_sound_96 : decode cX8_sound 96 = .ok (.if_icmp .ne 11, 3) := by decide +kernel
theorem dX8_sound_99 : decode cX8_sound 99 = .ok (.fload 4, 2) := by decide +kernel
theorem dX8_sound_101 : decode cX8_sound 101 = .ok (.invokestatic 209, 3) := by decide +kernel
theorem dX8_sound_104 : decode cX8_sound 104 = .ok (.goto 9, 3) := by decide +kernel
theorem dX8_sound_107 : decode cX8_sound 107 = .ok (.aload_n 0, 1) := by decide +kernel
theorem dX8_sound_108 : decode cX8_sound 108 = .ok (.iload_n 1, 1) := by decide +kernel
theorem dX8_sound_109 : decode cX8_sound 109 = .ok (.iload_n 3, 1) := by decide +kernel
theorem dX8_sound_110 : decode cX8_sound 110 = .ok (.invokevirtual 215, 3) := by decide +kernel
theorem dX8_sound_113 : decode cX8_sound 113 = .ok (.ireturn, 1) := by decide +kernel
theorem dX8_span_0 : decode cX8_span 0 = .ok (.aload_n 0, 1) := by decide +kernel
theorem dX8_span_1 : decode cX8_span 1 = .ok (.iload_n 1, 1) := by decide +kernel
theorem dX8_span_2 : decode cX8_span 2 = .ok (.iload_n 2, 1) := by decide +kernel
theorem dX8_span_3 : decode cX8_span 3 = .ok (.invokevirtual 156, 3) := by decide +kernel
theorem dX8_span_6 : decode cX8_span 6 = .ok (.ifCond .ne 6, 3) := by decide +kernel
theorem dX8_span_9 : decode cX8_span 9 = .ok (.ldc 207, 2) := by decide +kernel
theorem dX8_span_11 : decode cX8_span 11 = .ok (.ireturn, 1) := by decide +kernel
theorem dX8_span_12 : decode cX8_span 12 = .ok (.iload_n 3, 1) := by decide +kernel
theorem dX8_span_13 : decode cX8_span 13 = .ok (.i2l, 1) := by decide +kernel
theorem dX8_span_14 : decode cX8_span 14 = .ok (.lconst 0, 1) := by decide +kernel
theorem dX8_span_15 : decode cX8_span 15 = .ok (.ldc2_w 218, 3) := by decide +kernel
theorem dX8_span_18 : decode cX8_span 18 = .ok (.invokestatic 62, 3) := by decide +kernel
theorem dX8_span_21 : decode cX8_span 21 = .ok (.ifCond .eq 13, 3) := by decide +kernel
theorem dX8_span_24 : decode cX8_span 24 = .ok (.aload_n 0, 1) := by decide +kernel
theorem dX8_span_25 : decode cX8_span 25 = .ok (.iload_n 1, 1) := by decide +kernel
theorem dX8_span_26 : decode cX8_span 26 = .ok (.iload_n 2, 1) := by decide +kernel
theorem dX8_span_27 : decode cX8_span 27 = .ok (.iload_n 3, 1) := by decide +kernel
theorem dX8_span_28 : decode cX8_span 28 = .ok (.invokevirtual 74, 3) := by decide +kernel
theorem dX8_span_31 : decode cX8_span 31 = .ok (.goto 5, 3) := by decide +kernel
theorem dX8_span_34 : decode cX8_span 34 = .ok (.ldc 190, 2) := by decide +kernel
theorem dX8_span_36 : decode cX8_span 36 = .ok (.ireturn, 1) := by decide +kernel
theorem dX8_tone_0 : decode cX8_tone 0 = .ok (.iload_n 1, 1) := by decide +kernel
theorem dX8_tone_1 : decode cX8_tone 1 = .ok (.i2l, 1) := by decide +kernel
theorem dX8_tone_2 : decode cX8_tone 2 = .ok (.lconst 0, 1) := by decide +kernel
theorem dX8_tone_3 : decode cX8_tone 3 = .ok (.ldc2_w 220, 3) := by decide +kernel
theorem dX8_tone_6 : decode cX8_tone 6 = .ok (.invokestatic 62, 3) := by decide +kernel
theorem dX8_tone_9 : decode cX8_tone 9 = .ok (.ifCond .eq 27, 3) := by decide +kernel
theorem dX8_tone_12 : decode cX8_tone 12 = .ok (.iload_n 2, 1) := by decide +kernel
theorem dX8_tone_13 : decode cX8_tone 13 = .ok (.i2l, 1) := by decide +kernel
theorem dX8_tone_14 : decode cX8_tone 14 = .ok (.lconst 0, 1) := by decide +kernel
theorem dX8_tone_15 : decode cX8_tone 15 = .ok (.ldc2_w 220, 3) := by decide +kernel
theorem dX8_tone_18 : decode cX8_tone 18 = .ok (.invokestatic 62, 3) := by decide +kernel
theorem dX8_tone_21 : decode cX8_tone 21 = .ok (.ifCond .eq 15, 3) := by decide +kernel
theorem dX8_tone_24 : decode cX8_tone 24 = .ok (.iload_n 3, 1) := by decide +kernel
theorem dX8_tone_25 : decode cX8_tone 25 = .ok (.i2l, 1) := by decide +kernel
theorem dX8_tone_26 : decode cX8_tone 26 = .ok (.lconst 1, 1) := by decide +kernel
theorem dX8_tone_27 : decode cX8_tone 27 = .ok (.ldc2_w 222, 3) := by decide +kernel
theorem dX8_tone_30 : decode cX8_tone 30 = .ok (.invokestatic 62, 3) := by decide +kernel
theorem dX8_tone_33 : decode cX8_tone 33 = .ok (.ifCond .ne 6, 3) := by decide +kernel
theorem dX8_tone_36 : decode cX8_tone 36 = .ok (.ldc 190, 2) := by decide +kernel
theorem dX8_tone_38 : decode cX8_tone 38 = .ok (.ireturn, 1) := by decide +kernel
theorem dX8_tone_39 : decode cX8_tone 39 = .ok (.aload_n 0, 1) := by decide +kernel
theorem dX8_tone_40 : decode cX8_tone 40 = .ok (.getfield 159, 3) := by decide +kernel
theorem dX8_tone_43 : decode cX8_tone 43 = .ok (.bipush 6, 2) := by decide +kernel
theorem dX8_tone_45 : decode cX8_tone 45 = .ok (.if_icmp .ne 6, 3) := by decide +kernel
theorem dX8_tone_48 : decode cX8_tone 48 = .ok (.ldc 191, 2) := by decide +kernel
theorem dX8_tone_50 : decode cX8_tone 50 = .ok (.ireturn, 1) := by decide +kernel
theorem dX8_tone_51 : decode cX8_tone 51 = .ok (.aload_n 0, 1) := by decide +kernel
theorem dX8_tone_52 : decode cX8_tone 52 = .ok (.iload_n 1, 1) := by decide +kernel
theorem dX8_tone_53 : decode cX8_tone 53 = .ok (.iload_n 2, 1) := by decide +kernel
theorem dX8_tone_54 : decode cX8_tone 54 = .ok (.iload_n 3, 1) := by decide +kernel
theorem dX8_tone_55 : decode cX8_tone 55 = .ok (.invokevirtual 136, 3) := by decide +kernel
theorem dX8_tone_58 : decode cX8_tone 58 = .ok (.aload_n 0, 1) := by decide +kernel
theorem dX8_tone_59 : decode cX8_tone 59 = .ok (.getfield 159, 3) := by decide +kernel
theorem dX8_tone_62 : decode cX8_tone 62 = .ok (.iconst 1, 1) := by decide +kernel
theorem dX8_tone_63 : decode cX8_tone 63 = .ok (.isub, 1) := by decide +kernel
theorem dX8_tone_64 : decode cX8_tone 64 = .ok (.ireturn, 1) := by decide +kernel
theorem dX8_put_0 : decode cX8_put 0 = .ok (.iload_n 1, 1) := by decide +kernel
theorem dX8_put_1 : decode cX8_put 1 = .ok (.invokestatic 66, 3) := by decide +kernel
theorem dX8_put_4 : decode cX8_put 4 = .ok (.ifCond .eq 19, 3) := by decide +kernel
theorem dX8_put_7 : decode cX8_put 7 = .ok (.iload_n 2, 1) := by decide +kernel
theorem dX8_put_8 : decode cX8_put 8 = .ok (.i2l, 1) := by decide +kernel
theorem dX8_put_9 : decode cX8_put 9 = .ok (.lconst 0, 1) := by decide +kernel
theorem dX8_put_10 : decode cX8_put 10 = .ok (.aload_n 0, 1) := by decide +kernel
theorem dX8_put_11 : decode cX8_put 11 = .ok (.getfield 159, 3) := by decide +kernel
theorem dX8_put_14 : decode cX8_put 14 = .ok (.iconst 1, 1) := by decide +kernel
theorem dX8_put_15 : decode cX8_put 15 = .ok (.isub, 1) := by decide +kernel
theorem dX8_put_16 : decode cX8_put 16 = .ok (.i2l, 1) := by decide +kernel
theorem dX8_put_17 : decode cX8_put 17 = .ok (.invokestatic 62, 3) := by decide +kernel
theorem dX8_put_20 : decode cX8_put 20 = .ok (.ifCond .ne 6, 3) := by decide +kernel
theorem dX8_put_23 : decode cX8_put 23 = .ok (.ldc 207, 2) := by decide +kernel
theorem dX8_put_25 : decode cX8_put 25 = .ok (.ireturn, 1) := by decide +kernel
theorem dX8_put_26 : decode cX8_put 26 = .ok (.iload_n 3, 1) := by decide +kernel
theorem dX8_put_27 : decode cX8_put 27 = .ok (.i2l, 1) := by decide +kernel
theorem dX8_put_28 : decode cX8_put 28 = .ok (.lconst 0, 1) := by decide +kernel
theorem dX8_put_29 : decode cX8_put 29 = .ok (.aload_n 0, 1) := by decide +kernel
theorem dX8_put_30 : decode cX8_put 30 = .ok (.getfield 13, 3) := by decide +kernel
theorem dX8_put_33 : decode cX8_put 33 = .ok (.iload_n 2, 1) := by decide +kernel
theorem dX8_put_34 : decode cX8_put 34 = .ok (.iaload, 1) := by decide +kernel
theorem dX8_put_35 : decode cX8_put 35 = .ok (.iconst 1, 1) := by decide +kernel
theorem dX8_put_36 : decode cX8_put 36 = .ok (.isub, 1) := by decide +kernel
theorem dX8_put_37 : decode cX8_put 37 = .ok (.i2l, 1) := by decide +kernel
theorem dX8_put_38 : decode cX8_put 38 = .ok (.invokestatic 62, 3) := by decide +kernel
theorem dX8_put_41 : decode cX8_put 41 = .ok (.ifCond .eq 39, 3) := by decide +kernel
theorem dX8_put_44 : decode cX8_put 44 = .ok (.iload 4, 2) := by decide +kernel
theorem dX8_put_46 : decode cX8_put 46 = .ok (.i2l, 1) := by decide +kernel
theorem dX8_put_47 : decode cX8_put 47 = .ok (.lconst 1, 1) := by decide +kernel
theorem dX8_put_48 : decode cX8_put 48 = .ok (.aload_n 0, 1) := by decide +kernel
theorem dX8_put_49 : decode cX8_put 49 = .ok (.getfield 13, 3) := by decide +kernel
theorem dX8_put_52 : decode cX8_put 52 = .ok (.iload_n 2, 1) := by decide +kernel
theorem dX8_put_53 : decode cX8_put 53 = .ok (.iaload, 1) := by decide +kernel
theorem dX8_put_54 : decode cX8_put 54 = .ok (.iload_n 3, 1) := by decide +kernel
theorem dX8_put_55 : decode cX8_put 55 = .ok (.isub, 1) := by decide +kernel
theorem dX8_put_56 : decode cX8_put 56 = .ok (.i2l, 1) := by decide +kernel
theorem dX8_put_57 : decode cX8_put 57 = .ok (.invokestatic 62, 3) := by decide +kernel
theorem dX8_put_60 : decode cX8_put 60 = .ok (.ifCond .eq 20, 3) := by decide +kernel
theorem dX8_put_63 : decode cX8_put 63 = .ok (.iload 5, 2) := by decide +kernel
theorem dX8_put_65 : decode cX8_put 65 = .ok (.i2l, 1) := by decide +kernel
theorem dX8_put_66 : decode cX8_put 66 = .ok (.lconst 0, 1) := by decide +kernel
theorem dX8_put_67 : decode cX8_put 67 = .ok (.sipush 128, 3) := by decide +kernel
theorem dX8_put_70 : decode cX8_put 70 = .ok (.iload 4, 2) := by decide +kernel
theorem dX8_put_72 : decode cX8_put 72 = .ok (.isub, 1) := by decide +kernel
theorem dX8_put_73 : decode cX8_put 73 = .ok (.i2l, 1) := by decide +kernel
theorem dX8_put_74 : decode cX8_put 74 = .ok (.invokestatic 62, 3) := by decide +kernel
theorem dX8_put_77 : decode cX8_put 77 = .ok (.ifCond .ne 6, 3) := by decide +kernel
theorem dX8_put_80 : decode cX8_put 80 = .ok (.ldc 190, 2) := by decide +kernel
theorem dX8_put_82 : decode cX8_put 82 = .ok (.ireturn, 1) := by decide +kernel
theorem dX8_put_83 : decode cX8_put 83 = .ok (.aload_n 0, 1) := by decide +kernel
theorem dX8_put_84 : decode cX8_put 84 = .ok (.iload_n 1, 1) := by decide +kernel
theorem dX8_put_85 : decode cX8_put 85 = .ok (.invokevirtual 139, 3) := by decide +kernel
theorem dX8_put_88 : decode cX8_put 88 = .ok (.aload_n 0, 1) := by decide +kernel
theorem dX8_put_89 : decode cX8_put 89 = .ok (.iload_n 2, 1) := by decide +kernel
theorem dX8_put_90 : decode cX8_put 90 = .ok (.iload_n 3, 1) := by decide +kernel
theorem dX8_put_91 : decode cX8_put 91 = .ok (.iload 4, 2) := by decide +kernel
theorem dX8_put_93 : decode cX8_put 93 = .ok (.iload 5, 2) := by decide +kernel
theorem dX8_put_95 : decode cX8_put 95 = .ok (.invokevirtual 143, 3) := by decide +kernel
theorem dX8_put_98 : decode cX8_put 98 = .ok (.aload_n 0, 1) := by decide +kernel
theorem dX8_put_99 : decode cX8_put 99 = .ok (.bipush 8, 2) := by decide +kernel
theorem dX8_put_101 : decode cX8_put 101 = .ok (.iconst 0, 1) := by decide +kernel
theorem dX8_put_102 : decode cX8_put 102 = .ok (.iconst 0, 1) := by decide +kernel
theorem dX8_put_103 : decode cX8_put 103 = .ok (.invokevirtual 146, 3) := by decide +kernel
theorem dX8_put_106 : decode cX8_put 106 = .ok (.aload_n 0, 1) := by decide +kernel
theorem dX8_put_107 : decode cX8_put 107 = .ok (.iconst (-1), 1) := by decide +kernel
theorem dX8_put_108 : decode cX8_put 108 = .ok (.invokevirtual 149, 3) := by decide +kernel
theorem dX8_put_111 : decode cX8_put 111 = .ok (.bipush 12, 2) := by decide +kernel
theorem dX8_put_113 : decode cX8_put 113 = .ok (.if_icmp .le 6, 3) := by decide +kernel
theorem dX8_put_116 : decode cX8_put 116 = .ok (.ldc 196, 2) := by decide +kernel
theorem dX8_put_118 : decode cX8_put 118 = .ok (.ireturn, 1) := by decide +kernel
theorem dX8_put_119 : decode cX8_put 119 = .ok (.aload_n 0, 1) := by decide +kernel
theorem dX8_put_120 : decode cX8_put 120 = .ok (.iload_n 1, 1) := by decide +kernel
theorem dX8_put_121 : decode cX8_put 121 = .ok (.invokevirtual 224, 3) := by decide +kernel
theorem dX8_put_124 : decode cX8_put 124 = .ok (.aload_n 0, 1) := by decide +kernel
theorem dX8_put_125 : decode cX8_put 125 = .ok (.iload_n 1, 1) := by decide +kernel
theorem dX8_put_126 : decode cX8_put 126 = .ok (.iconst (-1), 1) := by decide +kernel
theorem dX8_put_127 : decode cX8_put 127 = .ok (.invokevirtual 152, 3) := by decide +kernel
theorem dX8_put_130 : decode cX8_put 130 = .ok (.aload_n 0, 1) := by decide +kernel
theorem dX8_put_131 : decode cX8_put 131 = .ok (.iload_n 1, 1) := by decide +kernel
theorem dX8_put_132 : decode cX8_put 132 = .ok (.invokevirtual 70, 3) := by decide +kernel
theorem dX8_put_135 : decode cX8_put 135 = .ok (.ireturn, 1) := by decide +kernel
theorem dX8_fade_0 : decode cX8_fade 0 = .ok (.aload_n 0, 1) := by decide +kernel
theorem dX8_fade_1 : decode cX8_fade 1 = .ok (.iload_n 1, 1) := by decide +kernel
theorem dX8_fade_2 : decode cX8_fade 2 = .ok (.iload_n 2, 1) := by decide +kernel
theorem dX8_fade_3 : decode cX8_fade 3 = .ok (.invokevirtual 156, 3) := by decide +kernel
theorem dX8_fade_6 : decode cX8_fade 6 = .ok (.ifCond .ne 6, 3) := by decide +kernel
theorem dX8_fade_9 : decode cX8_fade 9 = .ok (.ldc 207, 2) := by decide +kernel
theorem dX8_fade_11 : decode cX8_fade 11 = .ok (.ireturn, 1) := by decide +kernel
theorem dX8_fade_12 : decode cX8_fade 12 = .ok (.iload_n 3, 1) := by decide +kernel
theorem dX8_fade_13 : decode cX8_fade 13 = .ok (.ifCond .lt 26, 3) := by decide +kernel
theorem dX8_fade_16 : decode cX8_fade 16 = .ok (.iload 4, 2) := by decide +kernel
theorem dX8_fade_18 : decode cX8_fade 18 = .ok (.ifCond .lt 21, 3) := by decide +kernel
theorem dX8_fade_21 : decode cX8_fade 21 = .ok (.iload_n 3, 1) := by decide +kernel
theorem dX8_fade_22 : decode cX8_fade 22 = .ok (.i2l, 1) := by decide +kernel
theorem dX8_fade_23 : decode cX8_fade 23 = .ok (.iload 4, 2) := by decide +kernel
theorem dX8_fade_25 : decode cX8_fade 25 = .ok (.i2l, 1) := by decide +kernel
theorem dX8_fade_26 : decode cX8_fade 26 = .ok (.ladd, 1) := by decide +kernel
theorem dX8_fade_27 : decode cX8_fade 27 = .ok (.aload_n 0, 1) := by decide +kernel
theorem dX8_fade_28 : decode cX8_fade 28 = .ok (.iload_n 1, 1) := by decide +kernel
theorem dX8_fade_29 : decode cX8_fade 29 = .ok (.iload_n 2, 1) := by decide +kernel
theorem dX8_fade_30 : decode cX8_fade 30 = .ok (.iconst 2, 1) := by decide +kernel
theorem dX8_fade_31 : decode cX8_fade 31 = .ok (.invokevirtual 74, 3) := by decide +kernel
theorem dX8_fade_34 : decode cX8_fade 34 = .ok (.i2l, 1) := by decide +kernel
theorem dX8_fade_35 : decode cX8_fade 35 = .ok (.lcmp, 1) := by decide +kernel
theorem dX8_fade_36 : decode cX8_fade 36 = .ok (.ifCond .le 6, 3) := by decide +kernel
theorem dX8_fade_39 : decode cX8_fade 39 = .ok (.ldc 190, 2) := by decide +kernel
theorem dX8_fade_41 : decode cX8_fade 41 = .ok (.ireturn, 1) := by decide +kernel
theorem dX8_fade_42 : decode cX8_fade 42 = .ok (.aload_n 0, 1) := by decide +kernel
theorem dX8_fade_43 : decode cX8_fade 43 = .ok (.iload_n 1, 1) := by decide +kernel
theorem dX8_fade_44 : decode cX8_fade 44 = .ok (.invokevirtual 224, 3) := by decide +kernel
theorem dX8_fade_47 : decode cX8_fade 47 = .ok (.aload_n 0, 1) := by decide +kernel
theorem dX8_fade_48 : decode cX8_fade 48 = .ok (.iload_n 1, 1) := by decide +kernel
theorem dX8_fade_49 : decode cX8_fade 49 = .ok (.iload_n 2, 1) := by decide +kernel
theorem dX8_fade_50 : decode cX8_fade 50 = .ok (.iconst 5, 1) := by decide +kernel
theorem dX8_fade_51 : decode cX8_fade 51 = .ok (.invokevirtual 74, 3) := by decide +kernel
theorem dX8_fade_54 : decode cX8_fade 54 = .ok (.istore 5, 2) := by decide +kernel
theorem dX8_fade_56 : decode cX8_fade 56 = .ok (.aload_n 0, 1) := by decide +kernel
theorem dX8_fade_57 : decode cX8_fade 57 = .ok (.iload_n 1, 1) := by decide +kernel
theorem dX8_fade_58 : decode cX8_fade 58 = .ok (.iload_n 2, 1) := by decide +kernel
theorem dX8_fade_59 : decode cX8_fade 59 = .ok (.iconst 5, 1) := by decide +kernel
theorem dX8_fade_60 : decode cX8_fade 60 = .ok (.iload_n 3, 1) := by decide +kernel
theorem dX8_fade_61 : decode cX8_fade 61 = .ok (.invokevirtual 82, 3) := by decide +kernel
theorem dX8_fade_64 : decode cX8_fade 64 = .ok (.aload_n 0, 1) := by decide +kernel
theorem dX8_fade_65 : decode cX8_fade 65 = .ok (.iload_n 1, 1) := by decide +kernel
theorem dX8_fade_66 : decode cX8_fade 66 = .ok (.iload_n 2, 1) := by decide +kernel
theorem dX8_fade_67 : decode cX8_fade 67 = .ok (.bipush 6, 2) := by decide +kernel
theorem dX8_fade_69 : decode cX8_fade 69 = .ok (.iload 4, 2) := by decide +kernel
theorem dX8_fade_71 : decode cX8_fade 71 = .ok (.invokevirtual 82, 3) := by decide +kernel
theorem dX8_fade_74 : decode cX8_fade 74 = .ok (.iload 5, 2) := by decide +kernel
theorem dX8_fade_76 : decode cX8_fade 76 = .ok (.ireturn, 1) := by decide +kernel
theorem dX8_gain_0 : decode cX8_gain 0 = .ok (.aload_n 0, 1) := by decide +kernel
theorem dX8_gain_1 : decode cX8_gain 1 = .ok (.iload_n 1, 1) := by decide +kernel
theorem dX8_gain_2 : decode cX8_gain 2 = .ok (.iload_n 2, 1) := by decide +kernel
theorem dX8_gain_3 : decode cX8_gain 3 = .ok (.invokevirtual 156, 3) := by decide +kernel
theorem dX8_gain_6 : decode cX8_gain 6 = .ok (.ifCond .ne 6, 3) := by decide +kernel
theorem dX8_gain_9 : decode cX8_gain 9 = .ok (.ldc 207, 2) := by decide +kernel
theorem dX8_gain_11 : decode cX8_gain 11 = .ok (.ireturn, 1) := by decide +kernel
theorem dX8_gain_12 : decode cX8_gain 12 = .ok (.iload_n 3, 1) := by decide +kernel
theorem dX8_gain_13 : decode cX8_gain 13 = .ok (.i2l, 1) := by decide +kernel
theorem dX8_gain_14 : decode cX8_gain 14 = .ok (.lconst 0, 1) := by decide +kernel
theorem dX8_gain_15 : decode cX8_gain 15 = .ok (.ldc2_w 227, 3) := by decide +kernel
theorem dX8_gain_18 : decode cX8_gain 18 = .ok (.invokestatic 62, 3) := by decide +kernel
theorem dX8_gain_21 : decode cX8_gain 21 = .ok (.ifCond .ne 6, 3) := by decide +kernel
theorem dX8_gain_24 : decode cX8_gain 24 = .ok (.ldc 190, 2) := by decide +kernel
theorem dX8_gain_26 : decode cX8_gain 26 = .ok (.ireturn, 1) := by decide +kernel
theorem dX8_gain_27 : decode cX8_gain 27 = .ok (.aload_n 0, 1) := by decide +kernel
theorem dX8_gain_28 : decode cX8_gain 28 = .ok (.iload_n 1, 1) := by decide +kernel
theorem dX8_gain_29 : decode cX8_gain 29 = .ok (.invokevirtual 224, 3) := by decide +kernel
theorem dX8_gain_32 : decode cX8_gain 32 = .ok (.aload_n 0, 1) := by decide +kernel
theorem dX8_gain_33 : decode cX8_gain 33 = .ok (.iload_n 1, 1) := by decide +kernel
theorem dX8_gain_34 : decode cX8_gain 34 = .ok (.iload_n 2, 1) := by decide +kernel
theorem dX8_gain_35 : decode cX8_gain 35 = .ok (.iconst 4, 1) := by decide +kernel
theorem dX8_gain_36 : decode cX8_gain 36 = .ok (.invokevirtual 74, 3) := by decide +kernel
theorem dX8_gain_39 : decode cX8_gain 39 = .ok (.istore 4, 2) := by decide +kernel
theorem dX8_gain_41 : decode cX8_gain 41 = .ok (.aload_n 0, 1) := by decide +kernel
theorem dX8_gain_42 : decode cX8_gain 42 = .ok (.iload_n 1, 1) := by decide +kernel
theorem dX8_gain_43 : decode cX8_gain 43 = .ok (.iload_n 2, 1) := by decide +kernel
theorem dX8_gain_44 : decode cX8_gain 44 = .ok (.iconst 4, 1) := by decide +kernel
theorem dX8_gain_45 : decode cX8_gain 45 = .ok (.iload_n 3, 1) := by decide +kernel
theorem dX8_gain_46 : decode cX8_gain 46 = .ok (.invokevirtual 82, 3) := by decide +kernel
theorem dX8_gain_49 : decode cX8_gain 49 = .ok (.iload 4, 2) := by decide +kernel
theorem dX8_gain_51 : decode cX8_gain 51 = .ok (.ireturn, 1) := by decide +kernel
theorem dX8_wipe_0 : decode cX8_wipe 0 = .ok (.iload_n 1, 1) := by decide +kernel
theorem dX8_wipe_1 : decode cX8_wipe 1 = .ok (.invokestatic 66, 3) := by decide +kernel
theorem dX8_wipe_4 : decode cX8_wipe 4 = .ok (.ifCond .ne 6, 3) := by decide +kernel
theorem dX8_wipe_7 : decode cX8_wipe 7 = .ok (.ldc 207, 2) := by decide +kernel
theorem dX8_wipe_9 : decode cX8_wipe 9 = .ok (.ireturn, 1) := by decide +kernel
theorem dX8_wipe_10 : decode cX8_wipe 10 = .ok (.iload_n 2, 1) := by decide +kernel
theorem dX8_wipe_11 : decode cX8_wipe 11 = .ok (.i2l, 1) := by decide +kernel
theorem dX8_wipe_12 : decode cX8_wipe 12 = .ok (.lconst 0, 1) := by decide +kernel
theorem dX8_wipe_13 : decode cX8_wipe 13 = .ok (.ldc2_w 201, 3) := by decide +kernel
theorem dX8_wipe_16 : decode cX8_wipe 16 = .ok (.invokestatic 62, 3) := by decide +kernel
theorem dX8_wipe_19 : decode cX8_wipe 19 = .ok (.ifCond .eq 16, 3) := by decide +kernel
theorem dX8_wipe_22 : decode cX8_wipe 22 = .ok (.iload_n 3, 1) := by decide +kernel
theorem dX8_wipe_23 : decode cX8_wipe 23 = .ok (.i2l, 1) := by decide +kernel
theorem dX8_wipe_24 : decode cX8_wipe 24 = .ok (.iload_n 2, 1) := by decide +kernel
theorem dX8_wipe_25 : decode cX8_wipe 25 = .ok (.i2l, 1) := by decide +kernel
theorem dX8_wipe_26 : decode cX8_wipe 26 = .ok (.ldc2_w 229, 3) := by decide +kernel
theorem dX8_wipe_29 : decode cX8_wipe 29 = .ok (.invokestatic 62, 3) := by decide +kernel
theorem dX8_wipe_32 : decode cX8_wipe 32 = .ok (.ifCond .ne 6, 3) := by decide +kernel
theorem dX8_wipe_35 : decode cX8_wipe 35 = .ok (.ldc 190, 2) := by decide +kernel
theorem dX8_wipe_37 : decode cX8_wipe 37 = .ok (.ireturn, 1) := by decide +kernel
theorem dX8_wipe_38 : decode cX8_wipe 38 = .ok (.aload_n 0, 1) := by decide +kernel
theorem dX8_wipe_39 : decode cX8_wipe 39 = .ok (.iload_n 1, 1) := by decide +kernel
theorem dX8_wipe_40 : decode cX8_wipe 40 = .ok (.invokevirtual 139, 3) := by decide +kernel
theorem dX8_wipe_43 : decode cX8_wipe 43 = .ok (.aload_n 0, 1) := by decide +kernel
theorem dX8_wipe_44 : decode cX8_wipe 44 = .ok (.iload_n 2, 1) := by decide +kernel
theorem dX8_wipe_45 : decode cX8_wipe 45 = .ok (.iload_n 3, 1) := by decide +kernel
theorem dX8_wipe_46 : decode cX8_wipe 46 = .ok (.iconst (-1), 1) := by decide +kernel
theorem dX8_wipe_47 : decode cX8_wipe 47 = .ok (.invokevirtual 90, 3) := by decide +kernel
theorem dX8_wipe_50 : decode cX8_wipe 50 = .ok (.aload_n 0, 1) := by decide +kernel
theorem dX8_wipe_51 : decode cX8_wipe 51 = .ok (.iconst (-1), 1) := by decide +kernel
theorem dX8_wipe_52 : decode cX8_wipe 52 = .ok (.invokevirtual 149, 3) := by decide +kernel
theorem dX8_wipe_55 : decode cX8_wipe 55 = .ok (.bipush 12, 2) := by decide +kernel
theorem dX8_wipe_57 : decode cX8_wipe 57 = .ok (.if_icmp .le 6, 3) := by decide +kernel
theorem dX8_wipe_60 : decode cX8_wipe 60 = .ok (.ldc 196, 2) := by decide +kernel
theorem dX8_wipe_62 : decode cX8_wipe 62 = .ok (.ireturn, 1) := by decide +kernel
theorem dX8_wipe_63 : decode cX8_wipe 63 = .ok (.aload_n 0, 1) := by decide +kernel
theorem dX8_wipe_64 : decode cX8_wipe 64 = .ok (.iload_n 1, 1) := by decide +kernel
theorem dX8_wipe_65 : decode cX8_wipe 65 = .ok (.invokevirtual 224, 3) := by decide +kernel
theorem dX8_wipe_68 : decode cX8_wipe 68 = .ok (.aload_n 0, 1) := by decide +kernel
theorem dX8_wipe_69 : decode cX8_wipe 69 = .ok (.iload_n 1, 1) := by decide +kernel
theorem dX8_wipe_70 : decode cX8_wipe 70 = .ok (.iconst (-1), 1) := by decide +kernel
theorem dX8_wipe_71 : decode cX8_wipe 71 = .ok (.invokevirtual 152, 3) := by decide +kernel
theorem dX8_wipe_74 : decode cX8_wipe 74 = .ok (.aload_n 0, 1) := by decide +kernel
theorem dX8_wipe_75 : decode cX8_wipe 75 = .ok (.iload_n 1, 1) := by decide +kernel
theorem dX8_wipe_76 : decode cX8_wipe 76 = .ok (.invokevirtual 70, 3) := by decide +kernel
theorem dX8_wipe_79 : decode cX8_wipe 79 = .ok (.ireturn, 1) := by decide +kernel
theorem dX8_cut_0 : decode cX8_cut 0 = .ok (.iload_n 1, 1) := by decide +kernel
theorem dX8_cut_1 : decode cX8_cut 1 = .ok (.invokestatic 66, 3) := by decide +kernel
theorem dX8_cut_4 : decode cX8_cut 4 = .ok (.ifCond .ne 6, 3) := by decide +kernel
theorem dX8_cut_7 : decode cX8_cut 7 = .ok (.ldc 207, 2) := by decide +kernel
theorem dX8_cut_9 : decode cX8_cut 9 = .ok (.ireturn, 1) := by decide +kernel
theorem dX8_cut_10 : decode cX8_cut 10 = .ok (.iload_n 2, 1) := by decide +kernel
theorem dX8_cut_11 : decode cX8_cut 11 = .ok (.i2l, 1) := by decide +kernel
theorem dX8_cut_12 : decode cX8_cut 12 = .ok (.lconst 1, 1) := by decide +kernel
theorem dX8_cut_13 : decode cX8_cut 13 = .ok (.ldc2_w 201, 3) := by decide +kernel
theorem dX8_cut_16 : decode cX8_cut 16 = .ok (.invokestatic 62, 3) := by decide +kernel
theorem dX8_cut_19 : decode cX8_cut 19 = .ok (.ifCond .ne 6, 3) := by decide +kernel
theorem dX8_cut_22 : decode cX8_cut 22 = .ok (.ldc 190, 2) := by decide +kernel
theorem dX8_cut_24 : decode cX8_cut 24 = .ok (.ireturn, 1) := by decide +kernel
theorem dX8_cut_25 : decode cX8_cut 25 = .ok (.aload_n 0, 1) := by decide +kernel
theorem dX8_cut_26 : decode cX8_cut 26 = .ok (.iload_n 1, 1) := by decide +kernel
theorem dX8_cut_27 : decode cX8_cut 27 = .ok (.invokevirtual 139, 3) := by decide +kernel
theorem dX8_cut_30 : decode cX8_cut 30 = .ok (.aload_n 0, 1) := by decide +kernel
theorem dX8_cut_31 : decode cX8_cut 31 = .ok (.getfield 39, 3) := by decide +kernel
theorem dX8_cut_34 : decode cX8_cut 34 = .ok (.iload_n 2, 1) := by decide +kernel
theorem dX8_cut_35 : decode cX8_cut 35 = .ok (.iaload, 1) := by decide +kernel
theorem dX8_cut_36 : decode cX8_cut 36 = .ok (.iconst (-1), 1) := by decide +kernel
theorem dX8_cut_37 : decode cX8_cut 37 = .ok (.if_icmp .eq 30, 3) := by decide +kernel
theorem dX8_cut_40 : decode cX8_cut 40 = .ok (.aload_n 0, 1) := by decide +kernel
theorem dX8_cut_41 : decode cX8_cut 41 = .ok (.getfield 39, 3) := by decide +kernel
theorem dX8_cut_44 : decode cX8_cut 44 = .ok (.iload_n 2, 1) := by decide +kernel
theorem dX8_cut_45 : decode cX8_cut 45 = .ok (.iconst 1, 1) := by decide +kernel
theorem dX8_cut_46 : decode cX8_cut 46 = .ok (.isub, 1) := by decide +kernel
theorem dX8_cut_47 : decode cX8_cut 47 = .ok (.iaload, 1) := by decide +kernel
theorem dX8_cut_48 : decode cX8_cut 48 = .ok (.aload_n 0, 1) := by decide +kernel
theorem dX8_cut_49 : decode cX8_cut 49 = .ok (.getfield 39, 3) := by decide +kernel
theorem dX8_cut_52 : decode cX8_cut 52 = .ok (.iload_n 2, 1) := by decide +kernel
theorem dX8_cut_53 : decode cX8_cut 53 = .ok (.iaload, 1) := by decide +kernel
theorem dX8_cut_54 : decode cX8_cut 54 = .ok (.if_icmp .ne 13, 3) := by decide +kernel
theorem dX8_cut_57 : decode cX8_cut 57 = .ok (.aload_n 0, 1) := by decide +kernel
theorem dX8_cut_58 : decode cX8_cut 58 = .ok (.iload_n 1, 1) := by decide +kernel
theorem dX8_cut_59 : decode cX8_cut 59 = .ok (.invokevirtual 70, 3) := by decide +kernel
theorem dX8_cut_62 : decode cX8_cut 62 = .ok (.bipush 12, 2) := by decide +kernel
theorem dX8_cut_64 : decode cX8_cut 64 = .ok (.if_icmp .ne 6, 3) := by decide +kernel
theorem dX8_cut_67 : decode cX8_cut 67 = .ok (.ldc 196, 2) := by decide +kernel
theorem dX8_cut_69 : decode cX8_cut 69 = .ok (.ireturn, 1) := by decide +kernel
theorem dX8_cut_70 : decode cX8_cut 70 = .ok (.aload_n 0, 1) := by decide +kernel
theorem dX8_cut_71 : decode cX8_cut 71 = .ok (.iload_n 1, 1) := by decide +kernel
theorem dX8_cut_72 : decode cX8_cut 72 = .ok (.invokevirtual 224, 3) := by decide +kernel
theorem dX8_cut_75 : decode cX8_cut 75 = .ok (.aload_n 0, 1) := by decide +kernel
theorem dX8_cut_76 : decode cX8_cut 76 = .ok (.iload_n 1, 1) := by decide +kernel
theorem dX8_cut_77 : decode cX8_cut 77 = .ok (.iload_n 2, 1) := by decide +kernel
theorem dX8_cut_78 : decode cX8_cut 78 = .ok (.invokevirtual 152, 3) := by decide +kernel
theorem dX8_cut_81 : decode cX8_cut 81 = .ok (.aload_n 0, 1) := by decide +kernel
theorem dX8_cut_82 : decode cX8_cut 82 = .ok (.iload_n 1, 1) := by decide +kernel
theorem dX8_cut_83 : decode cX8_cut 83 = .ok (.invokevirtual 70, 3) := by decide +kernel
theorem dX8_cut_86 : decode cX8_cut 86 = .ok (.ireturn, 1) := by decide +kernel
theorem dX8_move_0 : decode cX8_move 0 = .ok (.aload_n 0, 1) := by decide +kernel
theorem dX8_move_1 : decode cX8_move 1 = .ok (.iload_n 1, 1) := by decide +kernel
theorem dX8_move_2 : decode cX8_move 2 = .ok (.iload_n 2, 1) := by decide +kernel
theorem dX8_move_3 : decode cX8_move 3 = .ok (.invokevirtual 156, 3) := by decide +kernel
theorem dX8_move_6 : decode cX8_move 6 = .ok (.ifCond .ne 6, 3) := by decide +kernel
theorem dX8_move_9 : decode cX8_move 9 = .ok (.ldc 207, 2) := by decide +kernel
theorem dX8_move_11 : decode cX8_move 11 = .ok (.ireturn, 1) := by decide +kernel
theorem dX8_move_12 : decode cX8_move 12 = .ok (.iload_n 3, 1) := by decide +kernel
theorem dX8_move_13 : decode cX8_move 13 = .ok (.i2l, 1) := by decide +kernel
theorem dX8_move_14 : decode cX8_move 14 = .ok (.lconst 0, 1) := by decide +kernel
theorem dX8_move_15 : decode cX8_move 15 = .ok (.sipush 128, 3) := by decide +kernel
theorem dX8_move_18 : decode cX8_move 18 = .ok (.aload_n 0, 1) := by decide +kernel
theorem dX8_move_19 : decode cX8_move 19 = .ok (.iload_n 1, 1) := by decide +kernel
theorem dX8_move_20 : decode cX8_move 20 = .ok (.iload_n 2, 1) := by decide +kernel
theorem dX8_move_21 : decode cX8_move 21 = .ok (.iconst 2, 1) := by decide +kernel
theorem dX8_move_22 : decode cX8_move 22 = .ok (.invokevirtual 74, 3) := by decide +kernel
theorem dX8_move_25 : decode cX8_move 25 = .ok (.isub, 1) := by decide +kernel
theorem dX8_move_26 : decode cX8_move 26 = .ok (.i2l, 1) := by decide +kernel
theorem dX8_move_27 : decode cX8_move 27 = .ok (.invokestatic 62, 3) := by decide +kernel
theorem dX8_move_30 : decode cX8_move 30 = .ok (.ifCond .ne 6, 3) := by decide +kernel
theorem dX8_move_33 : decode cX8_move 33 = .ok (.ldc 190, 2) := by decide +kernel
theorem dX8_move_35 : decode cX8_move 35 = .ok (.ireturn, 1) := by decide +kernel
theorem dX8_move_36 : decode cX8_move 36 = .ok (.aload_n 0, 1) := by decide +kernel
theorem dX8_move_37 : decode cX8_move 37 = .ok (.iload_n 1, 1) := by decide +kernel
theorem dX8_move_38 : decode cX8_move 38 = .ok (.invokevirtual 139, 3) := by decide +kernel
theorem dX8_move_41 : decode cX8_move 41 = .ok (.aload_n 0, 1) := by decide +kernel
theorem dX8_move_42 : decode cX8_move 42 = .ok (.aload_n 0, 1) := by decide +kernel
theorem dX8_move_43 : decode cX8_move 43 = .ok (.iload_n 1, 1) := by decide +kernel
theorem dX8_move_44 : decode cX8_move 44 = .ok (.iload_n 2, 1) := by decide +kernel
theorem dX8_move_45 : decode cX8_move 45 = .ok (.iconst 3, 1) := by decide +kernel
theorem dX8_move_46 : decode cX8_move 46 = .ok (.invokevirtual 74, 3) := by decide +kernel
theorem dX8_move_49 : decode cX8_move 49 = .ok (.aload_n 0, 1) := by decide +kernel
theorem dX8_move_50 : decode cX8_move 50 = .ok (.iload_n 1, 1) := by decide +kernel
theorem dX8_move_51 : decode cX8_move 51 = .ok (.iload_n 2, 1) := by decide +kernel
theorem dX8_move_52 : decode cX8_move 52 = .ok (.iconst 3, 1) := by decide +kernel
theorem dX8_move_53 : decode cX8_move 53 = .ok (.invokevirtual 74, 3) := by decide +kernel
theorem dX8_move_56 : decode cX8_move 56 = .ok (.aload_n 0, 1) := by decide +kernel
theorem dX8_move_57 : decode cX8_move 57 = .ok (.iload_n 1, 1) := by decide +kernel
theorem dX8_move_58 : decode cX8_move 58 = .ok (.iload_n 2, 1) := by decide +kernel
theorem dX8_move_59 : decode cX8_move 59 = .ok (.iconst 2, 1) := by decide +kernel
theorem dX8_move_60 : decode cX8_move 60 = .ok (.invokevirtual 74, 3) := by decide +kernel
theorem dX8_move_63 : decode cX8_move 63 = .ok (.iadd, 1) := by decide +kernel
theorem dX8_move_64 : decode cX8_move 64 = .ok (.iconst (-1), 1) := by decide +kernel
theorem dX8_move_65 : decode cX8_move 65 = .ok (.invokevirtual 90, 3) := by decide +kernel
theorem dX8_move_68 : decode cX8_move 68 = .ok (.aload_n 0, 1) := by decide +kernel
theorem dX8_move_69 : decode cX8_move 69 = .ok (.aload_n 0, 1) := by decide +kernel
theorem dX8_move_70 : decode cX8_move 70 = .ok (.iload_n 1, 1) := by decide +kernel
theorem dX8_move_71 : decode cX8_move 71 = .ok (.iload_n 2, 1) := by decide +kernel
theorem dX8_move_72 : decode cX8_move 72 = .ok (.iconst 0, 1) := by decide +kernel
theorem dX8_move_73 : decode cX8_move 73 = .ok (.invokevirtual 74, 3) := by decide +kernel
theorem dX8_move_76 : decode cX8_move 76 = .ok (.aload_n 0, 1) := by decide +kernel
theorem dX8_move_77 : decode cX8_move 77 = .ok (.iload_n 1, 1) := by decide +kernel
theorem dX8_move_78 : decode cX8_move 78 = .ok (.iload_n 2, 1) := by decide +kernel
theorem dX8_move_79 : decode cX8_move 79 = .ok (.iconst 1, 1) := by decide +kernel
theorem dX8_move_80 : decode cX8_move 80 = .ok (.invokevirtual 74, 3) := by decide +kernel
theorem dX8_move_83 : decode cX8_move 83 = .ok (.aload_n 0, 1) := by decide +kernel
theorem dX8_move_84 : decode cX8_move 84 = .ok (.iload_n 1, 1) := by decide +kernel
theorem dX8_move_85 : decode cX8_move 85 = .ok (.iload_n 2, 1) := by decide +kernel
theorem dX8_move_86 : decode cX8_move 86 = .ok (.iconst 2, 1) := by decide +kernel
theorem dX8_move_87 : decode cX8_move 87 = .ok (.invokevirtual 74, 3) := by decide +kernel
theorem dX8_move_90 : decode cX8_move 90 = .ok (.iload_n 3, 1) := by decide +kernel
theorem dX8_move_91 : decode cX8_move 91 = .ok (.invokevirtual 143, 3) := by decide +kernel
theorem dX8_move_94 : decode cX8_move 94 = .ok (.aload_n 0, 1) := by decide +kernel
theorem dX8_move_95 : decode cX8_move 95 = .ok (.aload_n 0, 1) := by decide +kernel
theorem dX8_move_96 : decode cX8_move 96 = .ok (.iload_n 1, 1) := by decide +kernel
theorem dX8_move_97 : decode cX8_move 97 = .ok (.iload_n 2, 1) := by decide +kernel
theorem dX8_move_98 : decode cX8_move 98 = .ok (.iconst 4, 1) := by decide +kernel
theorem dX8_move_99 : decode cX8_move 99 = .ok (.invokevirtual 74, 3) := by decide +kernel
theorem dX8_move_102 : decode cX8_move 102 = .ok (.aload_n 0, 1) := by decide +kernel
theorem dX8_move_103 : decode cX8_move 103 = .ok (.iload_n 1, 1) := by decide +kernel
theorem dX8_move_104 : decode cX8_move 104 = .ok (.iload_n 2, 1) := by decide +kernel
theorem dX8_move_105 : decode cX8_move 105 = .ok (.iconst 5, 1) := by decide +kernel
theorem dX8_move_106 : decode cX8_move 106 = .ok (.invokevirtual 74, 3) := by decide +kernel
theorem dX8_move_109 : decode cX8_move 109 = .ok (.aload_n 0, 1) := by decide +kernel
theorem dX8_move_110 : decode cX8_move 110 = .ok (.iload_n 1, 1) := by decide +kernel
theorem dX8_move_111 : decode cX8_move 111 = .ok (.iload_n 2, 1) := by decide +kernel
theorem dX8_move_112 : decode cX8_move 112 = .ok (.bipush 6, 2) := by decide +kernel
theorem dX8_move_114 : decode cX8_move 114 = .ok (.invokevirtual 74, 3) := by decide +kernel
theorem dX8_move_117 : decode cX8_move 117 = .ok (.invokevirtual 146, 3) := by decide +kernel
theorem dX8_move_120 : decode cX8_move 120 = .ok (.aload_n 0, 1) := by decide +kernel
theorem dX8_move_121 : decode cX8_move 121 = .ok (.iconst (-1), 1) := by decide +kernel
theorem dX8_move_122 : decode cX8_move 122 = .ok (.invokevirtual 149, 3) := by decide +kernel
theorem dX8_move_125 : decode cX8_move 125 = .ok (.bipush 12, 2) := by decide +kernel
theorem dX8_move_127 : decode cX8_move 127 = .ok (.if_icmp .le 6, 3) := by decide +kernel
theorem dX8_move_130 : decode cX8_move 130 = .ok (.ldc 196, 2) := by decide +kernel
theorem dX8_move_132 : decode cX8_move 132 = .ok (.ireturn, 1) := by decide +kernel
theorem dX8_move_133 : decode cX8_move 133 = .ok (.aload_n 0, 1) := by decide +kernel
theorem dX8_move_134 : decode cX8_move 134 = .ok (.iload_n 1, 1) := by decide +kernel
theorem dX8_move_135 : decode cX8_move 135 = .ok (.invokevirtual 224, 3) := by decide +kernel
theorem dX8_move_138 : decode cX8_move 138 = .ok (.aload_n 0, 1) := by decide +kernel
theorem dX8_move_139 : decode cX8_move 139 = .ok (.iload_n 1, 1) := by decide +kernel
theorem dX8_move_140 : decode cX8_move 140 = .ok (.iconst (-1), 1) := by decide +kernel
theorem dX8_move_141 : decode cX8_move 141 = .ok (.invokevirtual 152, 3) := by decide +kernel
theorem dX8_move_144 : decode cX8_move 144 = .ok (.aload_n 0, 1) := by decide +kernel
theorem dX8_move_145 : decode cX8_move 145 = .ok (.iload_n 1, 1) := by decide +kernel
theorem dX8_move_146 : decode cX8_move 146 = .ok (.invokevirtual 70, 3) := by decide +kernel
theorem dX8_move_149 : decode cX8_move 149 = .ok (.ireturn, 1) := by decide +kernel
theorem dX8_shift_0 : decode cX8_shift 0 = .ok (.iload_n 1, 1) := by decide +kernel
theorem dX8_shift_1 : decode cX8_shift 1 = .ok (.invokestatic 66, 3) := by decide +kernel
theorem dX8_shift_4 : decode cX8_shift 4 = .ok (.ifCond .ne 6, 3) := by decide +kernel
theorem dX8_shift_7 : decode cX8_shift 7 = .ok (.ldc 207, 2) := by decide +kernel
theorem dX8_shift_9 : decode cX8_shift 9 = .ok (.ireturn, 1) := by decide +kernel
theorem dX8_shift_10 : decode cX8_shift 10 = .ok (.iload_n 2, 1) := by decide +kernel
theorem dX8_shift_11 : decode cX8_shift 11 = .ok (.i2l, 1) := by decide +kernel
theorem dX8_shift_12 : decode cX8_shift 12 = .ok (.ldc2_w 231, 3) := by decide +kernel
theorem dX8_shift_15 : decode cX8_shift 15 = .ok (.ldc2_w 227, 3) := by decide +kernel
theorem dX8_shift_18 : decode cX8_shift 18 = .ok (.invokestatic 62, 3) := by decide +kernel
theorem dX8_shift_21 : decode cX8_shift 21 = .ok (.ifCond .ne 6, 3) := by decide +kernel
theorem dX8_shift_24 : decode cX8_shift 24 = .ok (.ldc 190, 2) := by decide +kernel
theorem dX8_shift_26 : decode cX8_shift 26 = .ok (.ireturn, 1) := by decide +kernel
theorem dX8_shift_27 : decode cX8_shift 27 = .ok (.aload_n 0, 1) := by decide +kernel
theorem dX8_shift_28 : decode cX8_shift 28 = .ok (.iload_n 1, 1) := by decide +kernel
theorem dX8_shift_29 : decode cX8_shift 29 = .ok (.invokevirtual 224, 3) := by decide +kernel
theorem dX8_shift_32 : decode cX8_shift 32 = .ok (.aload_n 0, 1) := by decide +kernel
theorem dX8_shift_33 : decode cX8_shift 33 = .ok (.getfield 17, 3) := by decide +kernel
theorem dX8_shift_36 : decode cX8_shift 36 = .ok (.bipush 86, 2) := by decide +kernel
theorem dX8_shift_38 : decode cX8_shift 38 = .ok (.iload_n 1, 1) := by decide +kernel
theorem dX8_shift_39 : decode cX8_shift 39 = .ok (.imul, 1) := by decide +kernel
theorem dX8_shift_40 : decode cX8_shift 40 = .ok (.bipush 85, 2) := by decide +kernel
theorem dX8_shift_42 : decode cX8_shift 42 = .ok (.iadd, 1) := by decide +kernel
theorem dX8_shift_43 : decode cX8_shift 43 = .ok (.iaload, 1) := by decide +kernel
theorem dX8_shift_44 : decode cX8_shift 44 = .ok (.istore_n 3, 1) := by decide +kernel
theorem dX8_shift_45 : decode cX8_shift 45 = .ok (.aload_n 0, 1) := by decide +kernel
theorem dX8_shift_46 : decode cX8_shift 46 = .ok (.getfield 17, 3) := by decide +kernel
theorem dX8_shift_49 : decode cX8_shift 49 = .ok (.bipush 86, 2) := by decide +kernel
theorem dX8_shift_51 : decode cX8_shift 51 = .ok (.iload_n 1, 1) := by decide +kernel
theorem dX8_shift_52 : decode cX8_shift 52 = .ok (.imul, 1) := by decide +kernel
theorem dX8_shift_53 : decode cX8_shift 53 = .ok (.bipush 85, 2) := by decide +kernel
theorem dX8_shift_55 : decode cX8_shift 55 = .ok (.iadd, 1) := by decide +kernel
theorem dX8_shift_56 : decode cX8_shift 56 = .ok (.iload_n 2, 1) := by decide +kernel
theorem dX8_shift_57 : decode cX8_shift 57 = .ok (.iastore, 1) := by decide +kernel
theorem dX8_shift_58 : decode cX8_shift 58 = .ok (.iload_n 3, 1) := by decide +kernel
theorem dX8_shift_59 : decode cX8_shift 59 = .ok (.ireturn, 1) := by decide +kernel
theorem dX8_shut_0 : decode cX8_shut 0 = .ok (.iload_n 1, 1) := by decide +kernel
theorem dX8_shut_1 : decode cX8_shut 1 = .ok (.invokestatic 66, 3) := by decide +kernel
theorem dX8_shut_4 : decode cX8_shut 4 = .ok (.ifCond .ne 6, 3) := by decide +kernel
theorem dX8_shut_7 : decode cX8_shut 7 = .ok (.ldc 207, 2) := by decide +kernel
theorem dX8_shut_9 : decode cX8_shut 9 = .ok (.ireturn, 1) := by decide +kernel
theorem dX8_shut_10 : decode cX8_shut 10 = .ok (.aload_n 0, 1) := by decide +kernel
theorem dX8_shut_11 : decode cX8_shut 11 = .ok (.getfield 20, 3) := by decide +kernel
theorem dX8_shut_14 : decode cX8_shut 14 = .ok (.iload_n 1, 1) := by decide +kernel
theorem dX8_shut_15 : decode cX8_shut 15 = .ok (.iconst 1, 1) := by decide +kernel
theorem dX8_shut_16 : decode cX8_shut 16 = .ok (.aload_n 0, 1) := by decide +kernel
theorem dX8_shut_17 : decode cX8_shut 17 = .ok (.getfield 20, 3) := by decide +kernel
theorem dX8_shut_20 : decode cX8_shut 20 = .ok (.iload_n 1, 1) := by decide +kernel
theorem dX8_shut_21 : decode cX8_shut 21 = .ok (.iaload, 1) := by decide +kernel
theorem dX8_shut_22 : decode cX8_shut 22 = .ok (.isub, 1) := by decide +kernel
theorem dX8_shut_23 : decode cX8_shut 23 = .ok (.iastore, 1) := by decide +kernel
theorem dX8_shut_24 : decode cX8_shut 24 = .ok (.aload_n 0, 1) := by decide +kernel
theorem dX8_shut_25 : decode cX8_shut 25 = .ok (.getfield 20, 3) := by decide +kernel
theorem dX8_shut_28 : decode cX8_shut 28 = .ok (.iload_n 1, 1) := by decide +kernel
theorem dX8_shut_29 : decode cX8_shut 29 = .ok (.iaload, 1) := by decide +kernel
theorem dX8_shut_30 : decode cX8_shut 30 = .ok (.ireturn, 1) := by decide +kernel
theorem dX8_bounce_0 : decode cX8_bounce 0 = .ok (.iload_n 1, 1) := by decide +kernel
theorem dX8_bounce_1 : decode cX8_bounce 1 = .ok (.i2l, 1) := by decide +kernel
theorem dX8_bounce_2 : decode cX8_bounce 2 = .ok (.lconst 0, 1) := by decide +kernel
theorem dX8_bounce_3 : decode cX8_bounce 3 = .ok (.ldc2_w 201, 3) := by decide +kernel
theorem dX8_bounce_6 : decode cX8_bounce 6 = .ok (.invokestatic 62, 3) := by decide +kernel
theorem dX8_bounce_9 : decode cX8_bounce 9 = .ok (.ifCond .eq 24, 3) := by decide +kernel
theorem dX8_bounce_12 : decode cX8_bounce 12 = .ok (.iload_n 2, 1) := by decide +kernel
theorem dX8_bounce_13 : decode cX8_bounce 13 = .ok (.i2l, 1) := by decide +kernel
theorem dX8_bounce_14 : decode cX8_bounce 14 = .ok (.lconst 1, 1) := by decide +kernel
theorem dX8_bounce_15 : decode cX8_bounce 15 = .ok (.ldc2_w 222, 3) := by decide +kernel
theorem dX8_bounce_18 : decode cX8_bounce 18 = .ok (.invokestatic 62, 3) := by decide +kernel
theorem dX8_bounce_21 : decode cX8_bounce 21 = .ok (.ifCond .eq 12, 3) := by decide +kernel
theorem dX8_bounce_24 : decode cX8_bounce 24 = .ok (.iload_n 1, 1) := by decide +kernel
theorem dX8_bounce_25 : decode cX8_bounce 25 = .ok (.iload_n 2, 1) := by decide +kernel
theorem dX8_bounce_26 : decode cX8_bounce 26 = .ok (.iadd, 1) := by decide +kernel
theorem dX8_bounce_27 : decode cX8_bounce 27 = .ok (.sipush 128, 3) := by decide +kernel
theorem dX8_bounce_30 : decode cX8_bounce 30 = .ok (.if_icmp .le 6, 3) := by decide +kernel
theorem dX8_bounce_33 : decode cX8_bounce 33 = .ok (.ldc 190, 2) := by decide +kernel
theorem dX8_bounce_35 : decode cX8_bounce 35 = .ok (.ireturn, 1) := by decide +kernel
theorem dX8_bounce_36 : decode cX8_bounce 36 = .ok (.aload_n 0, 1) := by decide +kernel
theorem dX8_bounce_37 : decode cX8_bounce 37 = .ok (.getfield 159, 3) := by decide +kernel
theorem dX8_bounce_40 : decode cX8_bounce 40 = .ok (.bipush 6, 2) := by decide +kernel
theorem dX8_bounce_42 : decode cX8_bounce 42 = .ok (.if_icmp .ne 6, 3) := by decide +kernel
theorem dX8_bounce_45 : decode cX8_bounce 45 = .ok (.ldc 191, 2) := by decide +kernel
theorem dX8_bounce_47 : decode cX8_bounce 47 = .ok (.ireturn, 1) := by decide +kernel
theorem dX8_bounce_48 : decode cX8_bounce 48 = .ok (.iconst 0, 1) := by decide +kernel
theorem dX8_bounce_49 : decode cX8_bounce 49 = .ok (.istore_n 3, 1) := by decide +kernel
theorem dX8_bounce_50 : decode cX8_bounce 50 = .ok (.iload_n 3, 1) := by decide +kernel
theorem dX8_bounce_51 : decode cX8_bounce 51 = .ok (.iload_n 2, 1) := by decide +kernel
theorem dX8_bounce_52 : decode cX8_bounce 52 = .ok (.if_icmp .ge 30, 3) := by decide +kernel
theorem dX8_bounce_55 : decode cX8_bounce 55 = .ok (.aload_n 0, 1) := by decide +kernel
theorem dX8_bounce_56 : decode cX8_bounce 56 = .ok (.getfield 7, 3) := by decide +kernel
theorem dX8_bounce_59 : decode cX8_bounce 59 = .ok (.bipush 64, 2) := by decide +kernel
theorem dX8_bounce_61 : decode cX8_bounce 61 = .ok (.aload_n 0, 1) := by decide +kernel
theorem dX8_bounce_62 : decode cX8_bounce 62 = .ok (.getfield 159, 3) := by decide +kernel
theorem dX8_bounce_65 : decode cX8_bounce 65 = .ok (.imul, 1) := by decide +kernel
theorem dX8_bounce_66 : decode cX8_bounce 66 = .ok (.iload_n 3, 1) := by decide +kernel
theorem dX8_bounce_67 : decode cX8_bounce 67 = .ok (.iadd, 1) := by decide +kernel
theorem dX8_bounce_68 : decode cX8_bounce 68 = .ok (.aload_n 0, 1) := by decide +kernel
theorem dX8_bounce_69 : decode cX8_bounce 69 = .ok (.iload_n 1, 1) := by decide +kernel
theorem dX8_bounce_70 : decode cX8_bounce 70 = .ok (.iload_n 3, 1) := by decide +kernel
theorem dX8_bounce_71 : decode cX8_bounce 71 = .ok (.iadd, 1) := by decide +kernel
theorem dX8_bounce_72 : decode cX8_bounce 72 = .ok (.invokevirtual 233, 3) := by decide +kernel
theorem dX8_bounce_75 : decode cX8_bounce 75 = .ok (.fastore, 1) := by decide +kernel
theorem dX8_bounce_76 : decode cX8_bounce 76 = .ok (.iinc 3 1, 3) := by decide +kernel
theorem dX8_bounce_79 : decode cX8_bounce 79 = .ok (.goto (-29), 3) := by decide +kernel
theorem dX8_bounce_82 : decode cX8_bounce 82 = .ok (.aload_n 0, 1) := by decide +kernel
theorem dX8_bounce_83 : decode cX8_bounce 83 = .ok (.getfield 13, 3) := by decide +kernel
theorem dX8_bounce_86 : decode cX8_bounce 86 = .ok (.aload_n 0, 1) := by decide +kernel
theorem dX8_bounce_87 : decode cX8_bounce 87 = .ok (.getfield 159, 3) := by decide +kernel
theorem dX8_bounce_90 : decode cX8_bounce 90 = .ok (.iload_n 2, 1) := by decide +kernel
theorem dX8_bounce_91 : decode cX8_bounce 91 = .ok (.iastore, 1) := by decide +kernel
theorem dX8_bounce_92 : decode cX8_bounce 92 = .ok (.aload_n 0, 1) := by decide +kernel
theorem dX8_bounce_93 : decode cX8_bounce 93 = .ok (.dup, 1) := by decide +kernel
theorem dX8_bounce_94 : decode cX8_bounce 94 = .ok (.getfield 159, 3) := by decide +kernel
theorem dX8_bounce_97 : decode cX8_bounce 97 = .ok (.iconst 1, 1) := by decide +kernel
theorem dX8_bounce_98 : decode cX8_bounce 98 = .ok (.iadd, 1) := by decide +kernel
theorem dX8_bounce_99 : decode cX8_bounce 99 = .ok (.putfield 159, 3) := by decide +kernel
theorem dX8_bounce_102 : decode cX8_bounce 102 = .ok (.aload_n 0, 1) := by decide +kernel
theorem dX8_bounce_103 : decode cX8_bounce 103 = .ok (.getfield 159, 3) := by decide +kernel
theorem dX8_bounce_106 : decode cX8_bounce 106 = .ok (.iconst 1, 1) := by decide +kernel
theorem dX8_bounce_107 : decode cX8_bounce 107 = .ok (.isub, 1) := by decide +kernel
theorem dX8_bounce_108 : decode cX8_bounce 108 = .ok (.ireturn, 1) := by decide +kernel
theorem dX8_undo_0 : decode cX8_undo 0 = .ok (.iload_n 1, 1) := by decide +kernel
theorem dX8_undo_1 : decode cX8_undo 1 = .ok (.invokestatic 66, 3) := by decide +kernel
theorem dX8_undo_4 : decode cX8_undo 4 = .ok (.ifCond .ne 6, 3) := by decide +kernel
theorem dX8_undo_7 : decode cX8_undo 7 = .ok (.ldc 207, 2) := by decide +kernel
theorem dX8_undo_9 : decode cX8_undo 9 = .ok (.ireturn, 1) := by decide +kernel
theorem dX8_undo_10 : decode cX8_undo 10 = .ok (.aload_n 0, 1) := by decide +kernel
theorem dX8_undo_11 : decode cX8_undo 11 = .ok (.getfield 26, 3) := by decide +kernel
theorem dX8_undo_14 : decode cX8_undo 14 = .ok (.iload_n 1, 1) := by decide +kernel
theorem dX8_undo_15 : decode cX8_undo 15 = .ok (.iaload, 1) := by decide +kernel
theorem dX8_undo_16 : decode cX8_undo 16 = .ok (.ifCond .ne 6, 3) := by decide +kernel
theorem dX8_undo_19 : decode cX8_undo 19 = .ok (.ldc 196, 2) := by decide +kernel
theorem dX8_undo_21 : decode cX8_undo 21 = .ok (.ireturn, 1) := by decide +kernel
theorem dX8_undo_22 : decode cX8_undo 22 = .ok (.aload_n 0, 1) := by decide +kernel
theorem dX8_undo_23 : decode cX8_undo 23 = .ok (.getfield 26, 3) := by decide +kernel
theorem dX8_undo_26 : decode cX8_undo 26 = .ok (.iload_n 1, 1) := by decide +kernel
theorem dX8_undo_27 : decode cX8_undo 27 = .ok (.dup2, 1) := by decide +kernel
theorem dX8_undo_28 : decode cX8_undo 28 = .ok (.iaload, 1) := by decide +kernel
theorem dX8_undo_29 : decode cX8_undo 29 = .ok (.iconst 1, 1) := by decide +kernel
theorem dX8_undo_30 : decode cX8_undo 30 = .ok (.isub, 1) := by decide +kernel
theorem dX8_undo_31 : decode cX8_undo 31 = .ok (.iastore, 1) := by decide +kernel
theorem dX8_undo_32 : decode cX8_undo 32 = .ok (.iconst 0, 1) := by decide +kernel
theorem dX8_undo_33 : decode cX8_undo 33 = .ok (.istore_n 2, 1) := by decide +kernel
theorem dX8_undo_34 : decode cX8_undo 34 = .ok (.iload_n 2, 1) := by decide +kernel
theorem dX8_undo_35 : decode cX8_undo 35 = .ok (.bipush 86, 2) := by decide +kernel
theorem dX8_undo_37 : decode cX8_undo 37 = .ok (.if_icmp .ge 42, 3) := by decide +kernel
theorem dX8_undo_40 : decode cX8_undo 40 = .ok (.aload_n 0, 1) := by decide +kernel
theorem dX8_undo_41 : decode cX8_undo 41 = .ok (.getfield 17, 3) := by decide +kernel
theorem dX8_undo_44 : decode cX8_undo 44 = .ok (.bipush 86, 2) := by decide +kernel
theorem dX8_undo_46 : decode cX8_undo 46 = .ok (.iload_n 1, 1) := by decide +kernel
theorem dX8_undo_47 : decode cX8_undo 47 = .ok (.imul, 1) := by decide +kernel
theorem dX8_undo_48 : decode cX8_undo 48 = .ok (.iload_n 2, 1) := by decide +kernel
theorem dX8_undo_49 : decode cX8_undo 49 = .ok (.iadd, 1) := by decide +kernel
theorem dX8_undo_50 : decode cX8_undo 50 = .ok (.aload_n 0, 1) := by decide +kernel
theorem dX8_undo_51 : decode cX8_undo 51 = .ok (.getfield 23, 3) := by decide +kernel
theorem dX8_undo_54 : decode cX8_undo 54 = .ok (.sipush 344, 3) := by decide +kernel
theorem dX8_undo_57 : decode cX8_undo 57 = .ok (.iload_n 1, 1) := by decide +kernel
theorem dX8_undo_58 : decode cX8_undo 58 = .ok (.imul, 1) := by decide +kernel
theorem dX8_undo_59 : decode cX8_undo 59 = .ok (.bipush 86, 2) := by decide +kernel
theorem dX8_undo_61 : decode cX8_undo 61 = .ok (.aload_n 0, 1) := by decide +kernel
theorem dX8_undo_62 : decode cX8_undo 62 = .ok (.getfield 26, 3) := by decide +kernel
theorem dX8_undo_65 : decode cX8_undo 65 = .ok (.iload_n 1, 1) := by decide +kernel
theorem dX8_undo_66 : decode cX8_undo 66 = .ok (.iaload, 1) := by decide +kernel
theorem dX8_undo_67 : decode cX8_undo 67 = .ok (.imul, 1) := by decide +kernel
theorem dX8_undo_68 : decode cX8_undo 68 = .ok (.iadd, 1) := by decide +kernel
theorem dX8_undo_69 : decode cX8_undo 69 = .ok (.iload_n 2, 1) := by decide +kernel
theorem dX8_undo_70 : decode cX8_undo 70 = .ok (.iadd, 1) := by decide +kernel
theorem dX8_undo_71 : decode cX8_undo 71 = .ok (.iaload, 1) := by decide +kernel
theorem dX8_undo_72 : decode cX8_undo 72 = .ok (.iastore, 1) := by decide +kernel
theorem dX8_undo_73 : decode cX8_undo 73 = .ok (.iinc 2 1, 3) := by decide +kernel
theorem dX8_undo_76 : decode cX8_undo 76 = .ok (.goto (-42), 3) := by decide +kernel
theorem dX8_undo_79 : decode cX8_undo 79 = .ok (.aload_n 0, 1) := by decide +kernel
theorem dX8_undo_80 : decode cX8_undo 80 = .ok (.getfield 26, 3) := by decide +kernel
theorem dX8_undo_83 : decode cX8_undo 83 = .ok (.iload_n 1, 1) := by decide +kernel
theorem dX8_undo_84 : decode cX8_undo 84 = .ok (.iaload, 1) := by decide +kernel
theorem dX8_undo_85 : decode cX8_undo 85 = .ok (.ireturn, 1) := by decide +kernel
theorem dX8_allSpans_0 : decode cX8_allSpans 0 = .ok (.aload_n 0, 1) := by decide +kernel
theorem dX8_allSpans_1 : decode cX8_allSpans 1 = .ok (.iconst 0, 1) := by decide +kernel
theorem dX8_allSpans_2 : decode cX8_allSpans 2 = .ok (.invokevirtual 70, 3) := by decide +kernel
theorem dX8_allSpans_5 : decode cX8_allSpans 5 = .ok (.aload_n 0, 1) := by decide +kernel
theorem dX8_allSpans_6 : decode cX8_allSpans 6 = .ok (.iconst 1, 1) := by decide +kernel
theorem dX8_allSpans_7 : decode cX8_allSpans 7 = .ok (.invokevirtual 70, 3) := by decide +kernel
theorem dX8_allSpans_10 : decode cX8_allSpans 10 = .ok (.iadd, 1) := by decide +kernel
theorem dX8_allSpans_11 : decode cX8_allSpans 11 = .ok (.aload_n 0, 1) := by decide +kernel
theorem dX8_allSpans_12 : decode cX8_allSpans 12 = .ok (.iconst 2, 1) := by decide +kernel
theorem dX8_allSpans_13 : decode cX8_allSpans 13 = .ok (.invokevirtual 70, 3) := by decide +kernel
theorem dX8_allSpans_16 : decode cX8_allSpans 16 = .ok (.iadd, 1) := by decide +kernel
theorem dX8_allSpans_17 : decode cX8_allSpans 17 = .ok (.aload_n 0, 1) := by decide +kernel
theorem dX8_allSpans_18 : decode cX8_allSpans 18 = .ok (.iconst 3, 1) := by decide +kernel
theorem dX8_allSpans_19 : decode cX8_allSpans 19 = .ok (.invokevirtual 70, 3) := by decide +kernel
theorem dX8_allSpans_22 : decode cX8_allSpans 22 = .ok (.iadd, 1) := by decide +kernel
theorem dX8_allSpans_23 : decode cX8_allSpans 23 = .ok (.ireturn, 1) := by decide +kernel
theorem dX8_keep_0 : decode cX8_keep 0 = .ok (.iload_n 1, 1) := by decide +kernel
theorem dX8_keep_1 : decode cX8_keep 1 = .ok (.i2l, 1) := by decide +kernel
theorem dX8_keep_2 : decode cX8_keep 2 = .ok (.lconst 0, 1) := by decide +kernel
theorem dX8_keep_3 : decode cX8_keep 3 = .ok (.lconst 1, 1) := by decide +kernel
theorem dX8_keep_4 : decode cX8_keep 4 = .ok (.invokestatic 62, 3) := by decide +kernel
theorem dX8_keep_7 : decode cX8_keep 7 = .ok (.ifCond .ne 6, 3) := by decide +kernel
theorem dX8_keep_10 : decode cX8_keep 10 = .ok (.ldc 190, 2) := by decide +kernel
theorem dX8_keep_12 : decode cX8_keep 12 = .ok (.ireturn, 1) := by decide +kernel
theorem dX8_keep_13 : decode cX8_keep 13 = .ok (.iconst 0, 1) := by decide +kernel
theorem dX8_keep_14 : decode cX8_keep 14 = .ok (.istore_n 2, 1) := by decide +kernel
theorem dX8_keep_15 : decode cX8_keep 15 = .ok (.iload_n 2, 1) := by decide +kernel
theorem dX8_keep_16 : decode cX8_keep 16 = .ok (.sipush 344, 3) := by decide +kernel
theorem dX8_keep_19 : decode cX8_keep 19 = .ok (.if_icmp .ge 27, 3) := by decide +kernel
theorem dX8_keep_22 : decode cX8_keep 22 = .ok (.aload_n 0, 1) := by decide +kernel
theorem dX8_keep_23 : decode cX8_keep 23 = .ok (.getfield 29, 3) := by decide +kernel
theorem dX8_keep_26 : decode cX8_keep 26 = .ok (.sipush 344, 3) := by decide +kernel
theorem dX8_keep_29 : decode cX8_keep 29 = .ok (.iload_n 1, 1) := by decide +kernel
theorem dX8_keep_30 : decode cX8_keep 30 = .ok (.imul, 1) := by decide +kernel
theorem dX8_keep_31 : decode cX8_keep 31 = .ok (.iload_n 2, 1) := by decide +kernel
theorem dX8_keep_32 : decode cX8_keep 32 = .ok (.iadd, 1) := by decide +kernel
theorem dX8_keep_33 : decode cX8_keep 33 = .ok (.aload_n 0, 1) := by decide +kernel
theorem dX8_keep_34 : decode cX8_keep 34 = .ok (.getfield 17, 3) := by decide +kernel
theorem dX8_keep_37 : decode cX8_keep 37 = .ok (.iload_n 2, 1) := by decide +kernel
theorem dX8_keep_38 : decode cX8_keep 38 = .ok (.iaload, 1) := by decide +kernel
theorem dX8_keep_39 : decode cX8_keep 39 = .ok (.iastore, 1) := by decide +kernel
theorem dX8_keep_40 : decode cX8_keep 40 = .ok (.iinc 2 1, 3) := by decide +kernel
theorem dX8_keep_43 : decode cX8_keep 43 = .ok (.goto (-28), 3) := by decide +kernel
theorem dX8_keep_46 : decode cX8_keep 46 = .ok (.iconst 0, 1) := by decide +kernel
theorem dX8_keep_47 : decode cX8_keep 47 = .ok (.istore_n 2, 1) := by decide +kernel
theorem dX8_keep_48 : decode cX8_keep 48 = .ok (.iload_n 2, 1) := by decide +kernel
theorem dX8_keep_49 : decode cX8_keep 49 = .ok (.iconst 4, 1) := by decide +kernel
theorem dX8_keep_50 : decode cX8_keep 50 = .ok (.if_icmp .ge 25, 3) := by decide +kernel
theorem dX8_keep_53 : decode cX8_keep 53 = .ok (.aload_n 0, 1) := by decide +kernel
theorem dX8_keep_54 : decode cX8_keep 54 = .ok (.getfield 32, 3) := by decide +kernel
theorem dX8_keep_57 : decode cX8_keep 57 = .ok (.iconst 4, 1) := by decide +kernel
theorem dX8_keep_58 : decode cX8_keep 58 = .ok (.iload_n 1, 1) := by decide +kernel
theorem dX8_keep_59 : decode cX8_keep 59 = .ok (.imul, 1) := by decide +kernel
theorem dX8_keep_60 : decode cX8_keep 60 = .ok (.iload_n 2, 1) := by decide +kernel
theorem dX8_keep_61 : decode cX8_keep 61 = .ok (.iadd, 1) := by decide +kernel
theorem dX8_keep_62 : decode cX8_keep 62 = .ok (.aload_n 0, 1) := by decide +kernel
theorem dX8_keep_63 : decode cX8_keep 63 = .ok (.getfield 20, 3) := by decide +kernel
theorem dX8_keep_66 : decode cX8_keep 66 = .ok (.iload_n 2, 1) := by decide +kernel
theorem dX8_keep_67 : decode cX8_keep 67 = .ok (.iaload, 1) := by decide +kernel
theorem dX8_keep_68 : decode cX8_keep 68 = .ok (.iastore, 1) := by decide +kernel
theorem dX8_keep_69 : decode cX8_keep 69 = .ok (.iinc 2 1, 3) := by decide +kernel
theorem dX8_keep_72 : decode cX8_keep 72 = .ok (.goto (-24), 3) := by decide +kernel
theorem dX8_keep_75 : decode cX8_keep 75 = .ok (.aload_n 0, 1) := by decide +kernel
theorem dX8_keep_76 : decode cX8_keep 76 = .ok (.getfield 35, 3) := by decide +kernel
theorem dX8_keep_79 : decode cX8_keep 79 = .ok (.iload_n 1, 1) := by decide +kernel
theorem dX8_keep_80 : decode cX8_keep 80 = .ok (.iconst 1, 1) := by decide +kernel
theorem dX8_keep_81 : decode cX8_keep 81 = .ok (.bastore, 1) := by decide +kernel
theorem dX8_keep_82 : decode cX8_keep 82 = .ok (.aload_n 0, 1) := by decide +kernel
theorem dX8_keep_83 : decode cX8_keep 83 = .ok (.invokevirtual 237, 3) := by decide +kernel
theorem dX8_keep_86 : decode cX8_keep 86 = .ok (.ireturn, 1) := by decide +kernel
theorem dX8_back_0 : decode cX8_back 0 = .ok (.iload_n 1, 1) := by decide +kernel
theorem dX8_back_1 : decode cX8_back 1 = .ok (.i2l, 1) := by decide +kernel
theorem dX8_back_2 : decode cX8_back 2 = .ok (.lconst 0, 1) := by decide +kernel
theorem dX8_back_3 : decode cX8_back 3 = .ok (.lconst 1, 1) := by decide +kernel
theorem dX8_back_4 : decode cX8_back 4 = .ok (.invokestatic 62, 3) := by decide +kernel
theorem dX8_back_7 : decode cX8_back 7 = .ok (.ifCond .ne 6, 3) := by decide +kernel
theorem dX8_back_10 : decode cX8_back 10 = .ok (.ldc 190, 2) := by decide +kernel
theorem dX8_back_12 : decode cX8_back 12 = .ok (.ireturn, 1) := by decide +kernel
theorem dX8_back_13 : decode cX8_back 13 = .ok (.aload_n 0, 1) := by decide +kernel
theorem dX8_back_14 : decode cX8_back 14 = .ok (.getfield 35, 3) := by decide +kernel
theorem dX8_back_17 : decode cX8_back 17 = .ok (.iload_n 1, 1) := by decide +kernel
theorem dX8_back_18 : decode cX8_back 18 = .ok (.baload, 1) := by decide +kernel
theorem dX8_back_19 : decode cX8_back 19 = .ok (.ifCond .ne 6, 3) := by decide +kernel
theorem dX8_back_22 : decode cX8_back 22 = .ok (.ldc 196, 2) := by decide +kernel
theorem dX8_back_24 : decode cX8_back 24 = .ok (.ireturn, 1) := by decide +kernel
theorem dX8_back_25 : decode cX8_back 25 = .ok (.iconst 0, 1) := by decide +kernel
theorem dX8_back_26 : decode cX8_back 26 = .ok (.istore_n 2, 1) := by decide +kernel
theorem dX8_back_27 : decode cX8_back 27 = .ok (.iload_n 2, 1) := by decide +kernel
theorem dX8_back_28 : decode cX8_back 28 = .ok (.sipush 344, 3) := by decide +kernel
theorem dX8_back_31 : decode cX8_back 31 = .ok (.if_icmp .ge 27, 3) := by decide +kernel
theorem dX8_back_34 : decode cX8_back 34 = .ok (.aload_n 0, 1) := by decide +kernel
theorem dX8_back_35 : decode cX8_back 35 = .ok (.getfield 17, 3) := by decide +kernel
theorem dX8_back_38 : decode cX8_back 38 = .ok (.iload_n 2, 1) := by decide +kernel
theorem dX8_back_39 : decode cX8_back 39 = .ok (.aload_n 0, 1) := by decide +kernel
theorem dX8_back_40 : decode cX8_back 40 = .ok (.getfield 29, 3) := by decide +kernel
theorem dX8_back_43 : decode cX8_back 43 = .ok (.sipush 344, 3) := by decide +kernel
theorem dX8_back_46 : decode cX8_back 46 = .ok (.iload_n 1, 1) := by decide +kernel
theorem dX8_back_47 : decode cX8_back 47 = .ok (.imul, 1) := by decide +kernel
theorem dX8_back_48 : decode cX8_back 48 = .ok (.iload_n 2, 1) := by decide +kernel
theorem dX8_back_49 : decode cX8_back 49 = .ok (.iadd, 1) := by decide +kernel
theorem dX8_back_50 : decode cX8_back 50 = .ok (.iaload, 1) := by decide +kernel
theorem dX8_back_51 : decode cX8_back 51 = .ok (.iastore, 1) := by decide +kernel
theorem dX8_back_52 : decode cX8_back 52 = .ok (.iinc 2 1, 3) := by decide +kernel
theorem dX8_back_55 : decode cX8_back 55 = .ok (.goto (-28), 3) := by decide +kernel
theorem dX8_back_58 : decode cX8_back 58 = .ok (.iconst 0, 1) := by decide +kernel
theorem dX8_back_59 : decode cX8_back 59 = .ok (.istore_n 2, 1) := by decide +kernel
theorem dX8_back_60 : decode cX8_back 60 = .ok (.iload_n 2, 1) := by decide +kernel
theorem dX8_back_61 : decode cX8_back 61 = .ok (.iconst 4, 1) := by decide +kernel
theorem dX8_back_62 : decode cX8_back 62 = .ok (.if_icmp .ge 32, 3) := by decide +kernel
theorem dX8_back_65 : decode cX8_back 65 = .ok (.aload_n 0, 1) := by decide +kernel
theorem dX8_back_66 : decode cX8_back 66 = .ok (.getfield 20, 3) := by decide +kernel
theorem dX8_back_69 : decode cX8_back 69 = .ok (.iload_n 2, 1) := by decide +kernel
theorem dX8_back_70 : decode cX8_back 70 = .ok (.aload_n 0, 1) := by decide +kernel
theorem dX8_back_71 : decode cX8_back 71 = .ok (.getfield 32, 3) := by decide +kernel
theorem dX8_back_74 : decode cX8_back 74 = .ok (.iconst 4, 1) := by decide +kernel
theorem dX8_back_75 : decode cX8_back 75 = .ok (.iload_n 1, 1) := by decide +kernel
theorem dX8_back_76 : decode cX8_back 76 = .ok (.imul, 1) := by decide +kernel
theorem dX8_back_77 : decode cX8_back 77 = .ok (.iload_n 2, 1) := by decide +kernel
theorem dX8_back_78 : decode cX8_back 78 = .ok (.iadd, 1) := by decide +kernel
theorem dX8_back_79 : decode cX8_back 79 = .ok (.iaload, 1) := by decide +kernel
theorem dX8_back_80 : decode cX8_back 80 = .ok (.iastore, 1) := by decide +kernel
theorem dX8_back_81 : decode cX8_back 81 = .ok (.aload_n 0, 1) := by decide +kernel
theorem dX8_back_82 : decode cX8_back 82 = .ok (.getfield 26, 3) := by decide +kernel
theorem dX8_back_85 : decode cX8_back 85 = .ok (.iload_n 2, 1) := by decide +kernel
theorem dX8_back_86 : decode cX8_back 86 = .ok (.iconst 0, 1) := by decide +kernel
theorem dX8_back_87 : decode cX8_back 87 = .ok (.iastore, 1) := by decide +kernel
theorem dX8_back_88 : decode cX8_back 88 = .ok (.iinc 2 1, 3) := by decide +kernel
theorem dX8_back_91 : decode cX8_back 91 = .ok (.goto (-31), 3) := by decide +kernel
theorem dX8_back_94 : decode cX8_back 94 = .ok (.aload_n 0, 1) := by decide +kernel
theorem dX8_back_95 : decode cX8_back 95 = .ok (.invokevirtual 237, 3) := by decide +kernel
theorem dX8_back_98 : decode cX8_back 98 = .ok (.ireturn, 1) := by decide +kernel
theorem dX8_heard_0 : decode cX8_heard 0 = .ok (.iload_n 1, 1) := by decide +kernel
theorem dX8_heard_1 : decode cX8_heard 1 = .ok (.i2l, 1) := by decide +kernel
theorem dX8_heard_2 : decode cX8_heard 2 = .ok (.lconst 0, 1) := by decide +kernel
theorem dX8_heard_3 : decode cX8_heard 3 = .ok (.ldc2_w 201, 3) := by decide +kernel
theorem dX8_heard_6 : decode cX8_heard 6 = .ok (.invokestatic 62, 3) := by decide +kernel
theorem dX8_heard_9 : decode cX8_heard 9 = .ok (.ifCond .eq 15, 3) := by decide +kernel
theorem dX8_heard_12 : decode cX8_heard 12 = .ok (.aload_n 0, 1) := by decide +kernel
theorem dX8_heard_13 : decode cX8_heard 13 = .ok (.iload_n 1, 1) := by decide +kernel
theorem dX8_heard_14 : decode cX8_heard 14 = .ok (.invokevirtual 233, 3) := by decide +kernel
theorem dX8_heard_17 : decode cX8_heard 17 = .ok (.ldc 208, 2) := by decide +kernel
theorem dX8_heard_19 : decode cX8_heard 19 = .ok (.fmul, 1) := by decide +kernel
theorem dX8_heard_20 : decode cX8_heard 20 = .ok (.f2i, 1) := by decide +kernel
theorem dX8_heard_21 : decode cX8_heard 21 = .ok (.goto 5, 3) := by decide +kernel
theorem dX8_heard_24 : decode cX8_heard 24 = .ok (.ldc 190, 2) := by decide +kernel
theorem dX8_heard_26 : decode cX8_heard 26 = .ok (.ireturn, 1) := by decide +kernel
theorem dX8_exact_0 : decode cX8_exact 0 = .ok (.iload_n 1, 1) := by decide +kernel
theorem dX8_exact_1 : decode cX8_exact 1 = .ok (.i2l, 1) := by decide +kernel
theorem dX8_exact_2 : decode cX8_exact 2 = .ok (.lconst 0, 1) := by decide +kernel
theorem dX8_exact_3 : decode cX8_exact 3 = .ok (.ldc2_w 201, 3) := by decide +kernel
theorem dX8_exact_6 : decode cX8_exact 6 = .ok (.invokestatic 62, 3) := by decide +kernel
theorem dX8_exact_9 : decode cX8_exact 9 = .ok (.ifCond .eq 15, 3) := by decide +kernel
theorem dX8_exact_12 : decode cX8_exact 12 = .ok (.aload_n 0, 1) := by decide +kernel
theorem dX8_exact_13 : decode cX8_exact 13 = .ok (.iload_n 1, 1) := by decide +kernel
theorem dX8_exact_14 : decode cX8_exact 14 = .ok (.invokevirtual 233, 3) := by decide +kernel
theorem dX8_exact_17 : decode cX8_exact 17 = .ok (.invokestatic 209, 3) := by decide +kernel
theorem dX8_exact_20 : decode cX8_exact 20 = .ok (.i2l, 1) := by decide +kernel
theorem dX8_exact_21 : decode cX8_exact 21 = .ok (.goto 6, 3) := by decide +kernel
theorem dX8_exact_24 : decode cX8_exact 24 = .ok (.ldc2_w 241, 3) := by decide +kernel
theorem dX8_exact_27 : decode cX8_exact 27 = .ok (.lreturn, 1) := by decide +kernel
theorem dX8_sum_0 : decode cX8_sum 0 = .ok (.iload_n 1, 1) := by decide +kernel
theorem dX8_sum_1 : decode cX8_sum 1 = .ok (.i2l, 1) := by decide +kernel
theorem dX8_sum_2 : decode cX8_sum 2 = .ok (.lconst 0, 1) := by decide +kernel
theorem dX8_sum_3 : decode cX8_sum 3 = .ok (.ldc2_w 201, 3) := by decide +kernel
theorem dX8_sum_6 : decode cX8_sum 6 = .ok (.invokestatic 62, 3) := by decide +kernel
theorem dX8_sum_9 : decode cX8_sum 9 = .ok (.ifCond .eq 16, 3) := by decide +kernel
theorem dX8_sum_12 : decode cX8_sum 12 = .ok (.iload_n 2, 1) := by decide +kernel
theorem dX8_sum_13 : decode cX8_sum 13 = .ok (.i2l, 1) := by decide +kernel
theorem dX8_sum_14 : decode cX8_sum 14 = .ok (.iload_n 1, 1) := by decide +kernel
theorem dX8_sum_15 : decode cX8_sum 15 = .ok (.i2l, 1) := by decide +kernel
theorem dX8_sum_16 : decode cX8_sum 16 = .ok (.ldc2_w 201, 3) := by decide +kernel
theorem dX8_sum_19 : decode cX8_sum 19 = .ok (.invokestatic 62, 3) := by decide +kernel
theorem dX8_sum_22 : decode cX8_sum 22 = .ok (.ifCond .ne 7, 3) := by decide +kernel
theorem dX8_sum_25 : decode cX8_sum 25 = .ok (.ldc2_w 241, 3) := by decide +kernel
theorem dX8_sum_28 : decode cX8_sum 28 = .ok (.lreturn, 1) := by decide +kernel
theorem dX8_sum_29 : decode cX8_sum 29 = .ok (.dconst 0, 1) := by decide +kernel
theorem dX8_sum_30 : decode cX8_sum 30 = .ok (.dstore_n 3, 1) := by decide +kernel
theorem dX8_sum_31 : decode cX8_sum 31 = .ok (.iload_n 1, 1) := by decide +kernel
theorem dX8_sum_32 : decode cX8_sum 32 = .ok (.istore 5, 2) := by decide +kernel
theorem dX8_sum_34 : decode cX8_sum 34 = .ok (.iload 5, 2) := by decide +kernel
theorem dX8_sum_36 : decode cX8_sum 36 = .ok (.iload_n 2, 1) := by decide +kernel
theorem dX8_sum_37 : decode cX8_sum 37 = .ok (.if_icmp .gt 19, 3) := by decide +kernel
theorem dX8_sum_40 : decode cX8_sum 40 = .ok (.dload_n 3, 1) := by decide +kernel
theorem dX8_sum_41 : decode cX8_sum 41 = .ok (.aload_n 0, 1) := by decide +kernel
theorem dX8_sum_42 : decode cX8_sum 42 = .ok (.iload 5, 2) := by decide +kernel
theorem dX8_sum_44 : decode cX8_sum 44 = .ok (.invokevirtual 233, 3) := by decide +kernel
theorem dX8_sum_47 : decode cX8_sum 47 = .ok (.f2d, 1) := by decide +kernel
theorem dX8_sum_48 : decode cX8_sum 48 = .ok (.dadd, 1) := by decide +kernel
theorem dX8_sum_49 : decode cX8_sum 49 = .ok (.dstore_n 3, 1) := by decide +kernel
theorem dX8_sum_50 : decode cX8_sum 50 = .ok (.iinc 5 1, 3) := by decide +kernel
theorem dX8_sum_53 : decode cX8_sum 53 = .ok (.goto (-19), 3) := by decide +kernel
theorem dX8_sum_56 : decode cX8_sum 56 = .ok (.dload_n 3, 1) := by decide +kernel
theorem dX8_sum_57 : decode cX8_sum 57 = .ok (.invokestatic 243, 3) := by decide +kernel
theorem dX8_sum_60 : decode cX8_sum 60 = .ok (.lreturn, 1) := by decide +kernel
theorem dX8_played_0 : decode cX8_played 0 = .ok (.iload_n 1, 1) := by decide +kernel
theorem dX8_played_1 : decode cX8_played 1 = .ok (.invokestatic 66, 3) := by decide +kernel
theorem dX8_played_4 : decode cX8_played 4 = .ok (.ifCond .ne 6, 3) := by decide +kernel
theorem dX8_played_7 : decode cX8_played 7 = .ok (.ldc 207, 2) := by decide +kernel
theorem dX8_played_9 : decode cX8_played 9 = .ok (.ireturn, 1) := by decide +kernel
theorem dX8_played_10 : decode cX8_played 10 = .ok (.iload_n 2, 1) := by decide +kernel
theorem dX8_played_11 : decode cX8_played 11 = .ok (.i2l, 1) := by decide +kernel
theorem dX8_played_12 : decode cX8_played 12 = .ok (.lconst 0, 1) := by decide +kernel
theorem dX8_played_13 : decode cX8_played 13 = .ok (.ldc2_w 201, 3) := by decide +kernel
theorem dX8_played_16 : decode cX8_played 16 = .ok (.invokestatic 62, 3) := by decide +kernel
theorem dX8_played_19 : decode cX8_played 19 = .ok (.ifCond .eq 16, 3) := by decide +kernel
theorem dX8_played_22 : decode cX8_played 22 = .ok (.aload_n 0, 1) := by decide +kernel
theorem dX8_played_23 : decode cX8_played 23 = .ok (.iload_n 1, 1) := by decide +kernel
theorem dX8_played_24 : decode cX8_played 24 = .ok (.iload_n 2, 1) := by decide +kernel
theorem dX8_played_25 : decode cX8_played 25 = .ok (.invokevirtual 203, 3) := by decide +kernel
theorem dX8_played_28 : decode cX8_played 28 = .ok (.ldc 208, 2) := by decide +kernel
theorem dX8_played_30 : decode cX8_played 30 = .ok (.fmul, 1) := by decide +kernel
theorem dX8_played_31 : decode cX8_played 31 = .ok (.f2i, 1) := by decide +kernel
theorem dX8_played_32 : decode cX8_played 32 = .ok (.goto 5, 3) := by decide +kernel
theorem dX8_played_35 : decode cX8_played 35 = .ok (.ldc 190, 2) := by decide +kernel
theorem dX8_played_37 : decode cX8_played 37 = .ok (.ireturn, 1) := by decide +kernel
theorem dX8_covers_0 : decode cX8_covers 0 = .ok (.iload_n 1, 1) := by decide +kernel
theorem dX8_covers_1 : decode cX8_covers 1 = .ok (.invokestatic 66, 3) := by decide +kernel
theorem dX8_covers_4 : decode cX8_covers 4 = .ok (.ifCond .ne 6, 3) := by decide +kernel
theorem dX8_covers_7 : decode cX8_covers 7 = .ok (.ldc 207, 2) := by decide +kernel
theorem dX8_covers_9 : decode cX8_covers 9 = .ok (.ireturn, 1) := by decide +kernel
theorem dX8_covers_10 : decode cX8_covers 10 = .ok (.iload_n 2, 1) := by decide +kernel
theorem dX8_covers_11 : decode cX8_covers 11 = .ok (.i2l, 1) := by decide +kernel
theorem dX8_covers_12 : decode cX8_covers 12 = .ok (.lconst 1, 1) := by decide +kernel
theorem dX8_covers_13 : decode cX8_covers 13 = .ok (.ldc2_w 222, 3) := by decide +kernel
theorem dX8_covers_16 : decode cX8_covers 16 = .ok (.invokestatic 62, 3) := by decide +kernel
theorem dX8_covers_19 : decode cX8_covers 19 = .ok (.ifCond .eq 18, 3) := by decide +kernel
theorem dX8_covers_22 : decode cX8_covers 22 = .ok (.iload_n 3, 1) := by decide +kernel
theorem dX8_covers_23 : decode cX8_covers 23 = .ok (.i2l, 1) := by decide +kernel
theorem dX8_covers_24 : decode cX8_covers 24 = .ok (.lconst 0, 1) := by decide +kernel
theorem dX8_covers_25 : decode cX8_covers 25 = .ok (.sipush 128, 3) := by decide +kernel
theorem dX8_covers_28 : decode cX8_covers 28 = .ok (.iload_n 2, 1) := by decide +kernel
theorem dX8_covers_29 : decode cX8_covers 29 = .ok (.isub, 1) := by decide +kernel
theorem dX8_covers_30 : decode cX8_covers 30 = .ok (.i2l, 1) := by decide +kernel
theorem dX8_covers_31 : decode cX8_covers 31 = .ok (.invokestatic 62, 3) := by decide +kernel
theorem dX8_covers_34 : decode cX8_covers 34 = .ok (.ifCond .ne 6, 3) := by decide +kernel
theorem dX8_covers_37 : decode cX8_covers 37 = .ok (.ldc 190, 2) := by decide +kernel
theorem dX8_covers_39 : decode cX8_covers 39 = .ok (.ireturn, 1) := by decide +kernel
theorem dX8_covers_40 : decode cX8_covers 40 = .ok (.iconst 0, 1) := by decide +kernel
theorem dX8_covers_41 : decode cX8_covers 41 = .ok (.istore 4, 2) := by decide +kernel
theorem dX8_covers_43 : decode cX8_covers 43 = .ok (.iload_n 3, 1) := by decide +kernel
theorem dX8_covers_44 : decode cX8_covers 44 = .ok (.istore 5, 2) := by decide +kernel
theorem dX8_covers_46 : decode cX8_covers 46 = .ok (.iload 5, 2) := by decide +kernel
theorem dX8_covers_48 : decode cX8_covers 48 = .ok (.iload_n 3, 1) := by decide +kernel
theorem dX8_covers_49 : decode cX8_covers 49 = .ok (.iload_n 2, 1) := by decide +kernel
theorem dX8_covers_50 : decode cX8_covers 50 = .ok (.iadd, 1) := by decide +kernel
theorem dX8_covers_51 : decode cX8_covers 51 = .ok (.if_icmp .ge 30, 3) := by decide +kernel
theorem dX8_covers_54 : decode cX8_covers 54 = .ok (.iload 4, 2) := by decide +kernel
theorem dX8_covers_56 : decode cX8_covers 56 = .ok (.aload_n 0, 1) := by decide +kernel
theorem dX8_covers_57 : decode cX8_covers 57 = .ok (.iload_n 1, 1) := by decide +kernel
theorem dX8_covers_58 : decode cX8_covers 58 = .ok (.iload 5, 2) := by decide +kernel
theorem dX8_covers_60 : decode cX8_covers 60 = .ok (.invokevirtual 197, 3) := by decide +kernel
theorem dX8_covers_63 : decode cX8_covers 63 = .ok (.iconst (-1), 1) := by decide +kernel
theorem dX8_covers_64 : decode cX8_covers 64 = .ok (.if_icmp .eq 7, 3) := by decide +kernel
theorem dX8_covers_67 : decode cX8_covers 67 = .ok (.iconst 1, 1) := by decide +kernel
theorem dX8_covers_68 : decode cX8_covers 68 = .ok (.goto 4, 3) := by decide +kernel
theorem dX8_covers_71 : decode cX8_covers 71 = .ok (.iconst 0, 1) := by decide +kernel
theorem dX8_covers_72 : decode cX8_covers 72 = .ok (.iadd, 1) := by decide +kernel
theorem dX8_covers_73 : decode cX8_covers 73 = .ok (.istore 4, 2) := by decide +kernel
theorem dX8_covers_75 : decode cX8_covers 75 = .ok (.iinc 5 1, 3) := by decide +kernel
theorem dX8_covers_78 : decode cX8_covers 78 = .ok (.goto (-32), 3) := by decide +kernel
theorem dX8_covers_81 : decode cX8_covers 81 = .ok (.iload 4, 2) := by decide +kernel
theorem dX8_covers_83 : decode cX8_covers 83 = .ok (.ireturn, 1) := by decide +kernel
theorem dX8_isRack_0 : decode cX8_isRack 0 = .ok (.iload_n 0, 1) := by decide +kernel
theorem dX8_isRack_1 : decode cX8_isRack 1 = .ok (.i2l, 1) := by decide +kernel
theorem dX8_isRack_2 : decode cX8_isRack 2 = .ok (.lconst 0, 1) := by decide +kernel
theorem dX8_isRack_3 : decode cX8_isRack 3 = .ok (.ldc2_w 249, 3) := by decide +kernel
theorem dX8_isRack_6 : decode cX8_isRack 6 = .ok (.invokestatic 62, 3) := by decide +kernel
theorem dX8_isRack_9 : decode cX8_isRack 9 = .ok (.ireturn, 1) := by decide +kernel
theorem dX8_thingsOn_0 : decode cX8_thingsOn 0 = .ok (.iconst 0, 1) := by decide +kernel
theorem dX8_thingsOn_1 : decode cX8_thingsOn 1 = .ok (.istore_n 2, 1) := by decide +kernel
theorem dX8_thingsOn_2 : decode cX8_thingsOn 2 = .ok (.iconst 0, 1) := by decide +kernel
theorem dX8_thingsOn_3 : decode cX8_thingsOn 3 = .ok (.istore_n 3, 1) := by decide +kernel
theorem dX8_thingsOn_4 : decode cX8_thingsOn 4 = .ok (.iload_n 3, 1) := by decide +kernel
theorem dX8_thingsOn_5 : decode cX8_thingsOn 5 = .ok (.bipush 8, 2) := by decide +kernel
theorem dX8_thingsOn_7 : decode cX8_thingsOn 7 = .ok (.if_icmp .ge 51, 3) := by decide +kernel
theorem dX8_thingsOn_10 : decode cX8_thingsOn 10 = .ok (.iload_n 2, 1) := by decide +kernel
theorem dX8_thingsOn_11 : decode cX8_thingsOn 11 = .ok (.aload_n 0, 1) := by decide +kernel
theorem dX8_thingsOn_12 : decode cX8_thingsOn 12 = .ok (.getfield 51, 3) := by decide +kernel
theorem dX8_thingsOn_15 : decode cX8_thingsOn 15 = .ok (.iload_n 1, 1) := by decide +kernel
theorem dX8_thingsOn_16 : decode cX8_thingsOn 16 = .ok (.iaload, 1) := by decide +kernel
theorem dX8_thingsOn_17 : decode cX8_thingsOn 17 = .ok (.iconst (-1), 1) := by decide +kernel
theorem dX8_thingsOn_18 : decode cX8_thingsOn 18 = .ok (.if_icmp .eq 31, 3) := by decide +kernel
theorem dX8_thingsOn_21 : decode cX8_thingsOn 21 = .ok (.iload_n 3, 1) := by decide +kernel
theorem dX8_thingsOn_22 : decode cX8_thingsOn 22 = .ok (.aload_n 0, 1) := by decide +kernel
theorem dX8_thingsOn_23 : decode cX8_thingsOn 23 = .ok (.getfield 54, 3) := by decide +kernel
theorem dX8_thingsOn_26 : decode cX8_thingsOn 26 = .ok (.iload_n 1, 1) := by decide +kernel
theorem dX8_thingsOn_27 : decode cX8_thingsOn 27 = .ok (.iaload, 1) := by decide +kernel
theorem dX8_thingsOn_28 : decode cX8_thingsOn 28 = .ok (.if_icmp .ge 21, 3) := by decide +kernel
theorem dX8_thingsOn_31 : decode cX8_thingsOn 31 = .ok (.aload_n 0, 1) := by decide +kernel
theorem dX8_thingsOn_32 : decode cX8_thingsOn 32 = .ok (.getfield 57, 3) := by decide +kernel
theorem dX8_thingsOn_35 : decode cX8_thingsOn 35 = .ok (.bipush 8, 2) := by decide +kernel
theorem dX8_thingsOn_37 : decode cX8_thingsOn 37 = .ok (.iload_n 1, 1) := by decide +kernel
theorem dX8_thingsOn_38 : decode cX8_thingsOn 38 = .ok (.imul, 1) := by decide +kernel
theorem dX8_thingsOn_39 : decode cX8_thingsOn 39 = .ok (.iload_n 3, 1) := by decide +kernel
theorem dX8_thingsOn_40 : decode cX8_thingsOn 40 = .ok (.iadd, 1) := by decide +kernel
theorem dX8_thingsOn_41 : decode cX8_thingsOn 41 = .ok (.iaload, 1) := by decide +kernel
theorem dX8_thingsOn_42 : decode cX8_thingsOn 42 = .ok (.ifCond .le 7, 3) := by decide +kernel
theorem dX8_thingsOn_45 : decode cX8_thingsOn 45 = .ok (.iconst 1, 1) := by decide +kernel
theorem dX8_thingsOn_46 : decode cX8_thingsOn 46 = .ok (.goto 4, 3) := by decide +kernel
theorem dX8_thingsOn_49 : decode cX8_thingsOn 49 = .ok (.iconst 0, 1) := by decide +kernel
theorem dX8_thingsOn_50 : decode cX8_thingsOn 50 = .ok (.iadd, 1) := by decide +kernel
theorem dX8_thingsOn_51 : decode cX8_thingsOn 51 = .ok (.istore_n 2, 1) := by decide +kernel
theorem dX8_thingsOn_52 : decode cX8_thingsOn 52 = .ok (.iinc 3 1, 3) := by decide +kernel
theorem dX8_thingsOn_55 : decode cX8_thingsOn 55 = .ok (.goto (-51), 3) := by decide +kernel
theorem dX8_thingsOn_58 : decode cX8_thingsOn 58 = .ok (.iload_n 2, 1) := by decide +kernel
theorem dX8_thingsOn_59 : decode cX8_thingsOn 59 = .ok (.ireturn, 1) := by decide +kernel
theorem dX8_rack_0 : decode cX8_rack 0 = .ok (.iload_n 1, 1) := by decide +kernel
theorem dX8_rack_1 : decode cX8_rack 1 = .ok (.invokestatic 251, 3) := by decide +kernel
theorem dX8_rack_4 : decode cX8_rack 4 = .ok (.ifCond .ne 6, 3) := by decide +kernel
theorem dX8_rack_7 : decode cX8_rack 7 = .ok (.ldc 207, 2) := by decide +kernel
theorem dX8_rack_9 : decode cX8_rack 9 = .ok (.ireturn, 1) := by decide +kernel
theorem dX8_rack_10 : decode cX8_rack 10 = .ok (.iload_n 2, 1) := by decide +kernel
theorem dX8_rack_11 : decode cX8_rack 11 = .ok (.i2l, 1) := by decide +kernel
theorem dX8_rack_12 : decode cX8_rack 12 = .ok (.lconst 0, 1) := by decide +kernel
theorem dX8_rack_13 : decode cX8_rack 13 = .ok (.ldc2_w 249, 3) := by decide +kernel
theorem dX8_rack_16 : decode cX8_rack 16 = .ok (.invokestatic 62, 3) := by decide +kernel
theorem dX8_rack_19 : decode cX8_rack 19 = .ok (.ifCond .eq 9, 3) := by decide +kernel
theorem dX8_rack_22 : decode cX8_rack 22 = .ok (.iload_n 3, 1) := by decide +kernel
theorem dX8_rack_23 : decode cX8_rack 23 = .ok (.bipush 8, 2) := by decide +kernel
theorem dX8_rack_25 : decode cX8_rack 25 = .ok (.if_icmp .le 6, 3) := by decide +kernel
theorem dX8_rack_28 : decode cX8_rack 28 = .ok (.ldc 190, 2) := by decide +kernel
theorem dX8_rack_30 : decode cX8_rack 30 = .ok (.ireturn, 1) := by decide +kernel
theorem dX8_rack_31 : decode cX8_rack 31 = .ok (.iload_n 3, 1) := by decide +kernel
theorem dX8_rack_32 : decode cX8_rack 32 = .ok (.ifCond .ge 6, 3) := by decide +kernel
theorem dX8_rack_35 : decode cX8_rack 35 = .ok (.ldc 254, 2) := by decide +kernel
theorem dX8_rack_37 : decode cX8_rack 37 = .ok (.ireturn, 1) := by decide +kernel
theorem dX8_rack_38 : decode cX8_rack 38 = .ok (.aload_n 0, 1) := by decide +kernel
theorem dX8_rack_39 : decode cX8_rack 39 = .ok (.getfield 51, 3) := by decide +kernel
theorem dX8_rack_42 : decode cX8_rack 42 = .ok (.iload_n 1, 1) := by decide +kernel
theorem dX8_rack_43 : decode cX8_rack 43 = .ok (.iload_n 2, 1) := by decide +kernel
theorem dX8_rack_44 : decode cX8_rack 44 = .ok (.iastore, 1) := by decide +kernel
theorem dX8_rack_45 : decode cX8_rack 45 = .ok (.aload_n 0, 1) := by decide +kernel
theorem dX8_rack_46 : decode cX8_rack 46 = .ok (.getfield 54, 3) := by decide +kernel
theorem dX8_rack_49 : decode cX8_rack 49 = .ok (.iload_n 1, 1) := by decide +kernel
theorem dX8_rack_50 : decode cX8_rack 50 = .ok (.iload_n 3, 1) := by decide +kernel
theorem dX8_rack_51 : decode cX8_rack 51 = .ok (.iastore, 1) := by decide +kernel
theorem dX8_rack_52 : decode cX8_rack 52 = .ok (.iconst 0, 1) := by decide +kernel
theorem dX8_rack_53 : decode cX8_rack 53 = .ok (.istore 4, 2) := by decide +kernel
theorem dX8_rack_55 : decode cX8_rack 55 = .ok (.iload 4, 2) := by decide +kernel
theorem dX8_rack_57 : decode cX8_rack 57 = .ok (.bipush 8, 2) := by decide +kernel
theorem dX8_rack_59 : decode cX8_rack 59 = .ok (.if_icmp .ge 22, 3) := by decide +kernel
theorem dX8_rack_62 : decode cX8_rack 62 = .ok (.aload_n 0, 1) := by decide +kernel
theorem dX8_rack_63 : decode cX8_rack 63 = .ok (.getfield 57, 3) := by decide +kernel
theorem dX8_rack_66 : decode cX8_rack 66 = .ok (.bipush 8, 2) := by decide +kernel
theorem dX8_rack_68 : decode cX8_rack 68 = .ok (.iload_n 1, 1) := by decide +kernel
theorem dX8_rack_69 : decode cX8_rack 69 = .ok (.imul, 1) := by decide +kernel
theorem dX8_rack_70 : decode cX8_rack 70 = .ok (.iload 4, 2) := by decide +kernel
theorem dX8_rack_72 : decode cX8_rack 72 = .ok (.iadd, 1) := by decide +kernel
theorem dX8_rack_73 : decode cX8_rack 73 = .ok (.iconst 0, 1) := by decide +kernel
theorem dX8_rack_74 : decode cX8_rack 74 = .ok (.iastore, 1) := by decide +kernel
theorem dX8_rack_75 : decode cX8_rack 75 = .ok (.iinc 4 1, 3) := by decide +kernel
theorem dX8_rack_78 : decode cX8_rack 78 = .ok (.goto (-23), 3) := by decide +kernel
theorem dX8_rack_81 : decode cX8_rack 81 = .ok (.iload_n 3, 1) := by decide +kernel
theorem dX8_rack_82 : decode cX8_rack 82 = .ok (.ireturn, 1) := by decide +kernel
theorem dX8_isFor_0 : decode cX8_isFor 0 = .ok (.aload_n 0, 1) := by decide +kernel
theorem dX8_isFor_1 : decode cX8_isFor 1 = .ok (.getfield 51, 3) := by decide +kernel
theorem dX8_isFor_4 : decode cX8_isFor 4 = .ok (.iload_n 1, 1) := by decide +kernel
theorem dX8_isFor_5 : decode cX8_isFor 5 = .ok (.iaload, 1) := by decide +kernel
theorem dX8_isFor_6 : decode cX8_isFor 6 = .ok (.ifCond .eq 23, 3) := by decide +kernel
theorem dX8_isFor_9 : decode cX8_isFor 9 = .ok (.aload_n 0, 1) := by decide +kernel
theorem dX8_isFor_10 : decode cX8_isFor 10 = .ok (.getfield 51, 3) := by decide +kernel
theorem dX8_isFor_13 : decode cX8_isFor 13 = .ok (.iload_n 1, 1) := by decide +kernel
theorem dX8_isFor_14 : decode cX8_isFor 14 = .ok (.iaload, 1) := by decide +kernel
theorem dX8_isFor_15 : decode cX8_isFor 15 = .ok (.iload_n 2, 1) := by decide +kernel
theorem dX8_isFor_16 : decode cX8_isFor 16 = .ok (.bipush 100, 2) := by decide +kernel
theorem dX8_isFor_18 : decode cX8_isFor 18 = .ok (.if_icmp .le 7, 3) := by decide +kernel
theorem dX8_isFor_21 : decode cX8_isFor 21 = .ok (.iconst 2, 1) := by decide +kernel
theorem dX8_isFor_22 : decode cX8_isFor 22 = .ok (.goto 4, 3) := by decide +kernel
theorem dX8_isFor_25 : decode cX8_isFor 25 = .ok (.iconst 1, 1) := by decide +kernel
theorem dX8_isFor_26 : decode cX8_isFor 26 = .ok (.if_icmp .ne 7, 3) := by decide +kernel
theorem dX8_isFor_29 : decode cX8_isFor 29 = .ok (.iconst 1, 1) := by decide +kernel
theorem dX8_isFor_30 : decode cX8_isFor 30 = .ok (.goto 4, 3) := by decide +kernel
theorem dX8_isFor_33 : decode cX8_isFor 33 = .ok (.iconst 0, 1) := by decide +kernel
theorem dX8_isFor_34 : decode cX8_isFor 34 = .ok (.ireturn, 1) := by decide +kernel
theorem dX8_hang_0 : decode cX8_hang 0 = .ok (.iload_n 1, 1) := by decide +kernel
theorem dX8_hang_1 : decode cX8_hang 1 = .ok (.invokestatic 251, 3) := by decide +kernel
theorem dX8_hang_4 : decode cX8_hang 4 = .ok (.ifCond .ne 6, 3) := by decide +kernel
theorem dX8_hang_7 : decode cX8_hang 7 = .ok (.ldc 207, 2) := by decide +kernel
theorem dX8_hang_9 : decode cX8_hang 9 = .ok (.ireturn, 1) := by decide +kernel
theorem dX8_hang_10 : decode cX8_hang 10 = .ok (.iload_n 3, 1) := by decide +kernel
theorem dX8_hang_11 : decode cX8_hang 11 = .ok (.i2l, 1) := by decide +kernel
theorem dX8_hang_12 : decode cX8_hang 12 = .ok (.lconst 1, 1) := by decide +kernel
theorem dX8_hang_13 : decode cX8_hang 13 = .ok (.ldc2_w 249, 3) := by decide +kernel
theorem dX8_hang_16 : decode cX8_hang 16 = .ok (.invokestatic 62, 3) := by decide +kernel
theorem dX8_hang_19 : decode cX8_hang 19 = .ok (.ifCond .eq 16, 3) := by decide +kernel
theorem dX8_hang_22 : decode cX8_hang 22 = .ok (.iload 4, 2) := by decide +kernel
theorem dX8_hang_24 : decode cX8_hang 24 = .ok (.i2l, 1) := by decide +kernel
theorem dX8_hang_25 : decode cX8_hang 25 = .ok (.lconst 0, 1) := by decide +kernel
theorem dX8_hang_26 : decode cX8_hang 26 = .ok (.ldc2_w 255, 3) := by decide +kernel
theorem dX8_hang_29 : decode cX8_hang 29 = .ok (.invokestatic 62, 3) := by decide +kernel
theorem dX8_hang_32 : decode cX8_hang 32 = .ok (.ifCond .ne 6, 3) := by decide +kernel
theorem dX8_hang_35 : decode cX8_hang 35 = .ok (.ldc 190, 2) := by decide +kernel
theorem dX8_hang_37 : decode cX8_hang 37 = .ok (.ireturn, 1) := by decide +kernel
theorem dX8_hang_38 : decode cX8_hang 38 = .ok (.aload_n 0, 1) := by decide +kernel
theorem dX8_hang_39 : decode cX8_hang 39 = .ok (.getfield 51, 3) := by decide +kernel
theorem dX8_hang_42 : decode cX8_hang 42 = .ok (.iload_n 1, 1) := by decide +kernel
theorem dX8_hang_43 : decode cX8_hang 43 = .ok (.iaload, 1) := by decide +kernel
theorem dX8_hang_44 : decode cX8_hang 44 = .ok (.iconst (-1), 1) := by decide +kernel
theorem dX8_hang_45 : decode cX8_hang 45 = .ok (.if_icmp .ne 7, 3) := by decide +kernel
theorem dX8_hang_48 : decode cX8_hang 48 = .ok (.ldc_w 257, 3) := by decide +kernel
theorem dX8_hang_51 : decode cX8_hang 51 = .ok (.ireturn, 1) := by decide +kernel
theorem dX8_hang_52 : decode cX8_hang 52 = .ok (.iload_n 2, 1) := by decide +kernel
theorem dX8_hang_53 : decode cX8_hang 53 = .ok (.i2l, 1) := by decide +kernel
theorem dX8_hang_54 : decode cX8_hang 54 = .ok (.lconst 0, 1) := by decide +kernel
theorem dX8_hang_55 : decode cX8_hang 55 = .ok (.aload_n 0, 1) := by decide +kernel
theorem dX8_hang_56 : decode cX8_hang 56 = .ok (.getfield 54, 3) := by decide +kernel
theorem dX8_hang_59 : decode cX8_hang 59 = .ok (.iload_n 1, 1) := by decide +kernel
theorem dX8_hang_60 : decode cX8_hang 60 = .ok (.iaload, 1) := by decide +kernel
theorem dX8_hang_61 : decode cX8_hang 61 = .ok (.iconst 1, 1) := by decide +kernel
theorem dX8_hang_62 : decode cX8_hang 62 = .ok (.isub, 1) := by decide +kernel
theorem dX8_hang_63 : decode cX8_hang 63 = .ok (.i2l, 1) := by decide +kernel
theorem dX8_hang_64 : decode cX8_hang 64 = .ok (.invokestatic 62, 3) := by decide +kernel
theorem dX8_hang_67 : decode cX8_hang 67 = .ok (.ifCond .ne 7, 3) := by decide +kernel
theorem dX8_hang_70 : decode cX8_hang 70 = .ok (.ldc_w 258, 3) := by decide +kernel
theorem dX8_hang_73 : decode cX8_hang 73 = .ok (.ireturn, 1) := by decide +kernel
theorem dX8_hang_74 : decode cX8_hang 74 = .ok (.iload_n 3, 1) := by decide +kernel
theorem dX8_hang_75 : decode cX8_hang 75 = .ok (.iconst 1, 1) := by decide +kernel
theorem dX8_hang_76 : decode cX8_hang 76 = .ok (.if_icmp .ne 10, 3) := by decide +kernel
theorem dX8_hang_79 : decode cX8_hang 79 = .ok (.iconst 1, 1) := by decide +kernel
theorem dX8_hang_80 : decode cX8_hang 80 = .ok (.iload 4, 2) := by decide +kernel
theorem dX8_hang_82 : decode cX8_hang 82 = .ok (.iadd, 1) := by decide +kernel
theorem dX8_hang_83 : decode cX8_hang 83 = .ok (.goto 8, 3) := by decide +kernel
theorem dX8_hang_86 : decode cX8_hang 86 = .ok (.bipush 101, 2) := by decide +kernel
theorem dX8_hang_88 : decode cX8_hang 88 = .ok (.iload 4, 2) := by decide +kernel
theorem dX8_hang_90 : decode cX8_hang 90 = .ok (.iadd, 1) := by decide +kernel
theorem dX8_hang_91 : decode cX8_hang 91 = .ok (.istore 5, 2) := by decide +kernel
theorem dX8_hang_93 : decode cX8_hang 93 = .ok (.aload_n 0, 1) := by decide +kernel
theorem dX8_hang_94 : decode cX8_hang 94 = .ok (.iload_n 1, 1) := by decide +kernel
theorem dX8_hang_95 : decode cX8_hang 95 = .ok (.iload 5, 2) := by decide +kernel
theorem dX8_hang_97 : decode cX8_hang 97 = .ok (.invokevirtual 259, 3) := by decide +kernel
