theorem dX0_init_0 : decode cX0_init 0 = .ok (.aload_n 0, 1) := by decide +kernel
theorem dX0_init_1 : decode cX0_init 1 = .ok (.invokespecial 3, 3) := by decide +kernel
theorem dX0_init_4 : decode cX0_init 4 = .ok (.aload_n 0, 1) := by decide +kernel
theorem dX0_init_5 : decode cX0_init 5 = .ok (.bipush 8, 2) := by decide +kernel
theorem dX0_init_7 : decode cX0_init 7 = .ok (.newarray .int, 2) := by decide +kernel
theorem dX0_init_9 : decode cX0_init 9 = .ok (.putfield 9, 3) := by decide +kernel
theorem dX0_init_12 : decode cX0_init 12 = .ok (.aload_n 0, 1) := by decide +kernel
theorem dX0_init_13 : decode cX0_init 13 = .ok (.bipush 8, 2) := by decide +kernel
theorem dX0_init_15 : decode cX0_init 15 = .ok (.newarray .int, 2) := by decide +kernel
theorem dX0_init_17 : decode cX0_init 17 = .ok (.putfield 15, 3) := by decide +kernel
theorem dX0_init_20 : decode cX0_init 20 = .ok (.aload_n 0, 1) := by decide +kernel
theorem dX0_init_21 : decode cX0_init 21 = .ok (.iconst 1, 1) := by decide +kernel
theorem dX0_init_22 : decode cX0_init 22 = .ok (.putfield 18, 3) := by decide +kernel
theorem dX0_init_25 : decode cX0_init 25 = .ok (.aload_n 0, 1) := by decide +kernel
theorem dX0_init_26 : decode cX0_init 26 = .ok (.iconst 0, 1) := by decide +kernel
theorem dX0_init_27 : decode cX0_init 27 = .ok (.putfield 22, 3) := by decide +kernel
theorem dX0_init_30 : decode cX0_init 30 = .ok (.aload_n 0, 1) := by decide +kernel
theorem dX0_init_31 : decode cX0_init 31 = .ok (.iconst 0, 1) := by decide +kernel
theorem dX0_init_32 : decode cX0_init 32 = .ok (.putfield 26, 3) := by decide +kernel
theorem dX0_init_35 : decode cX0_init 35 = .ok (.return_, 1) := by decide +kernel
theorem dX0_makeAnew_0 : decode cX0_makeAnew 0 = .ok (.aload_n 0, 1) := by decide +kernel
theorem dX0_makeAnew_1 : decode cX0_makeAnew 1 = .ok (.iconst 0, 1) := by decide +kernel
theorem dX0_makeAnew_2 : decode cX0_makeAnew 2 = .ok (.putfield 18, 3) := by decide +kernel
theorem dX0_makeAnew_5 : decode cX0_makeAnew 5 = .ok (.aload_n 0, 1) := by decide +kernel
theorem dX0_makeAnew_6 : decode cX0_makeAnew 6 = .ok (.iload_n 1, 1) := by decide +kernel
theorem dX0_makeAnew_7 : decode cX0_makeAnew 7 = .ok (.putfield 22, 3) := by decide +kernel
theorem dX0_makeAnew_10 : decode cX0_makeAnew 10 = .ok (.aload_n 0, 1) := by decide +kernel
theorem dX0_makeAnew_11 : decode cX0_makeAnew 11 = .ok (.iload_n 2, 1) := by decide +kernel
theorem dX0_makeAnew_12 : decode cX0_makeAnew 12 = .ok (.putfield 26, 3) := by decide +kernel
theorem dX0_makeAnew_15 : decode cX0_makeAnew 15 = .ok (.iconst 0, 1) := by decide +kernel
theorem dX0_makeAnew_16 : decode cX0_makeAnew 16 = .ok (.istore_n 3, 1) := by decide +kernel
theorem dX0_makeAnew_17 : decode cX0_makeAnew 17 = .ok (.iload_n 3, 1) := by decide +kernel
theorem dX0_makeAnew_18 : decode cX0_makeAnew 18 = .ok (.bipush 8, 2) := by decide +kernel
theorem dX0_makeAnew_20 : decode cX0_makeAnew 20 = .ok (.if_icmp .ge 16, 3) := by decide +kernel
theorem dX0_makeAnew_23 : decode cX0_makeAnew 23 = .ok (.aload_n 0, 1) := by decide +kernel
theorem dX0_makeAnew_24 : decode cX0_makeAnew 24 = .ok (.getfield 9, 3) := by decide +kernel
theorem dX0_makeAnew_27 : decode cX0_makeAnew 27 = .ok (.iload_n 3, 1) := by decide +kernel
theorem dX0_makeAnew_28 : decode cX0_makeAnew 28 = .ok (.iconst 0, 1) := by decide +kernel
theorem dX0_makeAnew_29 : decode cX0_makeAnew 29 = .ok (.iastore, 1) := by decide +kernel
theorem dX0_makeAnew_30 : decode cX0_makeAnew 30 = .ok (.iinc 3 1, 3) := by decide +kernel
theorem dX0_makeAnew_33 : decode cX0_makeAnew 33 = .ok (.goto (-16), 3) := by decide +kernel
theorem dX0_makeAnew_36 : decode cX0_makeAnew 36 = .ok (.return_, 1) := by decide +kernel
theorem dX0_things_0 : decode cX0_things 0 = .ok (.aload_n 0, 1) := by decide +kernel
theorem dX0_things_1 : decode cX0_things 1 = .ok (.getfield 18, 3) := by decide +kernel
theorem dX0_things_4 : decode cX0_things 4 = .ok (.ifCond .eq 5, 3) := by decide +kernel
theorem dX0_things_7 : decode cX0_things 7 = .ok (.iconst 0, 1) := by decide +kernel
theorem dX0_things_8 : decode cX0_things 8 = .ok (.ireturn, 1) := by decide +kernel
theorem dX0_things_9 : decode cX0_things 9 = .ok (.iconst 0, 1) := by decide +kernel
theorem dX0_things_10 : decode cX0_things 10 = .ok (.istore_n 1, 1) := by decide +kernel
theorem dX0_things_11 : decode cX0_things 11 = .ok (.iconst 0, 1) := by decide +kernel
theorem dX0_things_12 : decode cX0_things 12 = .ok (.istore_n 2, 1) := by decide +kernel
theorem dX0_things_13 : decode cX0_things 13 = .ok (.iload_n 2, 1) := by decide +kernel
theorem dX0_things_14 : decode cX0_things 14 = .ok (.aload_n 0, 1) := by decide +kernel
theorem dX0_things_15 : decode cX0_things 15 = .ok (.getfield 26, 3) := by decide +kernel
theorem dX0_things_18 : decode cX0_things 18 = .ok (.if_icmp .ge 21, 3) := by decide +kernel
theorem dX0_things_21 : decode cX0_things 21 = .ok (.aload_n 0, 1) := by decide +kernel
theorem dX0_things_22 : decode cX0_things 22 = .ok (.getfield 9, 3) := by decide +kernel
theorem dX0_things_25 : decode cX0_things 25 = .ok (.iload_n 2, 1) := by decide +kernel
theorem dX0_things_26 : decode cX0_things 26 = .ok (.iaload, 1) := by decide +kernel
theorem dX0_things_27 : decode cX0_things 27 = .ok (.ifCond .eq 6, 3) := by decide +kernel
theorem dX0_things_30 : decode cX0_things 30 = .ok (.iinc 1 1, 3) := by decide +kernel
theorem dX0_things_33 : decode cX0_things 33 = .ok (.iinc 2 1, 3) := by decide +kernel
theorem dX0_things_36 : decode cX0_things 36 = .ok (.goto (-23), 3) := by decide +kernel
theorem dX0_things_39 : decode cX0_things 39 = .ok (.iload_n 1, 1) := by decide +kernel
theorem dX0_things_40 : decode cX0_things 40 = .ok (.ireturn, 1) := by decide +kernel
theorem dX0_findAt_0 : decode cX0_findAt 0 = .ok (.aload_n 0, 1) := by decide +kernel
theorem dX0_findAt_1 : decode cX0_findAt 1 = .ok (.getfield 18, 3) := by decide +kernel
theorem dX0_findAt_4 : decode cX0_findAt 4 = .ok (.ifCond .eq 6, 3) := by decide +kernel
theorem dX0_findAt_7 : decode cX0_findAt 7 = .ok (.ldc 29, 2) := by decide +kernel
theorem dX0_findAt_9 : decode cX0_findAt 9 = .ok (.ireturn, 1) := by decide +kernel
theorem dX0_findAt_10 : decode cX0_findAt 10 = .ok (.iload_n 1, 1) := by decide +kernel
theorem dX0_findAt_11 : decode cX0_findAt 11 = .ok (.iconst 0, 1) := by decide +kernel
theorem dX0_findAt_12 : decode cX0_findAt 12 = .ok (.aload_n 0, 1) := by decide +kernel
theorem dX0_findAt_13 : decode cX0_findAt 13 = .ok (.getfield 26, 3) := by decide +kernel
theorem dX0_findAt_16 : decode cX0_findAt 16 = .ok (.iconst 1, 1) := by decide +kernel
theorem dX0_findAt_17 : decode cX0_findAt 17 = .ok (.isub, 1) := by decide +kernel
theorem dX0_findAt_18 : decode cX0_findAt 18 = .ok (.invokestatic 30, 3) := by decide +kernel
theorem dX0_findAt_21 : decode cX0_findAt 21 = .ok (.ifCond .eq 7, 3) := by decide +kernel
theorem dX0_findAt_24 : decode cX0_findAt 24 = .ok (.iconst 0, 1) := by decide +kernel
theorem dX0_findAt_25 : decode cX0_findAt 25 = .ok (.goto 5, 3) := by decide +kernel
theorem dX0_findAt_28 : decode cX0_findAt 28 = .ok (.ldc 34, 2) := by decide +kernel
theorem dX0_findAt_30 : decode cX0_findAt 30 = .ok (.ireturn, 1) := by decide +kernel
theorem dX0_tryToHang_0 : decode cX0_tryToHang 0 = .ok (.aload_n 0, 1) := by decide +kernel
theorem dX0_tryToHang_1 : decode cX0_tryToHang 1 = .ok (.iload_n 1, 1) := by decide +kernel
theorem dX0_tryToHang_2 : decode cX0_tryToHang 2 = .ok (.invokevirtual 35, 3) := by decide +kernel
theorem dX0_tryToHang_5 : decode cX0_tryToHang 5 = .ok (.istore 4, 2) := by decide +kernel
theorem dX0_tryToHang_7 : decode cX0_tryToHang 7 = .ok (.iload 4, 2) := by decide +kernel
theorem dX0_tryToHang_9 : decode cX0_tryToHang 9 = .ok (.ifCond .eq 6, 3) := by decide +kernel
theorem dX0_tryToHang_12 : decode cX0_tryToHang 12 = .ok (.iload 4, 2) := by decide +kernel
theorem dX0_tryToHang_14 : decode cX0_tryToHang 14 = .ok (.ireturn, 1) := by decide +kernel
theorem dX0_tryToHang_15 : decode cX0_tryToHang 15 = .ok (.aload_n 0, 1) := by decide +kernel
theorem dX0_tryToHang_16 : decode cX0_tryToHang 16 = .ok (.getfield 22, 3) := by decide +kernel
theorem dX0_tryToHang_19 : decode cX0_tryToHang 19 = .ok (.ifCond .eq 14, 3) := by decide +kernel
theorem dX0_tryToHang_22 : decode cX0_tryToHang 22 = .ok (.aload_n 0, 1) := by decide +kernel
theorem dX0_tryToHang_23 : decode cX0_tryToHang 23 = .ok (.getfield 22, 3) := by decide +kernel
theorem dX0_tryToHang_26 : decode cX0_tryToHang 26 = .ok (.iload_n 2, 1) := by decide +kernel
theorem dX0_tryToHang_27 : decode cX0_tryToHang 27 = .ok (.if_icmp .eq 6, 3) := by decide +kernel
theorem dX0_tryToHang_30 : decode cX0_tryToHang 30 = .ok (.ldc 39, 2) := by decide +kernel
theorem dX0_tryToHang_32 : decode cX0_tryToHang 32 = .ok (.ireturn, 1) := by decide +kernel
theorem dX0_tryToHang_33 : decode cX0_tryToHang 33 = .ok (.aload_n 0, 1) := by decide +kernel
theorem dX0_tryToHang_34 : decode cX0_tryToHang 34 = .ok (.getfield 9, 3) := by decide +kernel
theorem dX0_tryToHang_37 : decode cX0_tryToHang 37 = .ok (.iload_n 1, 1) := by decide +kernel
theorem dX0_tryToHang_38 : decode cX0_tryToHang 38 = .ok (.iload_n 2, 1) := by decide +kernel
theorem dX0_tryToHang_39 : decode cX0_tryToHang 39 = .ok (.iastore, 1) := by decide +kernel
theorem dX0_tryToHang_40 : decode cX0_tryToHang 40 = .ok (.aload_n 0, 1) := by decide +kernel
theorem dX0_tryToHang_41 : decode cX0_tryToHang 41 = .ok (.getfield 15, 3) := by decide +kernel
theorem dX0_tryToHang_44 : decode cX0_tryToHang 44 = .ok (.iload_n 1, 1) := by decide +kernel
theorem dX0_tryToHang_45 : decode cX0_tryToHang 45 = .ok (.iload_n 3, 1) := by decide +kernel
theorem dX0_tryToHang_46 : decode cX0_tryToHang 46 = .ok (.iastore, 1) := by decide +kernel
theorem dX0_tryToHang_47 : decode cX0_tryToHang 47 = .ok (.iconst 0, 1) := by decide +kernel
theorem dX0_tryToHang_48 : decode cX0_tryToHang 48 = .ok (.ireturn, 1) := by decide +kernel
theorem dX0_takeFrom_0 : decode cX0_takeFrom 0 = .ok (.aload_n 0, 1) := by decide +kernel
theorem dX0_takeFrom_1 : decode cX0_takeFrom 1 = .ok (.iload_n 1, 1) := by decide +kernel
theorem dX0_takeFrom_2 : decode cX0_takeFrom 2 = .ok (.invokevirtual 35, 3) := by decide +kernel
theorem dX0_takeFrom_5 : decode cX0_takeFrom 5 = .ok (.istore_n 2, 1) := by decide +kernel
theorem dX0_takeFrom_6 : decode cX0_takeFrom 6 = .ok (.iload_n 2, 1) := by decide +kernel
theorem dX0_takeFrom_7 : decode cX0_takeFrom 7 = .ok (.ifCond .eq 5, 3) := by decide +kernel
theorem dX0_takeFrom_10 : decode cX0_takeFrom 10 = .ok (.iload_n 2, 1) := by decide +kernel
theorem dX0_takeFrom_11 : decode cX0_takeFrom 11 = .ok (.ireturn, 1) := by decide +kernel
theorem dX0_takeFrom_12 : decode cX0_takeFrom 12 = .ok (.aload_n 0, 1) := by decide +kernel
theorem dX0_takeFrom_13 : decode cX0_takeFrom 13 = .ok (.getfield 9, 3) := by decide +kernel
theorem dX0_takeFrom_16 : decode cX0_takeFrom 16 = .ok (.iload_n 1, 1) := by decide +kernel
theorem dX0_takeFrom_17 : decode cX0_takeFrom 17 = .ok (.iaload, 1) := by decide +kernel
theorem dX0_takeFrom_18 : decode cX0_takeFrom 18 = .ok (.ifCond .ne 6, 3) := by decide +kernel
theorem dX0_takeFrom_21 : decode cX0_takeFrom 21 = .ok (.ldc 40, 2) := by decide +kernel
theorem dX0_takeFrom_23 : decode cX0_takeFrom 23 = .ok (.ireturn, 1) := by decide +kernel
theorem dX0_takeFrom_24 : decode cX0_takeFrom 24 = .ok (.aload_n 0, 1) := by decide +kernel
theorem dX0_takeFrom_25 : decode cX0_takeFrom 25 = .ok (.getfield 9, 3) := by decide +kernel
theorem dX0_takeFrom_28 : decode cX0_takeFrom 28 = .ok (.iload_n 1, 1) := by decide +kernel
theorem dX0_takeFrom_29 : decode cX0_takeFrom 29 = .ok (.iaload, 1) := by decide +kernel
theorem dX0_takeFrom_30 : decode cX0_takeFrom 30 = .ok (.iconst 2, 1) := by decide +kernel
theorem dX0_takeFrom_31 : decode cX0_takeFrom 31 = .ok (.if_icmp .ne 15, 3) := by decide +kernel
theorem dX0_takeFrom_34 : decode cX0_takeFrom 34 = .ok (.bipush 100, 2) := by decide +kernel
theorem dX0_takeFrom_36 : decode cX0_takeFrom 36 = .ok (.aload_n 0, 1) := by decide +kernel
theorem dX0_takeFrom_37 : decode cX0_takeFrom 37 = .ok (.getfield 15, 3) := by decide +kernel
theorem dX0_takeFrom_40 : decode cX0_takeFrom 40 = .ok (.iload_n 1, 1) := by decide +kernel
theorem dX0_takeFrom_41 : decode cX0_takeFrom 41 = .ok (.iaload, 1) := by decide +kernel
theorem dX0_takeFrom_42 : decode cX0_takeFrom 42 = .ok (.iadd, 1) := by decide +kernel
theorem dX0_takeFrom_43 : decode cX0_takeFrom 43 = .ok (.goto 9, 3) := by decide +kernel
theorem dX0_takeFrom_46 : decode cX0_takeFrom 46 = .ok (.aload_n 0, 1) := by decide +kernel
theorem dX0_takeFrom_47 : decode cX0_takeFrom 47 = .ok (.getfield 15, 3) := by decide +kernel
theorem dX0_takeFrom_50 : decode cX0_takeFrom 50 = .ok (.iload_n 1, 1) := by decide +kernel
theorem dX0_takeFrom_51 : decode cX0_takeFrom 51 = .ok (.iaload, 1) := by decide +kernel
theorem dX0_takeFrom_52 : decode cX0_takeFrom 52 = .ok (.istore_n 3, 1) := by decide +kernel
theorem dX0_takeFrom_53 : decode cX0_takeFrom 53 = .ok (.aload_n 0, 1) := by decide +kernel
theorem dX0_takeFrom_54 : decode cX0_takeFrom 54 = .ok (.getfield 9, 3) := by decide +kernel
theorem dX0_takeFrom_57 : decode cX0_takeFrom 57 = .ok (.iload_n 1, 1) := by decide +kernel
theorem dX0_takeFrom_58 : decode cX0_takeFrom 58 = .ok (.iconst 0, 1) := by decide +kernel
theorem dX0_takeFrom_59 : decode cX0_takeFrom 59 = .ok (.iastore, 1) := by decide +kernel
theorem dX0_takeFrom_60 : decode cX0_takeFrom 60 = .ok (.iload_n 3, 1) := by decide +kernel
theorem dX0_takeFrom_61 : decode cX0_takeFrom 61 = .ok (.ireturn, 1) := by decide +kernel
theorem dX0_becomeLike_0 : decode cX0_becomeLike 0 = .ok (.aload_n 0, 1) := by decide +kernel
theorem dX0_becomeLike_1 : decode cX0_becomeLike 1 = .ok (.aload_n 1, 1) := by decide +kernel
theorem dX0_becomeLike_2 : decode cX0_becomeLike 2 = .ok (.getfield 18, 3) := by decide +kernel
theorem dX0_becomeLike_5 : decode cX0_becomeLike 5 = .ok (.putfield 18, 3) := by decide +kernel
theorem dX0_becomeLike_8 : decode cX0_becomeLike 8 = .ok (.aload_n 0, 1) := by decide +kernel
theorem dX0_becomeLike_9 : decode cX0_becomeLike 9 = .ok (.aload_n 1, 1) := by decide +kernel
theorem dX0_becomeLike_10 : decode cX0_becomeLike 10 = .ok (.getfield 22, 3) := by decide +kernel
theorem dX0_becomeLike_13 : decode cX0_becomeLike 13 = .ok (.putfield 22, 3) := by decide +kernel
theorem dX0_becomeLike_16 : decode cX0_becomeLike 16 = .ok (.aload_n 0, 1) := by decide +kernel
theorem dX0_becomeLike_17 : decode cX0_becomeLike 17 = .ok (.aload_n 1, 1) := by decide +kernel
theorem dX0_becomeLike_18 : decode cX0_becomeLike 18 = .ok (.getfield 26, 3) := by decide +kernel
theorem dX0_becomeLike_21 : decode cX0_becomeLike 21 = .ok (.putfield 26, 3) := by decide +kernel
theorem dX0_becomeLike_24 : decode cX0_becomeLike 24 = .ok (.iconst 0, 1) := by decide +kernel
theorem dX0_becomeLike_25 : decode cX0_becomeLike 25 = .ok (.istore_n 2, 1) := by decide +kernel
theorem dX0_becomeLike_26 : decode cX0_becomeLike 26 = .ok (.iload_n 2, 1) := by decide +kernel
theorem dX0_becomeLike_27 : decode cX0_becomeLike 27 = .ok (.bipush 8, 2) := by decide +kernel
theorem dX0_becomeLike_29 : decode cX0_becomeLike 29 = .ok (.if_icmp .ge 33, 3) := by decide +kernel
theorem dX0_becomeLike_32 : decode cX0_becomeLike 32 = .ok (.aload_n 0, 1) := by decide +kernel
theorem dX0_becomeLike_33 : decode cX0_becomeLike 33 = .ok (.getfield 9, 3) := by decide +kernel
theorem dX0_becomeLike_36 : decode cX0_becomeLike 36 = .ok (.iload_n 2, 1) := by decide +kernel
theorem dX0_becomeLike_37 : decode cX0_becomeLike 37 = .ok (.aload_n 1, 1) := by decide +kernel
theorem dX0_becomeLike_38 : decode cX0_becomeLike 38 = .ok (.getfield 9, 3) := by decide +kernel
theorem dX0_becomeLike_41 : decode cX0_becomeLike 41 = .ok (.iload_n 2, 1) := by decide +kernel
theorem dX0_becomeLike_42 : decode cX0_becomeLike 42 = .ok (.iaload, 1) := by decide +kernel
theorem dX0_becomeLike_43 : decode cX0_becomeLike 43 = .ok (.iastore, 1) := by decide +kernel
theorem dX0_becomeLike_44 : decode cX0_becomeLike 44 = .ok (.aload_n 0, 1) := by decide +kernel
theorem dX0_becomeLike_45 : decode cX0_becomeLike 45 = .ok (.getfield 15, 3) := by decide +kernel
theorem dX0_becomeLike_48 : decode cX0_becomeLike 48 = .ok (.iload_n 2, 1) := by decide +kernel
theorem dX0_becomeLike_49 : decode cX0_becomeLike 49 = .ok (.aload_n 1, 1) := by decide +kernel
theorem dX0_becomeLike_50 : decode cX0_becomeLike 50 = .ok (.getfield 15, 3) := by decide +kernel
theorem dX0_becomeLike_53 : decode cX0_becomeLike 53 = .ok (.iload_n 2, 1) := by decide +kernel
theorem dX0_becomeLike_54 : decode cX0_becomeLike 54 = .ok (.iaload, 1) := by decide +kernel
theorem dX0_becomeLike_55 : decode cX0_becomeLike 55 = .ok (.iastore, 1) := by decide +kernel
theorem dX0_becomeLike_56 : decode cX0_becomeLike 56 = .ok (.iinc 2 1, 3) := by decide +kernel
theorem dX0_becomeLike_59 : decode cX0_becomeLike 59 = .ok (.goto (-33), 3) := by decide +kernel
theorem dX0_becomeLike_62 : decode cX0_becomeLike 62 = .ok (.return_, 1) := by decide +kernel
theorem dX0_hangAllOn_0 : decode cX0_hangAllOn 0 = .ok (.iconst 0, 1) := by decide +kernel
theorem dX0_hangAllOn_1 : decode cX0_hangAllOn 1 = .ok (.istore_n 2, 1) := by decide +kernel
theorem dX0_hangAllOn_2 : decode cX0_hangAllOn 2 = .ok (.iconst 0, 1) := by decide +kernel
theorem dX0_hangAllOn_3 : decode cX0_hangAllOn 3 = .ok (.istore_n 3, 1) := by decide +kernel
theorem dX0_hangAllOn_4 : decode cX0_hangAllOn 4 = .ok (.iload_n 3, 1) := by decide +kernel
theorem dX0_hangAllOn_5 : decode cX0_hangAllOn 5 = .ok (.aload_n 0, 1) := by decide +kernel
theorem dX0_hangAllOn_6 : decode cX0_hangAllOn 6 = .ok (.getfield 26, 3) := by decide +kernel
theorem dX0_hangAllOn_9 : decode cX0_hangAllOn 9 = .ok (.if_icmp .ge 43, 3) := by decide +kernel
theorem dX0_hangAllOn_12 : decode cX0_hangAllOn 12 = .ok (.aload_n 0, 1) := by decide +kernel
theorem dX0_hangAllOn_13 : decode cX0_hangAllOn 13 = .ok (.getfield 9, 3) := by decide +kernel
theorem dX0_hangAllOn_16 : decode cX0_hangAllOn 16 = .ok (.iload_n 3, 1) := by decide +kernel
theorem dX0_hangAllOn_17 : decode cX0_hangAllOn 17 = .ok (.iaload, 1) := by decide +kernel
theorem dX0_hangAllOn_18 : decode cX0_hangAllOn 18 = .ok (.ifCond .eq 28, 3) := by decide +kernel
theorem dX0_hangAllOn_21 : decode cX0_hangAllOn 21 = .ok (.aload_n 1, 1) := by decide +kernel
theorem dX0_hangAllOn_22 : decode cX0_hangAllOn 22 = .ok (.iload_n 3, 1) := by decide +kernel
theorem dX0_hangAllOn_23 : decode cX0_hangAllOn 23 = .ok (.aload_n 0, 1) := by decide +kernel
theorem dX0_hangAllOn_24 : decode cX0_hangAllOn 24 = .ok (.getfield 9, 3) := by decide +kernel
theorem dX0_hangAllOn_27 : decode cX0_hangAllOn 27 = .ok (.iload_n 3, 1) := by decide +kernel
theorem dX0_hangAllOn_28 : decode cX0_hangAllOn 28 = .ok (.iaload, 1) := by decide +kernel
theorem dX0_hangAllOn_29 : decode cX0_hangAllOn 29 = .ok (.aload_n 0, 1) := by decide +kernel
theorem dX0_hangAllOn_30 : decode cX0_hangAllOn 30 = .ok (.getfield 15, 3) := by decide +kernel
theorem dX0_hangAllOn_33 : decode cX0_hangAllOn 33 = .ok (.iload_n 3, 1) := by decide +kernel
theorem dX0_hangAllOn_34 : decode cX0_hangAllOn 34 = .ok (.iaload, 1) := by decide +kernel
theorem dX0_hangAllOn_35 : decode cX0_hangAllOn 35 = .ok (.invokevirtual 41, 3) := by decide +kernel
theorem dX0_hangAllOn_38 : decode cX0_hangAllOn 38 = .ok (.ifCond .eq 5, 3) := by decide +kernel
theorem dX0_hangAllOn_41 : decode cX0_hangAllOn 41 = .ok (.iload_n 2, 1) := by decide +kernel
theorem dX0_hangAllOn_42 : decode cX0_hangAllOn 42 = .ok (.ireturn, 1) := by decide +kernel
theorem dX0_hangAllOn_43 : decode cX0_hangAllOn 43 = .ok (.iinc 2 1, 3) := by decide +kernel
theorem dX0_hangAllOn_46 : decode cX0_hangAllOn 46 = .ok (.iinc 3 1, 3) := by decide +kernel
theorem dX0_hangAllOn_49 : decode cX0_hangAllOn 49 = .ok (.goto (-45), 3) := by decide +kernel
theorem dX0_hangAllOn_52 : decode cX0_hangAllOn 52 = .ok (.iload_n 2, 1) := by decide +kernel
theorem dX0_hangAllOn_53 : decode cX0_hangAllOn 53 = .ok (.ireturn, 1) := by decide +kernel
theorem dX1_init_0 : decode cX1_init 0 = .ok (.aload_n 0, 1) := by decide +kernel
theorem dX1_init_1 : decode cX1_init 1 = .ok (.invokespecial 3, 3) := by decide +kernel
theorem dX1_init_4 : decode cX1_init 4 = .ok (.aload_n 0, 1) := by decide +kernel
theorem dX1_init_5 : decode cX1_init 5 = .ok (.bipush 24, 2) := by decide +kernel
theorem dX1_init_7 : decode cX1_init 7 = .ok (.bipush 6, 2) := by decide +kernel
theorem dX1_init_9 : decode cX1_init 9 = .ok (.multianewarray 9 2, 4) := by decide +kernel
theorem dX1_init_13 : decode cX1_init 13 = .ok (.putfield 11, 3) := by decide +kernel
theorem dX1_init_16 : decode cX1_init 16 = .ok (.aload_n 0, 1) := by decide +kernel
theorem dX1_init_17 : decode cX1_init 17 = .ok (.iconst 0, 1) := by decide +kernel
theorem dX1_init_18 : decode cX1_init 18 = .ok (.putfield 16, 3) := by decide +kernel
theorem dX1_init_21 : decode cX1_init 21 = .ok (.aload_n 0, 1) := by decide +kernel
theorem dX1_init_22 : decode cX1_init 22 = .ok (.iconst 0, 1) := by decide +kernel
theorem dX1_init_23 : decode cX1_init 23 = .ok (.putfield 20, 3) := by decide +kernel
theorem dX1_init_26 : decode cX1_init 26 = .ok (.aload_n 0, 1) := by decide +kernel
theorem dX1_init_27 : decode cX1_init 27 = .ok (.iconst 0, 1) := by decide +kernel
theorem dX1_init_28 : decode cX1_init 28 = .ok (.putfield 23, 3) := by decide +kernel
theorem dX1_init_31 : decode cX1_init 31 = .ok (.aload_n 0, 1) := by decide +kernel
theorem dX1_init_32 : decode cX1_init 32 = .ok (.iconst 4, 1) := by decide +kernel
theorem dX1_init_33 : decode cX1_init 33 = .ok (.putfield 26, 3) := by decide +kernel
theorem dX1_init_36 : decode cX1_init 36 = .ok (.aload_n 0, 1) := by decide +kernel
theorem dX1_init_37 : decode cX1_init 37 = .ok (.bipush 6, 2) := by decide +kernel
theorem dX1_init_39 : decode cX1_init 39 = .ok (.newarray .int, 2) := by decide +kernel
theorem dX1_init_41 : decode cX1_init 41 = .ok (.putfield 29, 3) := by decide +kernel
theorem dX1_init_44 : decode cX1_init 44 = .ok (.aload_n 0, 1) := by decide +kernel
theorem dX1_init_45 : decode cX1_init 45 = .ok (.iconst 0, 1) := by decide +kernel
theorem dX1_init_46 : decode cX1_init 46 = .ok (.putfield 33, 3) := by decide +kernel
theorem dX1_init_49 : decode cX1_init 49 = .ok (.aload_n 0, 1) := by decide +kernel
theorem dX1_init_50 : decode cX1_init 50 = .ok (.aload_n 1, 1) := by decide +kernel
theorem dX1_init_51 : decode cX1_init 51 = .ok (.putfield 36, 3) := by decide +kernel
theorem dX1_init_54 : decode cX1_init 54 = .ok (.return_, 1) := by decide +kernel
theorem dX1_read_0 : decode cX1_read 0 = .ok (.aload_n 0, 1) := by decide +kernel
theorem dX1_read_1 : decode cX1_read 1 = .ok (.aload_n 1, 1) := by decide +kernel
theorem dX1_read_2 : decode cX1_read 2 = .ok (.invokevirtual 40, 3) := by decide +kernel
theorem dX1_read_5 : decode cX1_read 5 = .ok (.iconst 0, 1) := by decide +kernel
theorem dX1_read_6 : decode cX1_read 6 = .ok (.istore_n 2, 1) := by decide +kernel
theorem dX1_read_7 : decode cX1_read 7 = .ok (.iload_n 2, 1) := by decide +kernel
theorem dX1_read_8 : decode cX1_read 8 = .ok (.bipush 24, 2) := by decide +kernel
theorem dX1_read_10 : decode cX1_read 10 = .ok (.if_icmp .ge 78, 3) := by decide +kernel
theorem dX1_read_13 : decode cX1_read 13 = .ok (.aload_n 0, 1) := by decide +kernel
theorem dX1_read_14 : decode cX1_read 14 = .ok (.aload_n 0, 1) := by decide +kernel
theorem dX1_read_15 : decode cX1_read 15 = .ok (.getfield 11, 3) := by decide +kernel
theorem dX1_read_18 : decode cX1_read 18 = .ok (.iload_n 2, 1) := by decide +kernel
theorem dX1_read_19 : decode cX1_read 19 = .ok (.aaload, 1) := by decide +kernel
theorem dX1_read_20 : decode cX1_read 20 = .ok (.invokevirtual 44, 3) := by decide +kernel
theorem dX1_read_23 : decode cX1_read 23 = .ok (.ifCond .ne 8, 3) := by decide +kernel
theorem dX1_read_26 : decode cX1_read 26 = .ok (.aload_n 0, 1) := by decide +kernel
theorem dX1_read_27 : decode cX1_read 27 = .ok (.getfield 20, 3) := by decide +kernel
theorem dX1_read_30 : decode cX1_read 30 = .ok (.ireturn, 1) := by decide +kernel
theorem dX1_read_31 : decode cX1_read 31 = .ok (.aload_n 0, 1) := by decide +kernel
theorem dX1_read_32 : decode cX1_read 32 = .ok (.iload_n 2, 1) := by decide +kernel
theorem dX1_read_33 : decode cX1_read 33 = .ok (.iconst 1, 1) := by decide +kernel
theorem dX1_read_34 : decode cX1_read 34 = .ok (.iadd, 1) := by decide +kernel
theorem dX1_read_35 : decode cX1_read 35 = .ok (.putfield 16, 3) := by decide +kernel
theorem dX1_read_38 : decode cX1_read 38 = .ok (.aload_n 0, 1) := by decide +kernel
theorem dX1_read_39 : decode cX1_read 39 = .ok (.getfield 26, 3) := by decide +kernel
theorem dX1_read_42 : decode cX1_read 42 = .ok (.iconst 4, 1) := by decide +kernel
theorem dX1_read_43 : decode cX1_read 43 = .ok (.if_icmp .ne 5, 3) := by decide +kernel
theorem dX1_read_46 : decode cX1_read 46 = .ok (.iconst (-1), 1) := by decide +kernel
theorem dX1_read_47 : decode cX1_read 47 = .ok (.ireturn, 1) := by decide +kernel
theorem dX1_read_48 : decode cX1_read 48 = .ok (.aload_n 0, 1) := by decide +kernel
theorem dX1_read_49 : decode cX1_read 49 = .ok (.getfield 36, 3) := by decide +kernel
theorem dX1_read_52 : decode cX1_read 52 = .ok (.aload_n 0, 1) := by decide +kernel
theorem dX1_read_53 : decode cX1_read 53 = .ok (.getfield 20, 3) := by decide +kernel
theorem dX1_read_56 : decode cX1_read 56 = .ok (.invokevirtual 48, 3) := by decide +kernel
theorem dX1_read_59 : decode cX1_read 59 = .ok (.bipush 59, 2) := by decide +kernel
theorem dX1_read_61 : decode cX1_read 61 = .ok (.if_icmp .ne 12, 3) := by decide +kernel
theorem dX1_read_64 : decode cX1_read 64 = .ok (.aload_n 0, 1) := by decide +kernel
theorem dX1_read_65 : decode cX1_read 65 = .ok (.getfield 16, 3) := by decide +kernel
theorem dX1_read_68 : decode cX1_read 68 = .ok (.bipush 24, 2) := by decide +kernel
theorem dX1_read_70 : decode cX1_read 70 = .ok (.if_icmp .ne 8, 3) := by decide +kernel
theorem dX1_read_73 : decode cX1_read 73 = .ok (.aload_n 0, 1) := by decide +kernel
theorem dX1_read_74 : decode cX1_read 74 = .ok (.getfield 20, 3) := by decide +kernel
theorem dX1_read_77 : decode cX1_read 77 = .ok (.ireturn, 1) := by decide +kernel
theorem dX1_read_78 : decode cX1_read 78 = .ok (.aload_n 0, 1) := by decide +kernel
theorem dX1_read_79 : decode cX1_read 79 = .ok (.invokevirtual 54, 3) := by decide +kernel
theorem dX1_read_82 : decode cX1_read 82 = .ok (.iinc 2 1, 3) := by decide +kernel
theorem dX1_read_85 : decode cX1_read 85 = .ok (.goto (-78), 3) := by decide +kernel
theorem dX1_read_88 : decode cX1_read 88 = .ok (.aload_n 0, 1) := by decide +kernel
theorem dX1_read_89 : decode cX1_read 89 = .ok (.getfield 20, 3) := by decide +kernel
theorem dX1_read_92 : decode cX1_read 92 = .ok (.ireturn, 1) := by decide +kernel
theorem dX1_startWith_0 : decode cX1_startWith 0 = .ok (.aload_n 0, 1) := by decide +kernel
theorem dX1_startWith_1 : decode cX1_startWith 1 = .ok (.aload_n 1, 1) := by decide +kernel
theorem dX1_startWith_2 : decode cX1_startWith 2 = .ok (.getfield 57, 3) := by decide +kernel
theorem dX1_startWith_5 : decode cX1_startWith 5 = .ok (.putfield 33, 3) := by decide +kernel
theorem dX1_startWith_8 : decode cX1_startWith 8 = .ok (.iconst 0, 1) := by decide +kernel
theorem dX1_startWith_9 : decode cX1_startWith 9 = .ok (.istore_n 2, 1) := by decide +kernel
theorem dX1_startWith_10 : decode cX1_startWith 10 = .ok (.iload_n 2, 1) := by decide +kernel
theorem dX1_startWith_11 : decode cX1_startWith 11 = .ok (.bipush 6, 2) := by decide +kernel
theorem dX1_startWith_13 : decode cX1_startWith 13 = .ok (.if_icmp .ge 21, 3) := by decide +kernel
theorem dX1_startWith_16 : decode cX1_startWith 16 = .ok (.aload_n 0, 1) := by decide +kernel
theorem dX1_startWith_17 : decode cX1_startWith 17 = .ok (.getfield 29, 3) := by decide +kernel
theorem dX1_startWith_20 : decode cX1_startWith 20 = .ok (.iload_n 2, 1) := by decide +kernel
theorem dX1_startWith_21 : decode cX1_startWith 21 = .ok (.aload_n 1, 1) := by decide +kernel
theorem dX1_startWith_22 : decode cX1_startWith 22 = .ok (.getfield 62, 3) := by decide +kernel
theorem dX1_startWith_25 : decode cX1_startWith 25 = .ok (.iload_n 2, 1) := by decide +kernel
theorem dX1_startWith_26 : decode cX1_startWith 26 = .ok (.iaload, 1) := by decide +kernel
theorem dX1_startWith_27 : decode cX1_startWith 27 = .ok (.iastore, 1) := by decide +kernel
theorem dX1_startWith_28 : decode cX1_startWith 28 = .ok (.iinc 2 1, 3) := by decide +kernel
theorem dX1_startWith_31 : decode cX1_startWith 31 = .ok (.goto (-21), 3) := by decide +kernel
theorem dX1_startWith_34 : decode cX1_startWith 34 = .ok (.aload_n 0, 1) := by decide +kernel
theorem dX1_startWith_35 : decode cX1_startWith 35 = .ok (.iconst 0, 1) := by decide +kernel
theorem dX1_startWith_36 : decode cX1_startWith 36 = .ok (.putfield 16, 3) := by decide +kernel
theorem dX1_startWith_39 : decode cX1_startWith 39 = .ok (.aload_n 0, 1) := by decide +kernel
theorem dX1_startWith_40 : decode cX1_startWith 40 = .ok (.iconst 0, 1) := by decide +kernel
theorem dX1_startWith_41 : decode cX1_startWith 41 = .ok (.putfield 23, 3) := by decide +kernel
theorem dX1_startWith_44 : decode cX1_startWith 44 = .ok (.aload_n 0, 1) := by decide +kernel
theorem dX1_startWith_45 : decode cX1_startWith 45 = .ok (.invokevirtual 54, 3) := by decide +kernel
theorem dX1_startWith_48 : decode cX1_startWith 48 = .ok (.return_, 1) := by decide +kernel
theorem dX1_nextToken_0 : decode cX1_nextToken 0 = .ok (.aload_n 0, 1) := by decide +kernel
theorem dX1_nextToken_1 : decode cX1_nextToken 1 = .ok (.aload_n 0, 1) := by decide +kernel
theorem dX1_nextToken_2 : decode cX1_nextToken 2 = .ok (.getfield 23, 3) := by decide +kernel
theorem dX1_nextToken_5 : decode cX1_nextToken 5 = .ok (.putfield 20, 3) := by decide +kernel
theorem dX1_nextToken_8 : decode cX1_nextToken 8 = .ok (.aload_n 0, 1) := by decide +kernel
theorem dX1_nextToken_9 : decode cX1_nextToken 9 = .ok (.getfield 20, 3) := by decide +kernel
theorem dX1_nextToken_12 : decode cX1_nextToken 12 = .ok (.aload_n 0, 1) := by decide +kernel
theorem dX1_nextToken_13 : decode cX1_nextToken 13 = .ok (.getfield 36, 3) := by decide +kernel
theorem dX1_nextToken_16 : decode cX1_nextToken 16 = .ok (.getfield 63, 3) := by decide +kernel
theorem dX1_nextToken_19 : decode cX1_nextToken 19 = .ok (.if_icmp .ge 30, 3) := by decide +kernel
theorem dX1_nextToken_22 : decode cX1_nextToken 22 = .ok (.aload_n 0, 1) := by decide +kernel
theorem dX1_nextToken_23 : decode cX1_nextToken 23 = .ok (.getfield 36, 3) := by decide +kernel
theorem dX1_nextToken_26 : decode cX1_nextToken 26 = .ok (.aload_n 0, 1) := by decide +kernel
theorem dX1_nextToken_27 : decode cX1_nextToken 27 = .ok (.getfield 20, 3) := by decide +kernel
theorem dX1_nextToken_30 : decode cX1_nextToken 30 = .ok (.invokevirtual 66, 3) := by decide +kernel
theorem dX1_nextToken_33 : decode cX1_nextToken 33 = .ok (.ifCond .ne 16, 3) := by decide +kernel
theorem dX1_nextToken_36 : decode cX1_nextToken 36 = .ok (.aload_n 0, 1) := by decide +kernel
theorem dX1_nextToken_37 : decode cX1_nextToken 37 = .ok (.dup, 1) := by decide +kernel
theorem dX1_nextToken_38 : decode cX1_nextToken 38 = .ok (.getfield 20, 3) := by decide +kernel
theorem dX1_nextToken_41 : decode cX1_nextToken 41 = .ok (.iconst 1, 1) := by decide +kernel
theorem dX1_nextToken_42 : decode cX1_nextToken 42 = .ok (.iadd, 1) := by decide +kernel
theorem dX1_nextToken_43 : decode cX1_nextToken 43 = .ok (.putfield 20, 3) := by decide +kernel
theorem dX1_nextToken_46 : decode cX1_nextToken 46 = .ok (.goto (-38), 3) := by decide +kernel
theorem dX1_nextToken_49 : decode cX1_nextToken 49 = .ok (.aload_n 0, 1) := by decide +kernel
theorem dX1_nextToken_50 : decode cX1_nextToken 50 = .ok (.aload_n 0, 1) := by decide +kernel
theorem dX1_nextToken_51 : decode cX1_nextToken 51 = .ok (.getfield 36, 3) := by decide +kernel
theorem dX1_nextToken_54 : decode cX1_nextToken 54 = .ok (.aload_n 0, 1) := by decide +kernel
theorem dX1_nextToken_55 : decode cX1_nextToken 55 = .ok (.getfield 20, 3) := by decide +kernel
theorem dX1_nextToken_58 : decode cX1_nextToken 58 = .ok (.invokevirtual 66, 3) := by decide +kernel
theorem dX1_nextToken_61 : decode cX1_nextToken 61 = .ok (.putfield 26, 3) := by decide +kernel
theorem dX1_nextToken_64 : decode cX1_nextToken 64 = .ok (.aload_n 0, 1) := by decide +kernel
theorem dX1_nextToken_65 : decode cX1_nextToken 65 = .ok (.aload_n 0, 1) := by decide +kernel
theorem dX1_nextToken_66 : decode cX1_nextToken 66 = .ok (.getfield 20, 3) := by decide +kernel
theorem dX1_nextToken_69 : decode cX1_nextToken 69 = .ok (.putfield 23, 3) := by decide +kernel
theorem dX1_nextToken_72 : decode cX1_nextToken 72 = .ok (.aload_n 0, 1) := by decide +kernel
theorem dX1_nextToken_73 : decode cX1_nextToken 73 = .ok (.getfield 26, 3) := by decide +kernel
theorem dX1_nextToken_76 : decode cX1_nextToken 76 = .ok (.iconst 3, 1) := by decide +kernel
theorem dX1_nextToken_77 : decode cX1_nextToken 77 = .ok (.if_icmp .ne 16, 3) := by decide +kernel
theorem dX1_nextToken_80 : decode cX1_nextToken 80 = .ok (.aload_n 0, 1) := by decide +kernel
theorem dX1_nextToken_81 : decode cX1_nextToken 81 = .ok (.aload_n 0, 1) := by decide +kernel
theorem dX1_nextToken_82 : decode cX1_nextToken 82 = .ok (.getfield 20, 3) := by decide +kernel
theorem dX1_nextToken_85 : decode cX1_nextToken 85 = .ok (.iconst 1, 1) := by decide +kernel
theorem dX1_nextToken_86 : decode cX1_nextToken 86 = .ok (.iadd, 1) := by decide +kernel
theorem dX1_nextToken_87 : decode cX1_nextToken 87 = .ok (.putfield 23, 3) := by decide +kernel
theorem dX1_nextToken_90 : decode cX1_nextToken 90 = .ok (.goto 48, 3) := by decide +kernel
theorem dX1_nextToken_93 : decode cX1_nextToken 93 = .ok (.aload_n 0, 1) := by decide +kernel
theorem dX1_nextToken_94 : decode cX1_nextToken 94 = .ok (.getfield 23, 3) := by decide +kernel
theorem dX1_nextToken_97 : decode cX1_nextToken 97 = .ok (.aload_n 0, 1) := by decide +kernel
theorem dX1_nextToken_98 : decode cX1_nextToken 98 = .ok (.getfield 36, 3) := by decide +kernel
theorem dX1_nextToken_101 : decode cX1_nextToken 101 = .ok (.getfield 63, 3) := by decide +kernel
theorem dX1_nextToken_104 : decode cX1_nextToken 104 = .ok (.if_icmp .ge 34, 3) := by decide +kernel
theorem dX1_nextToken_107 : decode cX1_nextToken 107 = .ok (.aload_n 0, 1) := by decide +kernel
theorem dX1_nextToken_108 : decode cX1_nextToken 108 = .ok (.getfield 36, 3) := by decide +kernel
theorem dX1_nextToken_111 : decode cX1_nextToken 111 = .ok (.aload_n 0, 1) := by decide +kernel
theorem dX1_nextToken_112 : decode cX1_nextToken 112 = .ok (.getfield 23, 3) := by decide +kernel
theorem dX1_nextToken_115 : decode cX1_nextToken 115 = .ok (.invokevirtual 66, 3) := by decide +kernel
theorem dX1_nextToken_118 : decode cX1_nextToken 118 = .ok (.aload_n 0, 1) := by decide +kernel
theorem dX1_nextToken_119 : decode cX1_nextToken 119 = .ok (.getfield 26, 3) := by decide +kernel
theorem dX1_nextToken_122 : decode cX1_nextToken 122 = .ok (.if_icmp .ne 16, 3) := by decide +kernel
theorem dX1_nextToken_125 : decode cX1_nextToken 125 = .ok (.aload_n 0, 1) := by decide +kernel
theorem dX1_nextToken_126 : decode cX1_nextToken 126 = .ok (.dup, 1) := by decide +kernel
theorem dX1_nextToken_127 : decode cX1_nextToken 127 = .ok (.getfield 23, 3) := by decide +kernel
theorem dX1_nextToken_130 : decode cX1_nextToken 130 = .ok (.iconst 1, 1) := by decide +kernel
theorem dX1_nextToken_131 : decode cX1_nextToken 131 = .ok (.iadd, 1) := by decide +kernel
theorem dX1_nextToken_132 : decode cX1_nextToken 132 = .ok (.putfield 23, 3) := by decide +kernel
theorem dX1_nextToken_135 : decode cX1_nextToken 135 = .ok (.goto (-42), 3) := by decide +kernel
theorem dX1_nextToken_138 : decode cX1_nextToken 138 = .ok (.return_, 1) := by decide +kernel
theorem dX1_isWord_0 : decode cX1_isWord 0 = .ok (.aload_n 0, 1) := by decide +kernel
theorem dX1_isWord_1 : decode cX1_isWord 1 = .ok (.getfield 23, 3) := by decide +kernel
theorem dX1_isWord_4 : decode cX1_isWord 4 = .ok (.aload_n 0, 1) := by decide +kernel
theorem dX1_isWord_5 : decode cX1_isWord 5 = .ok (.getfield 20, 3) := by decide +kernel
theorem dX1_isWord_8 : decode cX1_isWord 8 = .ok (.isub, 1) := by decide +kernel
theorem dX1_isWord_9 : decode cX1_isWord 9 = .ok (.aload_n 1, 1) := by decide +kernel
theorem dX1_isWord_10 : decode cX1_isWord 10 = .ok (.invokevirtual 69, 3) := by decide +kernel
theorem dX1_isWord_13 : decode cX1_isWord 13 = .ok (.if_icmp .eq 5, 3) := by decide +kernel
theorem dX1_isWord_16 : decode cX1_isWord 16 = .ok (.iconst 0, 1) := by decide +kernel
theorem dX1_isWord_17 : decode cX1_isWord 17 = .ok (.ireturn, 1) := by decide +kernel
theorem dX1_isWord_18 : decode cX1_isWord 18 = .ok (.iconst 0, 1) := by decide +kernel
theorem dX1_isWord_19 : decode cX1_isWord 19 = .ok (.istore_n 2, 1) := by decide +kernel
theorem dX1_isWord_20 : decode cX1_isWord 20 = .ok (.iload_n 2, 1) := by decide +kernel
theorem dX1_isWord_21 : decode cX1_isWord 21 = .ok (.aload_n 1, 1) := by decide +kernel
theorem dX1_isWord_22 : decode cX1_isWord 22 = .ok (.invokevirtual 69, 3) := by decide +kernel
theorem dX1_isWord_25 : decode cX1_isWord 25 = .ok (.if_icmp .ge 32, 3) := by decide +kernel
theorem dX1_isWord_28 : decode cX1_isWord 28 = .ok (.aload_n 0, 1) := by decide +kernel
theorem dX1_isWord_29 : decode cX1_isWord 29 = .ok (.getfield 36, 3) := by decide +kernel
theorem dX1_isWord_32 : decode cX1_isWord 32 = .ok (.aload_n 0, 1) := by decide +kernel
theorem dX1_isWord_33 : decode cX1_isWord 33 = .ok (.getfield 20, 3) := by decide +kernel
theorem dX1_isWord_36 : decode cX1_isWord 36 = .ok (.iload_n 2, 1) := by decide +kernel
theorem dX1_isWord_37 : decode cX1_isWord 37 = .ok (.iadd, 1) := by decide +kernel
theorem dX1_isWord_38 : decode cX1_isWord 38 = .ok (.invokevirtual 48, 3) := by decide +kernel
theorem dX1_isWord_41 : decode cX1_isWord 41 = .ok (.aload_n 1, 1) := by decide +kernel
theorem dX1_isWord_42 : decode cX1_isWord 42 = .ok (.iload_n 2, 1) := by decide +kernel
theorem dX1_isWord_43 : decode cX1_isWord 43 = .ok (.invokevirtual 75, 3) := by decide +kernel
theorem dX1_isWord_46 : decode cX1_isWord 46 = .ok (.if_icmp .eq 5, 3) := by decide +kernel
theorem dX1_isWord_49 : decode cX1_isWord 49 = .ok (.iconst 0, 1) := by decide +kernel
theorem dX1_isWord_50 : decode cX1_isWord 50 = .ok (.ireturn, 1) := by decide +kernel
theorem dX1_isWord_51 : decode cX1_isWord 51 = .ok (.iinc 2 1, 3) := by decide +kernel
theorem dX1_isWord_54 : decode cX1_isWord 54 = .ok (.goto (-34), 3) := by decide +kernel
theorem dX1_isWord_57 : decode cX1_isWord 57 = .ok (.iconst 1, 1) := by decide +kernel
theorem dX1_isWord_58 : decode cX1_isWord 58 = .ok (.ireturn, 1) := by decide +kernel
theorem dX1_wordHere_0 : decode cX1_wordHere 0 = .ok (.aload_n 0, 1) := by decide +kernel
theorem dX1_wordHere_1 : decode cX1_wordHere 1 = .ok (.ldc 79, 2) := by decide +kernel
theorem dX1_wordHere_3 : decode cX1_wordHere 3 = .ok (.invokevirtual 81, 3) := by decide +kernel
theorem dX1_wordHere_6 : decode cX1_wordHere 6 = .ok (.ifCond .eq 5, 3) := by decide +kernel
theorem dX1_wordHere_9 : decode cX1_wordHere 9 = .ok (.iconst 0, 1) := by decide +kernel
theorem dX1_wordHere_10 : decode cX1_wordHere 10 = .ok (.ireturn, 1) := by decide +kernel
theorem dX1_wordHere_11 : decode cX1_wordHere 11 = .ok (.aload_n 0, 1) := by decide +kernel
theorem dX1_wordHere_12 : decode cX1_wordHere 12 = .ok (.ldc 85, 2) := by decide +kernel
theorem dX1_wordHere_14 : decode cX1_wordHere 14 = .ok (.invokevirtual 81, 3) := by decide +kernel
theorem dX1_wordHere_17 : decode cX1_wordHere 17 = .ok (.ifCond .eq 5, 3) := by decide +kernel
theorem dX1_wordHere_20 : decode cX1_wordHere 20 = .ok (.iconst 1, 1) := by decide +kernel
theorem dX1_wordHere_21 : decode cX1_wordHere 21 = .ok (.ireturn, 1) := by decide +kernel
theorem dX1_wordHere_22 : decode cX1_wordHere 22 = .ok (.aload_n 0, 1) := by decide +kernel
theorem dX1_wordHere_23 : decode cX1_wordHere 23 = .ok (.ldc 87, 2) := by decide +kernel
theorem dX1_wordHere_25 : decode cX1_wordHere 25 = .ok (.invokevirtual 81, 3) := by decide +kernel
theorem dX1_wordHere_28 : decode cX1_wordHere 28 = .ok (.ifCond .eq 5, 3) := by decide +kernel
theorem dX1_wordHere_31 : decode cX1_wordHere 31 = .ok (.iconst 2, 1) := by decide +kernel
theorem dX1_wordHere_32 : decode cX1_wordHere 32 = .ok (.ireturn, 1) := by decide +kernel
theorem dX1_wordHere_33 : decode cX1_wordHere 33 = .ok (.aload_n 0, 1) := by decide +kernel
theorem dX1_wordHere_34 : decode cX1_wordHere 34 = .ok (.ldc 89, 2) := by decide +kernel
theorem dX1_wordHere_36 : decode cX1_wordHere 36 = .ok (.invokevirtual 81, 3) := by decide +kernel
theorem dX1_wordHere_39 : decode cX1_wordHere 39 = .ok (.ifCond .eq 5, 3) := by decide +kernel
theorem dX1_wordHere_42 : decode cX1_wordHere 42 = .ok (.iconst 3, 1) := by decide +kernel
theorem dX1_wordHere_43 : decode cX1_wordHere 43 = .ok (.ireturn, 1) := by decide +kernel
theorem dX1_wordHere_44 : decode cX1_wordHere 44 = .ok (.aload_n 0, 1) := by decide +kernel
theorem dX1_wordHere_45 : decode cX1_wordHere 45 = .ok (.ldc 91, 2) := by decide +kernel
theorem dX1_wordHere_47 : decode cX1_wordHere 47 = .ok (.invokevirtual 81, 3) := by decide +kernel
theorem dX1_wordHere_50 : decode cX1_wordHere 50 = .ok (.ifCond .eq 5, 3) := by decide +kernel
theorem dX1_wordHere_53 : decode cX1_wordHere 53 = .ok (.iconst 4, 1) := by decide +kernel
theorem dX1_wordHere_54 : decode cX1_wordHere 54 = .ok (.ireturn, 1) := by decide +kernel
theorem dX1_wordHere_55 : decode cX1_wordHere 55 = .ok (.aload_n 0, 1) := by decide +kernel
theorem dX1_wordHere_56 : decode cX1_wordHere 56 = .ok (.ldc 93, 2) := by decide +kernel
theorem dX1_wordHere_58 : decode cX1_wordHere 58 = .ok (.invokevirtual 81, 3) := by decide +kernel
theorem dX1_wordHere_61 : decode cX1_wordHere 61 = .ok (.ifCond .eq 5, 3) := by decide +kernel
theorem dX1_wordHere_64 : decode cX1_wordHere 64 = .ok (.iconst 5, 1) := by decide +kernel
theorem dX1_wordHere_65 : decode cX1_wordHere 65 = .ok (.ireturn, 1) := by decide +kernel
theorem dX1_wordHere_66 : decode cX1_wordHere 66 = .ok (.aload_n 0, 1) := by decide +kernel
theorem dX1_wordHere_67 : decode cX1_wordHere 67 = .ok (.ldc 95, 2) := by decide +kernel
theorem dX1_wordHere_69 : decode cX1_wordHere 69 = .ok (.invokevirtual 81, 3) := by decide +kernel
theorem dX1_wordHere_72 : decode cX1_wordHere 72 = .ok (.ifCond .eq 8, 3) := by decide +kernel
theorem dX1_wordHere_75 : decode cX1_wordHere 75 = .ok (.bipush 6, 2) := by decide +kernel
theorem dX1_wordHere_77 : decode cX1_wordHere 77 = .ok (.goto 4, 3) := by decide +kernel
theorem dX1_wordHere_80 : decode cX1_wordHere 80 = .ok (.iconst (-1), 1) := by decide +kernel
theorem dX1_wordHere_81 : decode cX1_wordHere 81 = .ok (.ireturn, 1) := by decide +kernel
theorem dX1_readClause_0 : decode cX1_readClause 0 = .ok (.aload_n 0, 1) := by decide +kernel
theorem dX1_readClause_1 : decode cX1_readClause 1 = .ok (.invokevirtual 97, 3) := by decide +kernel
theorem dX1_readClause_4 : decode cX1_readClause 4 = .ok (.istore_n 2, 1) := by decide +kernel
theorem dX1_readClause_5 : decode cX1_readClause 5 = .ok (.iload_n 2, 1) := by decide +kernel
theorem dX1_readClause_6 : decode cX1_readClause 6 = .ok (.iconst (-1), 1) := by decide +kernel
theorem dX1_readClause_7 : decode cX1_readClause 7 = .ok (.if_icmp .eq 17, 3) := by decide +kernel
theorem dX1_readClause_10 : decode cX1_readClause 10 = .ok (.iload_n 2, 1) := by decide +kernel
theorem dX1_readClause_11 : decode cX1_readClause 11 = .ok (.iconst 1, 1) := by decide +kernel
theorem dX1_readClause_12 : decode cX1_readClause 12 = .ok (.if_icmp .ne 14, 3) := by decide +kernel
theorem dX1_readClause_15 : decode cX1_readClause 15 = .ok (.aload_n 0, 1) := by decide +kernel
theorem dX1_readClause_16 : decode cX1_readClause 16 = .ok (.getfield 33, 3) := by decide +kernel
theorem dX1_readClause_19 : decode cX1_readClause 19 = .ok (.bipush 6, 2) := by decide +kernel
theorem dX1_readClause_21 : decode cX1_readClause 21 = .ok (.if_icmp .lt 5, 3) := by decide +kernel
theorem dX1_readClause_24 : decode cX1_readClause 24 = .ok (.iconst 0, 1) := by decide +kernel
theorem dX1_readClause_25 : decode cX1_readClause 25 = .ok (.ireturn, 1) := by decide +kernel
theorem dX1_readClause_26 : decode cX1_readClause 26 = .ok (.aload_n 1, 1) := by decide +kernel
theorem dX1_readClause_27 : decode cX1_readClause 27 = .ok (.iconst 0, 1) := by decide +kernel
theorem dX1_readClause_28 : decode cX1_readClause 28 = .ok (.iload_n 2, 1) := by decide +kernel
theorem dX1_readClause_29 : decode cX1_readClause 29 = .ok (.iastore, 1) := by decide +kernel
theorem dX1_readClause_30 : decode cX1_readClause 30 = .ok (.aload_n 0, 1) := by decide +kernel
theorem dX1_readClause_31 : decode cX1_readClause 31 = .ok (.invokevirtual 54, 3) := by decide +kernel
theorem dX1_readClause_34 : decode cX1_readClause 34 = .ok (.iload_n 2, 1) := by decide +kernel
theorem dX1_readClause_35 : decode cX1_readClause 35 = .ok (.tableswitch 175 0 5 #[37, 44, 50, 56, 109, 150], 37) := by decide +kernel
theorem dX1_readClause_72 : decode cX1_readClause 72 = .ok (.aload_n 0, 1) := by decide +kernel
theorem dX1_readClause_73 : decode cX1_readClause 73 = .ok (.iconst 0, 1) := by decide +kernel
theorem dX1_readClause_74 : decode cX1_readClause 74 = .ok (.putfield 33, 3) := by decide +kernel
theorem dX1_readClause_77 : decode cX1_readClause 77 = .ok (.iconst 1, 1) := by decide +kernel
theorem dX1_readClause_78 : decode cX1_readClause 78 = .ok (.ireturn, 1) := by decide +kernel
theorem dX1_readClause_79 : decode cX1_readClause 79 = .ok (.aload_n 0, 1) := by decide +kernel
theorem dX1_readClause_80 : decode cX1_readClause 80 = .ok (.aload_n 1, 1) := by decide +kernel
theorem dX1_readClause_81 : decode cX1_readClause 81 = .ok (.invokevirtual 100, 3) := by decide +kernel
theorem dX1_readClause_84 : decode cX1_readClause 84 = .ok (.ireturn, 1) := by decide +kernel
theorem dX1_readClause_85 : decode cX1_readClause 85 = .ok (.aload_n 0, 1) := by decide +kernel
theorem dX1_readClause_86 : decode cX1_readClause 86 = .ok (.aload_n 1, 1) := by decide +kernel
theorem dX1_readClause_87 : decode cX1_readClause 87 = .ok (.invokevirtual 103, 3) := by decide +kernel
theorem dX1_readClause_90 : decode cX1_readClause 90 = .ok (.ireturn, 1) := by decide +kernel
theorem dX1_readClause_91 : decode cX1_readClause 91 = .ok (.aload_n 0, 1) := by decide +kernel
theorem dX1_readClause_92 : decode cX1_readClause 92 = .ok (.aload_n 1, 1) := by decide +kernel
theorem dX1_readClause_93 : decode cX1_readClause 93 = .ok (.iconst 1, 1) := by decide +kernel
theorem dX1_readClause_94 : decode cX1_readClause 94 = .ok (.iconst 0, 1) := by decide +kernel
theorem dX1_readClause_95 : decode cX1_readClause 95 = .ok (.iconst 3, 1) := by decide +kernel
theorem dX1_readClause_96 : decode cX1_readClause 96 = .ok (.invokevirtual 106, 3) := by decide +kernel
theorem dX1_readClause_99 : decode cX1_readClause 99 = .ok (.ifCond .eq 43, 3) := by decide +kernel
theorem dX1_readClause_102 : decode cX1_readClause 102 = .ok (.aload_n 0, 1) := by decide +kernel
theorem dX1_readClause_103 : decode cX1_readClause 103 = .ok (.aload_n 1, 1) := by decide +kernel
theorem dX1_readClause_104 : decode cX1_readClause 104 = .ok (.iconst 2, 1) := by decide +kernel
theorem dX1_readClause_105 : decode cX1_readClause 105 = .ok (.iconst 0, 1) := by decide +kernel
theorem dX1_readClause_106 : decode cX1_readClause 106 = .ok (.bipush 11, 2) := by decide +kernel
theorem dX1_readClause_108 : decode cX1_readClause 108 = .ok (.invokevirtual 106, 3) := by decide +kernel
theorem dX1_readClause_111 : decode cX1_readClause 111 = .ok (.ifCond .eq 31, 3) := by decide +kernel
theorem dX1_readClause_114 : decode cX1_readClause 114 = .ok (.aload_n 0, 1) := by decide +kernel
theorem dX1_readClause_115 : decode cX1_readClause 115 = .ok (.aload_n 1, 1) := by decide +kernel
theorem dX1_readClause_116 : decode cX1_readClause 116 = .ok (.iconst 3, 1) := by decide +kernel
theorem dX1_readClause_117 : decode cX1_readClause 117 = .ok (.iconst 0, 1) := by decide +kernel
theorem dX1_readClause_118 : decode cX1_readClause 118 = .ok (.bipush 64, 2) := by decide +kernel
theorem dX1_readClause_120 : decode cX1_readClause 120 = .ok (.invokevirtual 106, 3) := by decide +kernel
theorem dX1_readClause_123 : decode cX1_readClause 123 = .ok (.ifCond .eq 19, 3) := by decide +kernel
theorem dX1_readClause_126 : decode cX1_readClause 126 = .ok (.aload_n 0, 1) := by decide +kernel
theorem dX1_readClause_127 : decode cX1_readClause 127 = .ok (.aload_n 1, 1) := by decide +kernel
theorem dX1_readClause_128 : decode cX1_readClause 128 = .ok (.iconst 4, 1) := by decide +kernel
theorem dX1_readClause_129 : decode cX1_readClause 129 = .ok (.iconst 0, 1) := by decide +kernel
theorem dX1_readClause_130 : decode cX1_readClause 130 = .ok (.bipush 64, 2) := by decide +kernel
theorem dX1_readClause_132 : decode cX1_readClause 132 = .ok (.invokevirtual 106, 3) := by decide +kernel
theorem dX1_readClause_135 : decode cX1_readClause 135 = .ok (.ifCond .eq 7, 3) := by decide +kernel
theorem dX1_readClause_138 : decode cX1_readClause 138 = .ok (.iconst 1, 1) := by decide +kernel
theorem dX1_readClause_139 : decode cX1_readClause 139 = .ok (.goto 4, 3) := by decide +kernel
theorem dX1_readClause_142 : decode cX1_readClause 142 = .ok (.iconst 0, 1) := by decide +kernel
theorem dX1_readClause_143 : decode cX1_readClause 143 = .ok (.ireturn, 1) := by decide +kernel
theorem dX1_readClause_144 : decode cX1_readClause 144 = .ok (.aload_n 0, 1) := by decide +kernel
theorem dX1_readClause_145 : decode cX1_readClause 145 = .ok (.aload_n 1, 1) := by decide +kernel
theorem dX1_readClause_146 : decode cX1_readClause 146 = .ok (.iconst 1, 1) := by decide +kernel
theorem dX1_readClause_147 : decode cX1_readClause 147 = .ok (.iconst 0, 1) := by decide +kernel
theorem dX1_readClause_148 : decode cX1_readClause 148 = .ok (.iconst 3, 1) := by decide +kernel
theorem dX1_readClause_149 : decode cX1_readClause 149 = .ok (.invokevirtual 106, 3) := by decide +kernel
theorem dX1_readClause_152 : decode cX1_readClause 152 = .ok (.ifCond .eq 31, 3) := by decide +kernel
theorem dX1_readClause_155 : decode cX1_readClause 155 = .ok (.aload_n 0, 1) := by decide +kernel
theorem dX1_readClause_156 : decode cX1_readClause 156 = .ok (.aload_n 1, 1) := by decide +kernel
theorem dX1_readClause_157 : decode cX1_readClause 157 = .ok (.iconst 2, 1) := by decide +kernel
theorem dX1_readClause_158 : decode cX1_readClause 158 = .ok (.iconst 0, 1) := by decide +kernel
theorem dX1_readClause_159 : decode cX1_readClause 159 = .ok (.bipush 11, 2) := by decide +kernel
theorem dX1_readClause_161 : decode cX1_readClause 161 = .ok (.invokevirtual 106, 3) := by decide +kernel
theorem dX1_readClause_164 : decode cX1_readClause 164 = .ok (.ifCond .eq 19, 3) := by decide +kernel
theorem dX1_readClause_167 : decode cX1_readClause 167 = .ok (.aload_n 0, 1) := by decide +kernel
theorem dX1_readClause_168 : decode cX1_readClause 168 = .ok (.aload_n 1, 1) := by decide +kernel
theorem dX1_readClause_169 : decode cX1_readClause 169 = .ok (.iconst 3, 1) := by decide +kernel
theorem dX1_readClause_170 : decode cX1_readClause 170 = .ok (.iconst 0, 1) := by decide +kernel
theorem dX1_readClause_171 : decode cX1_readClause 171 = .ok (.bipush 16, 2) := by decide +kernel
theorem dX1_readClause_173 : decode cX1_readClause 173 = .ok (.invokevirtual 106, 3) := by decide +kernel
theorem dX1_readClause_176 : decode cX1_readClause 176 = .ok (.ifCond .eq 7, 3) := by decide +kernel
theorem dX1_readClause_179 : decode cX1_readClause 179 = .ok (.iconst 1, 1) := by decide +kernel
theorem dX1_readClause_180 : decode cX1_readClause 180 = .ok (.goto 4, 3) := by decide +kernel
theorem dX1_readClause_183 : decode cX1_readClause 183 = .ok (.iconst 0, 1) := by decide +kernel
theorem dX1_readClause_184 : decode cX1_readClause 184 = .ok (.ireturn, 1) := by decide +kernel
theorem dX1_readClause_185 : decode cX1_readClause 185 = .ok (.aload_n 0, 1) := by decide +kernel
theorem dX1_readClause_186 : decode cX1_readClause 186 = .ok (.aload_n 1, 1) := by decide +kernel
theorem dX1_readClause_187 : decode cX1_readClause 187 = .ok (.iconst 1, 1) := by decide +kernel
theorem dX1_readClause_188 : decode cX1_readClause 188 = .ok (.iconst 0, 1) := by decide +kernel
theorem dX1_readClause_189 : decode cX1_readClause 189 = .ok (.iconst 3, 1) := by decide +kernel
theorem dX1_readClause_190 : decode cX1_readClause 190 = .ok (.invokevirtual 106, 3) := by decide +kernel
theorem dX1_readClause_193 : decode cX1_readClause 193 = .ok (.ifCond .eq 15, 3) := by decide +kernel
theorem dX1_readClause_196 : decode cX1_readClause 196 = .ok (.aload_n 0, 1) := by decide +kernel
theorem dX1_readClause_197 : decode cX1_readClause 197 = .ok (.aload_n 1, 1) := by decide +kernel
theorem dX1_readClause_198 : decode cX1_readClause 198 = .ok (.invokevirtual 110, 3) := by decide +kernel
theorem dX1_readClause_201 : decode cX1_readClause 201 = .ok (.ifCond .eq 7, 3) := by decide +kernel
theorem dX1_readClause_204 : decode cX1_readClause 204 = .ok (.iconst 1, 1) := by decide +kernel
theorem dX1_readClause_205 : decode cX1_readClause 205 = .ok (.goto 4, 3) := by decide +kernel
theorem dX1_readClause_208 : decode cX1_readClause 208 = .ok (.iconst 0, 1) := by decide +kernel
theorem dX1_readClause_209 : decode cX1_readClause 209 = .ok (.ireturn, 1) := by decide +kernel
theorem dX1_readClause_210 : decode cX1_readClause 210 = .ok (.aload_n 0, 1) := by decide +kernel
theorem dX1_readClause_211 : decode cX1_readClause 211 = .ok (.aload_n 1, 1) := by decide +kernel
theorem dX1_readClause_212 : decode cX1_readClause 212 = .ok (.iconst 1, 1) := by decide +kernel
theorem dX1_readClause_213 : decode cX1_readClause 213 = .ok (.iconst 0, 1) := by decide +kernel
theorem dX1_readClause_214 : decode cX1_readClause 214 = .ok (.iconst 3, 1) := by decide +kernel
theorem dX1_readClause_215 : decode cX1_readClause 215 = .ok (.invokevirtual 106, 3) := by decide +kernel
theorem dX1_readClause_218 : decode cX1_readClause 218 = .ok (.ireturn, 1) := by decide +kernel
theorem dX1_readTone_0 : decode cX1_readTone 0 = .ok (.aload_n 0, 1) := by decide +kernel
theorem dX1_readTone_1 : decode cX1_readTone 1 = .ok (.aload_n 1, 1) := by decide +kernel
theorem dX1_readTone_2 : decode cX1_readTone 2 = .ok (.iconst 1, 1) := by decide +kernel
theorem dX1_readTone_3 : decode cX1_readTone 3 = .ok (.iconst 0, 1) := by decide +kernel
theorem dX1_readTone_4 : decode cX1_readTone 4 = .ok (.sipush 200, 3) := by decide +kernel
theorem dX1_readTone_7 : decode cX1_readTone 7 = .ok (.invokevirtual 106, 3) := by decide +kernel
theorem dX1_readTone_10 : decode cX1_readTone 10 = .ok (.ifCond .eq 28, 3) := by decide +kernel
theorem dX1_readTone_13 : decode cX1_readTone 13 = .ok (.aload_n 0, 1) := by decide +kernel
theorem dX1_readTone_14 : decode cX1_readTone 14 = .ok (.aload_n 1, 1) := by decide +kernel
theorem dX1_readTone_15 : decode cX1_readTone 15 = .ok (.iconst 2, 1) := by decide +kernel
theorem dX1_readTone_16 : decode cX1_readTone 16 = .ok (.iconst 0, 1) := by decide +kernel
theorem dX1_readTone_17 : decode cX1_readTone 17 = .ok (.sipush 200, 3) := by decide +kernel
theorem dX1_readTone_20 : decode cX1_readTone 20 = .ok (.invokevirtual 106, 3) := by decide +kernel
theorem dX1_readTone_23 : decode cX1_readTone 23 = .ok (.ifCond .eq 15, 3) := by decide +kernel
theorem dX1_readTone_26 : decode cX1_readTone 26 = .ok (.aload_n 0, 1) := by decide +kernel
theorem dX1_readTone_27 : decode cX1_readTone 27 = .ok (.aload_n 1, 1) := by decide +kernel
theorem dX1_readTone_28 : decode cX1_readTone 28 = .ok (.iconst 3, 1) := by decide +kernel
theorem dX1_readTone_29 : decode cX1_readTone 29 = .ok (.iconst 1, 1) := by decide +kernel
theorem dX1_readTone_30 : decode cX1_readTone 30 = .ok (.bipush 64, 2) := by decide +kernel
theorem dX1_readTone_32 : decode cX1_readTone 32 = .ok (.invokevirtual 106, 3) := by decide +kernel
theorem dX1_readTone_35 : decode cX1_readTone 35 = .ok (.ifCond .ne 5, 3) := by decide +kernel
theorem dX1_readTone_38 : decode cX1_readTone 38 = .ok (.iconst 0, 1) := by decide +kernel
theorem dX1_readTone_39 : decode cX1_readTone 39 = .ok (.ireturn, 1) := by decide +kernel
theorem dX1_readTone_40 : decode cX1_readTone 40 = .ok (.aload_n 0, 1) := by decide +kernel
theorem dX1_readTone_41 : decode cX1_readTone 41 = .ok (.getfield 29, 3) := by decide +kernel
theorem dX1_readTone_44 : decode cX1_readTone 44 = .ok (.aload_n 0, 1) := by decide +kernel
theorem dX1_readTone_45 : decode cX1_readTone 45 = .ok (.getfield 33, 3) := by decide +kernel
theorem dX1_readTone_48 : decode cX1_readTone 48 = .ok (.aload_n 1, 1) := by decide +kernel
theorem dX1_readTone_49 : decode cX1_readTone 49 = .ok (.iconst 3, 1) := by decide +kernel
theorem dX1_readTone_50 : decode cX1_readTone 50 = .ok (.iaload, 1) := by decide +kernel
theorem dX1_readTone_51 : decode cX1_readTone 51 = .ok (.iastore, 1) := by decide +kernel
theorem dX1_readTone_52 : decode cX1_readTone 52 = .ok (.aload_n 0, 1) := by decide +kernel
theorem dX1_readTone_53 : decode cX1_readTone 53 = .ok (.dup, 1) := by decide +kernel
theorem dX1_readTone_54 : decode cX1_readTone 54 = .ok (.getfield 33, 3) := by decide +kernel
theorem dX1_readTone_57 : decode cX1_readTone 57 = .ok (.iconst 1, 1) := by decide +kernel
theorem dX1_readTone_58 : decode cX1_readTone 58 = .ok (.iadd, 1) := by decide +kernel
theorem dX1_readTone_59 : decode cX1_readTone 59 = .ok (.putfield 33, 3) := by decide +kernel
theorem dX1_readTone_62 : decode cX1_readTone 62 = .ok (.iconst 1, 1) := by decide +kernel
theorem dX1_readTone_63 : decode cX1_readTone 63 = .ok (.ireturn, 1) := by decide +kernel
theorem dX1_readPut_0 : decode cX1_readPut 0 = .ok (.aload_n 0, 1) := by decide +kernel
theorem dX1_readPut_1 : decode cX1_readPut 1 = .ok (.aload_n 1, 1) := by decide +kernel
theorem dX1_readPut_2 : decode cX1_readPut 2 = .ok (.iconst 1, 1) := by decide +kernel
theorem dX1_readPut_3 : decode cX1_readPut 3 = .ok (.iconst 0, 1) := by decide +kernel
theorem dX1_readPut_4 : decode cX1_readPut 4 = .ok (.iconst 3, 1) := by decide +kernel
theorem dX1_readPut_5 : decode cX1_readPut 5 = .ok (.invokevirtual 106, 3) := by decide +kernel
theorem dX1_readPut_8 : decode cX1_readPut 8 = .ok (.ifCond .eq 82, 3) := by decide +kernel
theorem dX1_readPut_11 : decode cX1_readPut 11 = .ok (.aload_n 0, 1) := by decide +kernel
theorem dX1_readPut_12 : decode cX1_readPut 12 = .ok (.aload_n 1, 1) := by decide +kernel
theorem dX1_readPut_13 : decode cX1_readPut 13 = .ok (.iconst 2, 1) := by decide +kernel
theorem dX1_readPut_14 : decode cX1_readPut 14 = .ok (.iconst 0, 1) := by decide +kernel
theorem dX1_readPut_15 : decode cX1_readPut 15 = .ok (.aload_n 0, 1) := by decide +kernel
theorem dX1_readPut_16 : decode cX1_readPut 16 = .ok (.getfield 33, 3) := by decide +kernel
theorem dX1_readPut_19 : decode cX1_readPut 19 = .ok (.iconst 1, 1) := by decide +kernel
theorem dX1_readPut_20 : decode cX1_readPut 20 = .ok (.isub, 1) := by decide +kernel
theorem dX1_readPut_21 : decode cX1_readPut 21 = .ok (.invokevirtual 106, 3) := by decide +kernel
theorem dX1_readPut_24 : decode cX1_readPut 24 = .ok (.ifCond .eq 66, 3) := by decide +kernel
theorem dX1_readPut_27 : decode cX1_readPut 27 = .ok (.aload_n 0, 1) := by decide +kernel
theorem dX1_readPut_28 : decode cX1_readPut 28 = .ok (.aload_n 1, 1) := by decide +kernel
theorem dX1_readPut_29 : decode cX1_readPut 29 = .ok (.iconst 3, 1) := by decide +kernel
theorem dX1_readPut_30 : decode cX1_readPut 30 = .ok (.iconst 0, 1) := by decide +kernel
theorem dX1_readPut_31 : decode cX1_readPut 31 = .ok (.aload_n 0, 1) := by decide +kernel
theorem dX1_readPut_32 : decode cX1_readPut 32 = .ok (.getfield 29, 3) := by decide +kernel
theorem dX1_readPut_35 : decode cX1_readPut 35 = .ok (.aload_n 1, 1) := by decide +kernel
theorem dX1_readPut_36 : decode cX1_readPut 36 = .ok (.iconst 2, 1) := by decide +kernel
theorem dX1_readPut_37 : decode cX1_readPut 37 = .ok (.iaload, 1) := by decide +kernel
theorem dX1_readPut_38 : decode cX1_readPut 38 = .ok (.iaload, 1) := by decide +kernel
theorem dX1_readPut_39 : decode cX1_readPut 39 = .ok (.iconst 1, 1) := by decide +kernel
theorem dX1_readPut_40 : decode cX1_readPut 40 = .ok (.isub, 1) := by decide +kernel
theorem dX1_readPut_41 : decode cX1_readPut 41 = .ok (.invokevirtual 106, 3) := by decide +kernel
theorem dX1_readPut_44 : decode cX1_readPut 44 = .ok (.ifCond .eq 46, 3) := by decide +kernel
theorem dX1_readPut_47 : decode cX1_readPut 47 = .ok (.aload_n 0, 1) := by decide +kernel
theorem dX1_readPut_48 : decode cX1_readPut 48 = .ok (.aload_n 1, 1) := by decide +kernel
theorem dX1_readPut_49 : decode cX1_readPut 49 = .ok (.iconst 4, 1) := by decide +kernel
theorem dX1_readPut_50 : decode cX1_readPut 50 = .ok (.iconst 1, 1) := by decide +kernel
theorem dX1_readPut_51 : decode cX1_readPut 51 = .ok (.aload_n 0, 1) := by decide +kernel
theorem dX1_readPut_52 : decode cX1_readPut 52 = .ok (.getfield 29, 3) := by decide +kernel
theorem dX1_readPut_55 : decode cX1_readPut 55 = .ok (.aload_n 1, 1) := by decide +kernel
theorem dX1_readPut_56 : decode cX1_readPut 56 = .ok (.iconst 2, 1) := by decide +kernel
theorem dX1_readPut_57 : decode cX1_readPut 57 = .ok (.iaload, 1) := by decide +kernel
theorem dX1_readPut_58 : decode cX1_readPut 58 = .ok (.iaload, 1) := by decide +kernel
theorem dX1_readPut_59 : decode cX1_readPut 59 = .ok (.aload_n 1, 1) := by decide +kernel
theorem dX1_readPut_60 : decode cX1_readPut 60 = .ok (.iconst 3, 1) := by decide +kernel
theorem dX1_readPut_61 : decode cX1_readPut 61 = .ok (.iaload, 1) := by decide +kernel
theorem dX1_readPut_62 : decode cX1_readPut 62 = .ok (.isub, 1) := by decide +kernel
theorem dX1_readPut_63 : decode cX1_readPut 63 = .ok (.invokevirtual 106, 3) := by decide +kernel
theorem dX1_readPut_66 : decode cX1_readPut 66 = .ok (.ifCond .eq 24, 3) := by decide +kernel
theorem dX1_readPut_69 : decode cX1_readPut 69 = .ok (.aload_n 0, 1) := by decide +kernel
theorem dX1_readPut_70 : decode cX1_readPut 70 = .ok (.aload_n 1, 1) := by decide +kernel
theorem dX1_readPut_71 : decode cX1_readPut 71 = .ok (.iconst 5, 1) := by decide +kernel
theorem dX1_readPut_72 : decode cX1_readPut 72 = .ok (.iconst 0, 1) := by decide +kernel
theorem dX1_readPut_73 : decode cX1_readPut 73 = .ok (.sipush 128, 3) := by decide +kernel
theorem dX1_readPut_76 : decode cX1_readPut 76 = .ok (.aload_n 1, 1) := by decide +kernel
theorem dX1_readPut_77 : decode cX1_readPut 77 = .ok (.iconst 4, 1) := by decide +kernel
theorem dX1_readPut_78 : decode cX1_readPut 78 = .ok (.iaload, 1) := by decide +kernel
theorem dX1_readPut_79 : decode cX1_readPut 79 = .ok (.isub, 1) := by decide +kernel
theorem dX1_readPut_80 : decode cX1_readPut 80 = .ok (.invokevirtual 106, 3) := by decide +kernel
theorem dX1_readPut_83 : decode cX1_readPut 83 = .ok (.ifCond .eq 7, 3) := by decide +kernel
theorem dX1_readPut_86 : decode cX1_readPut 86 = .ok (.iconst 1, 1) := by decide +kernel
theorem dX1_readPut_87 : decode cX1_readPut 87 = .ok (.goto 4, 3) := by decide +kernel
theorem dX1_readPut_90 : decode cX1_readPut 90 = .ok (.iconst 0, 1) := by decide +kernel
theorem dX1_readPut_91 : decode cX1_readPut 91 = .ok (.ireturn, 1) := by decide +kernel
theorem dX1_readShift_0 : decode cX1_readShift 0 = .ok (.aload_n 0, 1) := by decide +kernel
theorem dX1_readShift_1 : decode cX1_readShift 1 = .ok (.getfield 36, 3) := by decide +kernel
theorem dX1_readShift_4 : decode cX1_readShift 4 = .ok (.aload_n 0, 1) := by decide +kernel
theorem dX1_readShift_5 : decode cX1_readShift 5 = .ok (.getfield 20, 3) := by decide +kernel
theorem dX1_readShift_8 : decode cX1_readShift 8 = .ok (.invokevirtual 48, 3) := by decide +kernel
theorem dX1_readShift_11 : decode cX1_readShift 11 = .ok (.bipush 45, 2) := by decide +kernel
theorem dX1_readShift_13 : decode cX1_readShift 13 = .ok (.if_icmp .ne 7, 3) := by decide +kernel
theorem dX1_readShift_16 : decode cX1_readShift 16 = .ok (.iconst 1, 1) := by decide +kernel
theorem dX1_readShift_17 : decode cX1_readShift 17 = .ok (.goto 4, 3) := by decide +kernel
theorem dX1_readShift_20 : decode cX1_readShift 20 = .ok (.iconst 0, 1) := by decide +kernel
theorem dX1_readShift_21 : decode cX1_readShift 21 = .ok (.istore_n 2, 1) := by decide +kernel
theorem dX1_readShift_22 : decode cX1_readShift 22 = .ok (.iload_n 2, 1) := by decide +kernel
theorem dX1_readShift_23 : decode cX1_readShift 23 = .ok (.ifCond .eq 7, 3) := by decide +kernel
theorem dX1_readShift_26 : decode cX1_readShift 26 = .ok (.aload_n 0, 1) := by decide +kernel
theorem dX1_readShift_27 : decode cX1_readShift 27 = .ok (.invokevirtual 54, 3) := by decide +kernel
theorem dX1_readShift_30 : decode cX1_readShift 30 = .ok (.aload_n 0, 1) := by decide +kernel
theorem dX1_readShift_31 : decode cX1_readShift 31 = .ok (.aload_n 1, 1) := by decide +kernel
theorem dX1_readShift_32 : decode cX1_readShift 32 = .ok (.iconst 2, 1) := by decide +kernel
theorem dX1_readShift_33 : decode cX1_readShift 33 = .ok (.iconst 0, 1) := by decide +kernel
theorem dX1_readShift_34 : decode cX1_readShift 34 = .ok (.bipush 16, 2) := by decide +kernel
theorem dX1_readShift_36 : decode cX1_readShift 36 = .ok (.invokevirtual 106, 3) := by decide +kernel
theorem dX1_readShift_39 : decode cX1_readShift 39 = .ok (.ifCond .ne 5, 3) := by decide +kernel
theorem dX1_readShift_42 : decode cX1_readShift 42 = .ok (.iconst 0, 1) := by decide +kernel
theorem dX1_readShift_43 : decode cX1_readShift 43 = .ok (.ireturn, 1) := by decide +kernel
theorem dX1_readShift_44 : decode cX1_readShift 44 = .ok (.iload_n 2, 1) := by decide +kernel
theorem dX1_readShift_45 : decode cX1_readShift 45 = .ok (.ifCond .eq 10, 3) := by decide +kernel
theorem dX1_readShift_48 : decode cX1_readShift 48 = .ok (.aload_n 1, 1) := by decide +kernel
theorem dX1_readShift_49 : decode cX1_readShift 49 = .ok (.iconst 2, 1) := by decide +kernel
theorem dX1_readShift_50 : decode cX1_readShift 50 = .ok (.aload_n 1, 1) := by decide +kernel
theorem dX1_readShift_51 : decode cX1_readShift 51 = .ok (.iconst 2, 1) := by decide +kernel
theorem dX1_readShift_52 : decode cX1_readShift 52 = .ok (.iaload, 1) := by decide +kernel
theorem dX1_readShift_53 : decode cX1_readShift 53 = .ok (.ineg, 1) := by decide +kernel
theorem dX1_readShift_54 : decode cX1_readShift 54 = .ok (.iastore, 1) := by decide +kernel
theorem dX1_readShift_55 : decode cX1_readShift 55 = .ok (.iconst 1, 1) := by decide +kernel
theorem dX1_readShift_56 : decode cX1_readShift 56 = .ok (.ireturn, 1) := by decide +kernel
theorem dX1_readNumber_0 : decode cX1_readNumber 0 = .ok (.aload_n 0, 1) := by decide +kernel
theorem dX1_readNumber_1 : decode cX1_readNumber 1 = .ok (.getfield 26, 3) := by decide +kernel
theorem dX1_readNumber_4 : decode cX1_readNumber 4 = .ok (.iconst 2, 1) := by decide +kernel
theorem dX1_readNumber_5 : decode cX1_readNumber 5 = .ok (.if_icmp .ne 16, 3) := by decide +kernel
theorem dX1_readNumber_8 : decode cX1_readNumber 8 = .ok (.aload_n 0, 1) := by decide +kernel
theorem dX1_readNumber_9 : decode cX1_readNumber 9 = .ok (.getfield 23, 3) := by decide +kernel
theorem dX1_readNumber_12 : decode cX1_readNumber 12 = .ok (.aload_n 0, 1) := by decide +kernel
theorem dX1_readNumber_13 : decode cX1_readNumber 13 = .ok (.getfield 20, 3) := by decide +kernel
theorem dX1_readNumber_16 : decode cX1_readNumber 16 = .ok (.isub, 1) := by decide +kernel
theorem dX1_readNumber_17 : decode cX1_readNumber 17 = .ok (.iconst 3, 1) := by decide +kernel
theorem dX1_readNumber_18 : decode cX1_readNumber 18 = .ok (.if_icmp .le 5, 3) := by decide +kernel
theorem dX1_readNumber_21 : decode cX1_readNumber 21 = .ok (.iconst 0, 1) := by decide +kernel
theorem dX1_readNumber_22 : decode cX1_readNumber 22 = .ok (.ireturn, 1) := by decide +kernel
theorem dX1_readNumber_23 : decode cX1_readNumber 23 = .ok (.iconst 0, 1) := by decide +kernel
theorem dX1_readNumber_24 : decode cX1_readNumber 24 = .ok (.istore 5, 2) := by decide +kernel
theorem dX1_readNumber_26 : decode cX1_readNumber 26 = .ok (.aload_n 0, 1) := by decide +kernel
theorem dX1_readNumber_27 : decode cX1_readNumber 27 = .ok (.getfield 20, 3) := by decide +kernel
theorem dX1_readNumber_30 : decode cX1_readNumber 30 = .ok (.istore 6, 2) := by decide +kernel
theorem dX1_readNumber_32 : decode cX1_readNumber 32 = .ok (.iload 6, 2) := by decide +kernel
theorem dX1_readNumber_34 : decode cX1_readNumber 34 = .ok (.aload_n 0, 1) := by decide +kernel
theorem dX1_readNumber_35 : decode cX1_readNumber 35 = .ok (.getfield 23, 3) := by decide +kernel
theorem dX1_readNumber_38 : decode cX1_readNumber 38 = .ok (.if_icmp .ge 29, 3) := by decide +kernel
theorem dX1_readNumber_41 : decode cX1_readNumber 41 = .ok (.iload 5, 2) := by decide +kernel
theorem dX1_readNumber_43 : decode cX1_readNumber 43 = .ok (.bipush 10, 2) := by decide +kernel
theorem dX1_readNumber_45 : decode cX1_readNumber 45 = .ok (.imul, 1) := by decide +kernel
theorem dX1_readNumber_46 : decode cX1_readNumber 46 = .ok (.aload_n 0, 1) := by decide +kernel
theorem dX1_readNumber_47 : decode cX1_readNumber 47 = .ok (.getfield 36, 3) := by decide +kernel
theorem dX1_readNumber_50 : decode cX1_readNumber 50 = .ok (.iload 6, 2) := by decide +kernel
theorem dX1_readNumber_52 : decode cX1_readNumber 52 = .ok (.invokevirtual 48, 3) := by decide +kernel
theorem dX1_readNumber_55 : decode cX1_readNumber 55 = .ok (.bipush 48, 2) := by decide +kernel
theorem dX1_readNumber_57 : decode cX1_readNumber 57 = .ok (.isub, 1) := by decide +kernel
theorem dX1_readNumber_58 : decode cX1_readNumber 58 = .ok (.iadd, 1) := by decide +kernel
theorem dX1_readNumber_59 : decode cX1_readNumber 59 = .ok (.istore 5, 2) := by decide +kernel
theorem dX1_readNumber_61 : decode cX1_readNumber 61 = .ok (.iinc 6 1, 3) := by decide +kernel
theorem dX1_readNumber_64 : decode cX1_readNumber 64 = .ok (.goto (-32), 3) := by decide +kernel
theorem dX1_readNumber_67 : decode cX1_readNumber 67 = .ok (.iload 5, 2) := by decide +kernel
theorem dX1_readNumber_69 : decode cX1_readNumber 69 = .ok (.iload_n 3, 1) := by decide +kernel
theorem dX1_readNumber_70 : decode cX1_readNumber 70 = .ok (.iload 4, 2) := by decide +kernel
theorem dX1_readNumber_72 : decode cX1_readNumber 72 = .ok (.invokestatic 113, 3) := by decide +kernel
theorem dX1_readNumber_75 : decode cX1_readNumber 75 = .ok (.ifCond .ne 5, 3) := by decide +kernel
theorem dX1_readNumber_78 : decode cX1_readNumber 78 = .ok (.iconst 0, 1) := by decide +kernel
theorem dX1_readNumber_79 : decode cX1_readNumber 79 = .ok (.ireturn, 1) := by decide +kernel
theorem dX1_readNumber_80 : decode cX1_readNumber 80 = .ok (.aload_n 1, 1) := by decide +kernel
theorem dX1_readNumber_81 : decode cX1_readNumber 81 = .ok (.iload_n 2, 1) := by decide +kernel
theorem dX1_readNumber_82 : decode cX1_readNumber 82 = .ok (.iload 5, 2) := by decide +kernel
theorem dX1_readNumber_84 : decode cX1_readNumber 84 = .ok (.iastore, 1) := by decide +kernel
theorem dX1_readNumber_85 : decode cX1_readNumber 85 = .ok (.aload_n 0, 1) := by decide +kernel
theorem dX1_readNumber_86 : decode cX1_readNumber 86 = .ok (.invokevirtual 54, 3) := by decide +kernel
theorem dX1_readNumber_89 : decode cX1_readNumber 89 = .ok (.iconst 1, 1) := by decide +kernel
theorem dX1_readNumber_90 : decode cX1_readNumber 90 = .ok (.ireturn, 1) := by decide +kernel
theorem dX2_init_0 : decode cX2_init 0 = .ok (.aload_n 0, 1) := by decide +kernel
theorem dX2_init_1 : decode cX2_init 1 = .ok (.invokespecial 3, 3) := by decide +kernel
theorem dX2_init_4 : decode cX2_init 4 = .ok (.aload_n 0, 1) := by decide +kernel
theorem dX2_init_5 : decode cX2_init 5 = .ok (.bipush 6, 2) := by decide +kernel
theorem dX2_init_7 : decode cX2_init 7 = .ok (.bipush 64, 2) := by decide +kernel
theorem dX2_init_9 : decode cX2_init 9 = .ok (.multianewarray 9 2, 4) := by decide +kernel
theorem dX2_init_13 : decode cX2_init 13 = .ok (.putfield 11, 3) := by decide +kernel
theorem dX2_init_16 : decode cX2_init 16 = .ok (.aload_n 0, 1) := by decide +kernel
theorem dX2_init_17 : decode cX2_init 17 = .ok (.bipush 6, 2) := by decide +kernel
theorem dX2_init_19 : decode cX2_init 19 = .ok (.newarray .int, 2) := by decide +kernel
theorem dX2_init_21 : decode cX2_init 21 = .ok (.putfield 16, 3) := by decide +kernel
theorem dX2_init_24 : decode cX2_init 24 = .ok (.aload_n 0, 1) := by decide +kernel
theorem dX2_init_25 : decode cX2_init 25 = .ok (.iconst 0, 1) := by decide +kernel
theorem dX2_init_26 : decode cX2_init 26 = .ok (.putfield 20, 3) := by decide +kernel
theorem dX2_init_29 : decode cX2_init 29 = .ok (.return_, 1) := by decide +kernel
theorem dX2_addRow_0 : decode cX2_addRow 0 = .ok (.aload_n 0, 1) := by decide +kernel
theorem dX2_addRow_1 : decode cX2_addRow 1 = .ok (.getfield 20, 3) := by decide +kernel
theorem dX2_addRow_4 : decode cX2_addRow 4 = .ok (.bipush 6, 2) := by decide +kernel
theorem dX2_addRow_6 : decode cX2_addRow 6 = .ok (.if_icmp .ge 13, 3) := by decide +kernel
theorem dX2_addRow_9 : decode cX2_addRow 9 = .ok (.iload_n 1, 1) := by decide +kernel
theorem dX2_addRow_10 : decode cX2_addRow 10 = .ok (.iconst 1, 1) := by decide +kernel
theorem dX2_addRow_11 : decode cX2_addRow 11 = .ok (.bipush 64, 2) := by decide +kernel
theorem dX2_addRow_13 : decode cX2_addRow 13 = .ok (.invokestatic 24, 3) := by decide +kernel
theorem dX2_addRow_16 : decode cX2_addRow 16 = .ok (.ifCond .ne 5, 3) := by decide +kernel
theorem dX2_addRow_19 : decode cX2_addRow 19 = .ok (.iconst (-1), 1) := by decide +kernel
theorem dX2_addRow_20 : decode cX2_addRow 20 = .ok (.ireturn, 1) := by decide +kernel
theorem dX2_addRow_21 : decode cX2_addRow 21 = .ok (.aload_n 0, 1) := by decide +kernel
theorem dX2_addRow_22 : decode cX2_addRow 22 = .ok (.getfield 20, 3) := by decide +kernel
theorem dX2_addRow_25 : decode cX2_addRow 25 = .ok (.istore_n 2, 1) := by decide +kernel
theorem dX2_addRow_26 : decode cX2_addRow 26 = .ok (.aload_n 0, 1) := by decide +kernel
theorem dX2_addRow_27 : decode cX2_addRow 27 = .ok (.getfield 16, 3) := by decide +kernel
theorem dX2_addRow_30 : decode cX2_addRow 30 = .ok (.iload_n 2, 1) := by decide +kernel
theorem dX2_addRow_31 : decode cX2_addRow 31 = .ok (.iload_n 1, 1) := by decide +kernel
theorem dX2_addRow_32 : decode cX2_addRow 32 = .ok (.iastore, 1) := by decide +kernel
theorem dX2_addRow_33 : decode cX2_addRow 33 = .ok (.aload_n 0, 1) := by decide +kernel
theorem dX2_addRow_34 : decode cX2_addRow 34 = .ok (.iload_n 2, 1) := by decide +kernel
theorem dX2_addRow_35 : decode cX2_addRow 35 = .ok (.iconst 1, 1) := by decide +kernel
theorem dX2_addRow_36 : decode cX2_addRow 36 = .ok (.iadd, 1) := by decide +kernel
theorem dX2_addRow_37 : decode cX2_addRow 37 = .ok (.putfield 20, 3) := by decide +kernel
theorem dX2_addRow_40 : decode cX2_addRow 40 = .ok (.iload_n 2, 1) := by decide +kernel
theorem dX2_addRow_41 : decode cX2_addRow 41 = .ok (.ireturn, 1) := by decide +kernel
theorem dX2_addTone_0 : decode cX2_addTone 0 = .ok (.aload_n 0, 1) := by decide +kernel
theorem dX2_addTone_1 : decode cX2_addTone 1 = .ok (.iload_n 3, 1) := by decide +kernel
theorem dX2_addTone_2 : decode cX2_addTone 2 = .ok (.invokevirtual 28, 3) := by decide +kernel
theorem dX2_addTone_5 : decode cX2_addTone 5 = .ok (.istore 4, 2) := by decide +kernel
theorem dX2_addTone_7 : decode cX2_addTone 7 = .ok (.iconst 0, 1) := by decide +kernel
theorem dX2_addTone_8 : decode cX2_addTone 8 = .ok (.istore 5, 2) := by decide +kernel
theorem dX2_addTone_10 : decode cX2_addTone 10 = .ok (.iload 5, 2) := by decide +kernel
theorem dX2_addTone_12 : decode cX2_addTone 12 = .ok (.iload_n 3, 1) := by decide +kernel
theorem dX2_addTone_13 : decode cX2_addTone 13 = .ok (.if_icmp .ge 31, 3) := by decide +kernel
theorem dX2_addTone_16 : decode cX2_addTone 16 = .ok (.aload_n 0, 1) := by decide +kernel
theorem dX2_addTone_17 : decode cX2_addTone 17 = .ok (.iload 4, 2) := by decide +kernel
theorem dX2_addTone_19 : decode cX2_addTone 19 = .ok (.iload 5, 2) := by decide +kernel
theorem dX2_addTone_21 : decode cX2_addTone 21 = .ok (.iload_n 1, 1) := by decide +kernel
theorem dX2_addTone_22 : decode cX2_addTone 22 = .ok (.iload 5, 2) := by decide +kernel
theorem dX2_addTone_24 : decode cX2_addTone 24 = .ok (.imul, 1) := by decide +kernel
theorem dX2_addTone_25 : decode cX2_addTone 25 = .ok (.iload_n 2, 1) := by decide +kernel
theorem dX2_addTone_26 : decode cX2_addTone 26 = .ok (.iadd, 1) := by decide +kernel
theorem dX2_addTone_27 : decode cX2_addTone 27 = .ok (.sipush 201, 3) := by decide +kernel
theorem dX2_addTone_30 : decode cX2_addTone 30 = .ok (.irem, 1) := by decide +kernel
theorem dX2_addTone_31 : decode cX2_addTone 31 = .ok (.bipush 100, 2) := by decide +kernel
theorem dX2_addTone_33 : decode cX2_addTone 33 = .ok (.isub, 1) := by decide +kernel
theorem dX2_addTone_34 : decode cX2_addTone 34 = .ok (.i2f, 1) := by decide +kernel
theorem dX2_addTone_35 : decode cX2_addTone 35 = .ok (.invokevirtual 32, 3) := by decide +kernel
theorem dX2_addTone_38 : decode cX2_addTone 38 = .ok (.iinc 5 1, 3) := by decide +kernel
theorem dX2_addTone_41 : decode cX2_addTone 41 = .ok (.goto (-31), 3) := by decide +kernel
theorem dX2_addTone_44 : decode cX2_addTone 44 = .ok (.iload 4, 2) := by decide +kernel
theorem dX2_addTone_46 : decode cX2_addTone 46 = .ok (.ireturn, 1) := by decide +kernel
theorem dX2_isThere_0 : decode cX2_isThere 0 = .ok (.iload_n 1, 1) := by decide +kernel
theorem dX2_isThere_1 : decode cX2_isThere 1 = .ok (.iconst 0, 1) := by decide +kernel
theorem dX2_isThere_2 : decode cX2_isThere 2 = .ok (.aload_n 0, 1) := by decide +kernel
theorem dX2_isThere_3 : decode cX2_isThere 3 = .ok (.getfield 20, 3) := by decide +kernel
theorem dX2_isThere_6 : decode cX2_isThere 6 = .ok (.iconst 1, 1) := by decide +kernel
theorem dX2_isThere_7 : decode cX2_isThere 7 = .ok (.isub, 1) := by decide +kernel
theorem dX2_isThere_8 : decode cX2_isThere 8 = .ok (.invokestatic 24, 3) := by decide +kernel
theorem dX2_isThere_11 : decode cX2_isThere 11 = .ok (.ifCond .eq 23, 3) := by decide +kernel
theorem dX2_isThere_14 : decode cX2_isThere 14 = .ok (.iload_n 2, 1) := by decide +kernel
theorem dX2_isThere_15 : decode cX2_isThere 15 = .ok (.iconst 0, 1) := by decide +kernel
theorem dX2_isThere_16 : decode cX2_isThere 16 = .ok (.aload_n 0, 1) := by decide +kernel
theorem dX2_isThere_17 : decode cX2_isThere 17 = .ok (.getfield 16, 3) := by decide +kernel
theorem dX2_isThere_20 : decode cX2_isThere 20 = .ok (.iload_n 1, 1) := by decide +kernel
theorem dX2_isThere_21 : decode cX2_isThere 21 = .ok (.iaload, 1) := by decide +kernel
theorem dX2_isThere_22 : decode cX2_isThere 22 = .ok (.iconst 1, 1) := by decide +kernel
theorem dX2_isThere_23 : decode cX2_isThere 23 = .ok (.isub, 1) := by decide +kernel
theorem dX2_isThere_24 : decode cX2_isThere 24 = .ok (.invokestatic 24, 3) := by decide +kernel
theorem dX2_isThere_27 : decode cX2_isThere 27 = .ok (.ifCond .eq 7, 3) := by decide +kernel
theorem dX2_isThere_30 : decode cX2_isThere 30 = .ok (.iconst 1, 1) := by decide +kernel
theorem dX2_isThere_31 : decode cX2_isThere 31 = .ok (.goto 4, 3) := by decide +kernel
theorem dX2_isThere_34 : decode cX2_isThere 34 = .ok (.iconst 0, 1) := by decide +kernel
theorem dX2_isThere_35 : decode cX2_isThere 35 = .ok (.ireturn, 1) := by decide +kernel
theorem dX2_floatAt_0 : decode cX2_floatAt 0 = .ok (.aload_n 0, 1) := by decide +kernel
theorem dX2_floatAt_1 : decode cX2_floatAt 1 = .ok (.iload_n 1, 1) := by decide +kernel
theorem dX2_floatAt_2 : decode cX2_floatAt 2 = .ok (.iload_n 2, 1) := by decide +kernel
theorem dX2_floatAt_3 : decode cX2_floatAt 3 = .ok (.invokevirtual 36, 3) := by decide +kernel
theorem dX2_floatAt_6 : decode cX2_floatAt 6 = .ok (.ifCond .eq 14, 3) := by decide +kernel
theorem dX2_floatAt_9 : decode cX2_floatAt 9 = .ok (.aload_n 0, 1) := by decide +kernel
theorem dX2_floatAt_10 : decode cX2_floatAt 10 = .ok (.getfield 11, 3) := by decide +kernel
theorem dX2_floatAt_13 : decode cX2_floatAt 13 = .ok (.iload_n 1, 1) := by decide +kernel
theorem dX2_floatAt_14 : decode cX2_floatAt 14 = .ok (.aaload, 1) := by decide +kernel
theorem dX2_floatAt_15 : decode cX2_floatAt 15 = .ok (.iload_n 2, 1) := by decide +kernel
theorem dX2_floatAt_16 : decode cX2_floatAt 16 = .ok (.faload, 1) := by decide +kernel
theorem dX2_floatAt_17 : decode cX2_floatAt 17 = .ok (.goto 4, 3) := by decide +kernel
theorem dX2_floatAt_20 : decode cX2_floatAt 20 = .ok (.fconst 0, 1) := by decide +kernel
theorem dX2_floatAt_21 : decode cX2_floatAt 21 = .ok (.freturn, 1) := by decide +kernel
theorem dX2_setFloat_0 : decode cX2_setFloat 0 = .ok (.aload_n 0, 1) := by decide +kernel
theorem dX2_setFloat_1 : decode cX2_setFloat 1 = .ok (.iload_n 1, 1) := by decide +kernel
theorem dX2_setFloat_2 : decode cX2_setFloat 2 = .ok (.iload_n 2, 1) := by decide +kernel
theorem dX2_setFloat_3 : decode cX2_setFloat 3 = .ok (.invokevirtual 36, 3) := by decide +kernel
theorem dX2_setFloat_6 : decode cX2_setFloat 6 = .ok (.ifCond .eq 12, 3) := by decide +kernel
theorem dX2_setFloat_9 : decode cX2_setFloat 9 = .ok (.aload_n 0, 1) := by decide +kernel
theorem dX2_setFloat_10 : decode cX2_setFloat 10 = .ok (.getfield 11, 3) := by decide +kernel
theorem dX2_setFloat_13 : decode cX2_setFloat 13 = .ok (.iload_n 1, 1) := by decide +kernel
theorem dX2_setFloat_14 : decode cX2_setFloat 14 = .ok (.aaload, 1) := by decide +kernel
theorem dX2_setFloat_15 : decode cX2_setFloat 15 = .ok (.iload_n 2, 1) := by decide +kernel
theorem dX2_setFloat_16 : decode cX2_setFloat 16 = .ok (.fload_n 3, 1) := by decide +kernel
theorem dX2_setFloat_17 : decode cX2_setFloat 17 = .ok (.fastore, 1) := by decide +kernel
theorem dX2_setFloat_18 : decode cX2_setFloat 18 = .ok (.return_, 1) := by decide +kernel
theorem dX3_init_0 : decode cX3_init 0 = .ok (.aload_n 0, 1) := by decide +kernel
theorem dX3_init_1 : decode cX3_init 1 = .ok (.invokespecial 1, 3) := by decide +kernel
theorem dX3_init_4 : decode cX3_init 4 = .ok (.aload_n 0, 1) := by decide +kernel
theorem dX3_init_5 : decode cX3_init 5 = .ok (.iload_n 1, 1) := by decide +kernel
theorem dX3_init_6 : decode cX3_init 6 = .ok (.putfield 7, 3) := by decide +kernel
theorem dX3_init_9 : decode cX3_init 9 = .ok (.aload_n 0, 1) := by decide +kernel
theorem dX3_init_10 : decode cX3_init 10 = .ok (.iload_n 2, 1) := by decide +kernel
theorem dX3_init_11 : decode cX3_init 11 = .ok (.putfield 13, 3) := by decide +kernel
theorem dX3_init_14 : decode cX3_init 14 = .ok (.aload_n 0, 1) := by decide +kernel
theorem dX3_init_15 : decode cX3_init 15 = .ok (.iload_n 3, 1) := by decide +kernel
theorem dX3_init_16 : decode cX3_init 16 = .ok (.putfield 16, 3) := by decide +kernel
theorem dX3_init_19 : decode cX3_init 19 = .ok (.aload_n 0, 1) := by decide +kernel
theorem dX3_init_20 : decode cX3_init 20 = .ok (.iload 4, 2) := by decide +kernel
theorem dX3_init_22 : decode cX3_init 22 = .ok (.putfield 19, 3) := by decide +kernel
theorem dX3_init_25 : decode cX3_init 25 = .ok (.aload_n 0, 1) := by decide +kernel
theorem dX3_init_26 : decode cX3_init 26 = .ok (.iload 5, 2) := by decide +kernel
theorem dX3_init_28 : decode cX3_init 28 = .ok (.putfield 22, 3) := by decide +kernel
theorem dX3_init_31 : decode cX3_init 31 = .ok (.aload_n 0, 1) := by decide +kernel
theorem dX3_init_32 : decode cX3_init 32 = .ok (.iload 6, 2) := by decide +kernel
theorem dX3_init_34 : decode cX3_init 34 = .ok (.putfield 25, 3) := by decide +kernel
theorem dX3_init_37 : decode cX3_init 37 = .ok (.aload_n 0, 1) := by decide +kernel
theorem dX3_init_38 : decode cX3_init 38 = .ok (.iload 7, 2) := by decide +kernel
theorem dX3_init_40 : decode cX3_init 40 = .ok (.putfield 28, 3) := by decide +kernel
theorem dX3_init_43 : decode cX3_init 43 = .ok (.return_, 1) := by decide +kernel
theorem dX3_end_0 : decode cX3_end 0 = .ok (.aload_n 0, 1) := by decide +kernel
theorem dX3_end_1 : decode cX3_end 1 = .ok (.getfield 19, 3) := by decide +kernel
theorem dX3_end_4 : decode cX3_end 4 = .ok (.aload_n 0, 1) := by decide +kernel
theorem dX3_end_5 : decode cX3_end 5 = .ok (.getfield 16, 3) := by decide +kernel
theorem dX3_end_8 : decode cX3_end 8 = .ok (.iadd, 1) := by decide +kernel
theorem dX3_end_9 : decode cX3_end 9 = .ok (.ireturn, 1) := by decide +kernel
theorem dX3_allowsFades_0 : decode cX3_allowsFades 0 = .ok (.iload_n 1, 1) := by decide +kernel
theorem dX3_allowsFades_1 : decode cX3_allowsFades 1 = .ok (.iconst 0, 1) := by decide +kernel
theorem dX3_allowsFades_2 : decode cX3_allowsFades 2 = .ok (.aload_n 0, 1) := by decide +kernel
theorem dX3_allowsFades_3 : decode cX3_allowsFades 3 = .ok (.getfield 16, 3) := by decide +kernel
theorem dX3_allowsFades_6 : decode cX3_allowsFades 6 = .ok (.invokestatic 31, 3) := by decide +kernel
theorem dX3_allowsFades_9 : decode cX3_allowsFades 9 = .ok (.ifCond .eq 21, 3) := by decide +kernel
theorem dX3_allowsFades_12 : decode cX3_allowsFades 12 = .ok (.iload_n 2, 1) := by decide +kernel
theorem dX3_allowsFades_13 : decode cX3_allowsFades 13 = .ok (.iconst 0, 1) := by decide +kernel
theorem dX3_allowsFades_14 : decode cX3_allowsFades 14 = .ok (.aload_n 0, 1) := by decide +kernel
theorem dX3_allowsFades_15 : decode cX3_allowsFades 15 = .ok (.getfield 16, 3) := by decide +kernel
theorem dX3_allowsFades_18 : decode cX3_allowsFades 18 = .ok (.iload_n 1, 1) := by decide +kernel
theorem dX3_allowsFades_19 : decode cX3_allowsFades 19 = .ok (.isub, 1) := by decide +kernel
theorem dX3_allowsFades_20 : decode cX3_allowsFades 20 = .ok (.invokestatic 31, 3) := by decide +kernel
theorem dX3_allowsFades_23 : decode cX3_allowsFades 23 = .ok (.ifCond .eq 7, 3) := by decide +kernel
theorem dX3_allowsFades_26 : decode cX3_allowsFades 26 = .ok (.iconst 1, 1) := by decide +kernel
theorem dX3_allowsFades_27 : decode cX3_allowsFades 27 = .ok (.goto 4, 3) := by decide +kernel
theorem dX3_allowsFades_30 : decode cX3_allowsFades 30 = .ok (.iconst 0, 1) := by decide +kernel
theorem dX3_allowsFades_31 : decode cX3_allowsFades 31 = .ok (.ireturn, 1) := by decide +kernel
theorem dX3_faded_0 : decode cX3_faded 0 = .ok (.new 8, 3) := by decide +kernel
theorem dX3_faded_3 : decode cX3_faded 3 = .ok (.dup, 1) := by decide +kernel
theorem dX3_faded_4 : decode cX3_faded 4 = .ok (.aload_n 0, 1) := by decide +kernel
theorem dX3_faded_5 : decode cX3_faded 5 = .ok (.getfield 7, 3) := by decide +kernel
theorem dX3_faded_8 : decode cX3_faded 8 = .ok (.aload_n 0, 1) := by decide +kernel
theorem dX3_faded_9 : decode cX3_faded 9 = .ok (.getfield 13, 3) := by decide +kernel
theorem dX3_faded_12 : decode cX3_faded 12 = .ok (.aload_n 0, 1) := by decide +kernel
theorem dX3_faded_13 : decode cX3_faded 13 = .ok (.getfield 16, 3) := by decide +kernel
theorem dX3_faded_16 : decode cX3_faded 16 = .ok (.aload_n 0, 1) := by decide +kernel
theorem dX3_faded_17 : decode cX3_faded 17 = .ok (.getfield 19, 3) := by decide +kernel
theorem dX3_faded_20 : decode cX3_faded 20 = .ok (.aload_n 0, 1) := by decide +kernel
theorem dX3_faded_21 : decode cX3_faded 21 = .ok (.getfield 22, 3) := by decide +kernel
theorem dX3_faded_24 : decode cX3_faded 24 = .ok (.iload_n 1, 1) := by decide +kernel
theorem dX3_faded_25 : decode cX3_faded 25 = .ok (.iload_n 2, 1) := by decide +kernel
theorem dX3_faded_26 : decode cX3_faded 26 = .ok (.invokespecial 37, 3) := by decide +kernel
theorem dX3_faded_29 : decode cX3_faded 29 = .ok (.areturn, 1) := by decide +kernel
theorem dX3_louder_0 : decode cX3_louder 0 = .ok (.new 8, 3) := by decide +kernel
theorem dX3_louder_3 : decode cX3_louder 3 = .ok (.dup, 1) := by decide +kernel
theorem dX3_louder_4 : decode cX3_louder 4 = .ok (.aload_n 0, 1) := by decide +kernel
theorem dX3_louder_5 : decode cX3_louder 5 = .ok (.getfield 7, 3) := by decide +kernel
theorem dX3_louder_8 : decode cX3_louder 8 = .ok (.aload_n 0, 1) := by decide +kernel
theorem dX3_louder_9 : decode cX3_louder 9 = .ok (.getfield 13, 3) := by decide +kernel
theorem dX3_louder_12 : decode cX3_louder 12 = .ok (.aload_n 0, 1) := by decide +kernel
theorem dX3_louder_13 : decode cX3_louder 13 = .ok (.getfield 16, 3) := by decide +kernel
theorem dX3_louder_16 : decode cX3_louder 16 = .ok (.aload_n 0, 1) := by decide +kernel
theorem dX3_louder_17 : decode cX3_louder 17 = .ok (.getfield 19, 3) := by decide +kernel
theorem dX3_louder_20 : decode cX3_louder 20 = .ok (.iload_n 1, 1) := by decide +kernel
theorem dX3_louder_21 : decode cX3_louder 21 = .ok (.aload_n 0, 1) := by decide +kernel
theorem dX3_louder_22 : decode cX3_louder 22 = .ok (.getfield 25, 3) := by decide +kernel
theorem dX3_louder_25 : decode cX3_louder 25 = .ok (.aload_n 0, 1) := by decide +kernel
theorem dX3_louder_26 : decode cX3_louder 26 = .ok (.getfield 28, 3) := by decide +kernel
theorem dX3_louder_29 : decode cX3_louder 29 = .ok (.invokespecial 37, 3) := by decide +kernel
theorem dX3_louder_32 : decode cX3_louder 32 = .ok (.areturn, 1) := by decide +kernel
theorem dX3_movedTo_0 : decode cX3_movedTo 0 = .ok (.new 8, 3) := by decide +kernel
theorem dX3_movedTo_3 : decode cX3_movedTo 3 = .ok (.dup, 1) := by decide +kernel
theorem dX3_movedTo_4 : decode cX3_movedTo 4 = .ok (.aload_n 0, 1) := by decide +kernel
theorem dX3_movedTo_5 : decode cX3_movedTo 5 = .ok (.getfield 7, 3) := by decide +kernel
theorem dX3_movedTo_8 : decode cX3_movedTo 8 = .ok (.aload_n 0, 1) := by decide +kernel
theorem dX3_movedTo_9 : decode cX3_movedTo 9 = .ok (.getfield 13, 3) := by decide +kernel
theorem dX3_movedTo_12 : decode cX3_movedTo 12 = .ok (.aload_n 0, 1) := by decide +kernel
theorem dX3_movedTo_13 : decode cX3_movedTo 13 = .ok (.getfield 16, 3) := by decide +kernel
theorem dX3_movedTo_16 : decode cX3_movedTo 16 = .ok (.iload_n 1, 1) := by decide +kernel
theorem dX3_movedTo_17 : decode cX3_movedTo 17 = .ok (.aload_n 0, 1) := by decide +kernel
theorem dX3_movedTo_18 : decode cX3_movedTo 18 = .ok (.getfield 22, 3) := by decide +kernel
theorem dX3_movedTo_21 : decode cX3_movedTo 21 = .ok (.aload_n 0, 1) := by decide +kernel
theorem dX3_movedTo_22 : decode cX3_movedTo 22 = .ok (.getfield 25, 3) := by decide +kernel
theorem dX3_movedTo_25 : decode cX3_movedTo 25 = .ok (.aload_n 0, 1) := by decide +kernel
theorem dX3_movedTo_26 : decode cX3_movedTo 26 = .ok (.getfield 28, 3) := by decide +kernel
theorem dX3_movedTo_29 : decode cX3_movedTo 29 = .ok (.invokespecial 37, 3) := by decide +kernel
theorem dX3_movedTo_32 : decode cX3_movedTo 32 = .ok (.areturn, 1) := by decide +kernel
theorem dX3_aheadOf_0 : decode cX3_aheadOf 0 = .ok (.iload_n 1, 1) := by decide +kernel
theorem dX3_aheadOf_1 : decode cX3_aheadOf 1 = .ok (.aload_n 0, 1) := by decide +kernel
theorem dX3_aheadOf_2 : decode cX3_aheadOf 2 = .ok (.getfield 19, 3) := by decide +kernel
theorem dX3_aheadOf_5 : decode cX3_aheadOf 5 = .ok (.isub, 1) := by decide +kernel
theorem dX3_aheadOf_6 : decode cX3_aheadOf 6 = .ok (.istore_n 2, 1) := by decide +kernel
theorem dX3_aheadOf_7 : decode cX3_aheadOf 7 = .ok (.new 8, 3) := by decide +kernel
theorem dX3_aheadOf_10 : decode cX3_aheadOf 10 = .ok (.dup, 1) := by decide +kernel
theorem dX3_aheadOf_11 : decode cX3_aheadOf 11 = .ok (.aload_n 0, 1) := by decide +kernel
theorem dX3_aheadOf_12 : decode cX3_aheadOf 12 = .ok (.getfield 7, 3) := by decide +kernel
theorem dX3_aheadOf_15 : decode cX3_aheadOf 15 = .ok (.aload_n 0, 1) := by decide +kernel
theorem dX3_aheadOf_16 : decode cX3_aheadOf 16 = .ok (.getfield 13, 3) := by decide +kernel
theorem dX3_aheadOf_19 : decode cX3_aheadOf 19 = .ok (.iload_n 2, 1) := by decide +kernel
theorem dX3_aheadOf_20 : decode cX3_aheadOf 20 = .ok (.aload_n 0, 1) := by decide +kernel
theorem dX3_aheadOf_21 : decode cX3_aheadOf 21 = .ok (.getfield 19, 3) := by decide +kernel
theorem dX3_aheadOf_24 : decode cX3_aheadOf 24 = .ok (.aload_n 0, 1) := by decide +kernel
theorem dX3_aheadOf_25 : decode cX3_aheadOf 25 = .ok (.getfield 22, 3) := by decide +kernel
theorem dX3_aheadOf_28 : decode cX3_aheadOf 28 = .ok (.aload_n 0, 1) := by decide +kernel
theorem dX3_aheadOf_29 : decode cX3_aheadOf 29 = .ok (.getfield 25, 3) := by decide +kernel
theorem dX3_aheadOf_32 : decode cX3_aheadOf 32 = .ok (.iload_n 2, 1) := by decide +kernel
theorem dX3_aheadOf_33 : decode cX3_aheadOf 33 = .ok (.invokestatic 40, 3) := by decide +kernel
theorem dX3_aheadOf_36 : decode cX3_aheadOf 36 = .ok (.iconst 0, 1) := by decide +kernel
theorem dX3_aheadOf_37 : decode cX3_aheadOf 37 = .ok (.invokespecial 37, 3) := by decide +kernel
theorem dX3_aheadOf_40 : decode cX3_aheadOf 40 = .ok (.areturn, 1) := by decide +kernel
theorem dX3_from_0 : decode cX3_from 0 = .ok (.iload_n 1, 1) := by decide +kernel
theorem dX3_from_1 : decode cX3_from 1 = .ok (.aload_n 0, 1) := by decide +kernel
theorem dX3_from_2 : decode cX3_from 2 = .ok (.getfield 19, 3) := by decide +kernel
theorem dX3_from_5 : decode cX3_from 5 = .ok (.isub, 1) := by decide +kernel
theorem dX3_from_6 : decode cX3_from 6 = .ok (.istore_n 2, 1) := by decide +kernel
theorem dX3_from_7 : decode cX3_from 7 = .ok (.aload_n 0, 1) := by decide +kernel
theorem dX3_from_8 : decode cX3_from 8 = .ok (.getfield 16, 3) := by decide +kernel
theorem dX3_from_11 : decode cX3_from 11 = .ok (.iload_n 2, 1) := by decide +kernel
theorem dX3_from_12 : decode cX3_from 12 = .ok (.isub, 1) := by decide +kernel
theorem dX3_from_13 : decode cX3_from 13 = .ok (.istore_n 3, 1) := by decide +kernel
theorem dX3_from_14 : decode cX3_from 14 = .ok (.new 8, 3) := by decide +kernel
theorem dX3_from_17 : decode cX3_from 17 = .ok (.dup, 1) := by decide +kernel
theorem dX3_from_18 : decode cX3_from 18 = .ok (.aload_n 0, 1) := by decide +kernel
theorem dX3_from_19 : decode cX3_from 19 = .ok (.getfield 7, 3) := by decide +kernel
theorem dX3_from_22 : decode cX3_from 22 = .ok (.aload_n 0, 1) := by decide +kernel
theorem dX3_from_23 : decode cX3_from 23 = .ok (.getfield 13, 3) := by decide +kernel
theorem dX3_from_26 : decode cX3_from 26 = .ok (.iload_n 2, 1) := by decide +kernel
theorem dX3_from_27 : decode cX3_from 27 = .ok (.iadd, 1) := by decide +kernel
theorem dX3_from_28 : decode cX3_from 28 = .ok (.iload_n 3, 1) := by decide +kernel
theorem dX3_from_29 : decode cX3_from 29 = .ok (.iload_n 1, 1) := by decide +kernel
theorem dX3_from_30 : decode cX3_from 30 = .ok (.aload_n 0, 1) := by decide +kernel
theorem dX3_from_31 : decode cX3_from 31 = .ok (.getfield 22, 3) := by decide +kernel
theorem dX3_from_34 : decode cX3_from 34 = .ok (.iconst 0, 1) := by decide +kernel
theorem dX3_from_35 : decode cX3_from 35 = .ok (.aload_n 0, 1) := by decide +kernel
theorem dX3_from_36 : decode cX3_from 36 = .ok (.getfield 28, 3) := by decide +kernel
theorem dX3_from_39 : decode cX3_from 39 = .ok (.iload_n 3, 1) := by decide +kernel
theorem dX3_from_40 : decode cX3_from 40 = .ok (.invokestatic 40, 3) := by decide +kernel
theorem dX3_from_43 : decode cX3_from 43 = .ok (.invokespecial 37, 3) := by decide +kernel
theorem dX3_from_46 : decode cX3_from 46 = .ok (.areturn, 1) := by decide +kernel
theorem dX3_weigh_0 : decode cX3_weigh 0 = .ok (.fload_n 1, 1) := by decide +kernel
theorem dX3_weigh_1 : decode cX3_weigh 1 = .ok (.aload_n 0, 1) := by decide +kernel
theorem dX3_weigh_2 : decode cX3_weigh 2 = .ok (.getfield 22, 3) := by decide +kernel
theorem dX3_weigh_5 : decode cX3_weigh 5 = .ok (.i2f, 1) := by decide +kernel
theorem dX3_weigh_6 : decode cX3_weigh 6 = .ok (.ldc 46, 2) := by decide +kernel
theorem dX3_weigh_8 : decode cX3_weigh 8 = .ok (.fdiv, 1) := by decide +kernel
theorem dX3_weigh_9 : decode cX3_weigh 9 = .ok (.fmul, 1) := by decide +kernel
theorem dX3_weigh_10 : decode cX3_weigh 10 = .ok (.fstore_n 3, 1) := by decide +kernel
theorem dX3_weigh_11 : decode cX3_weigh 11 = .ok (.iload_n 2, 1) := by decide +kernel
theorem dX3_weigh_12 : decode cX3_weigh 12 = .ok (.aload_n 0, 1) := by decide +kernel
theorem dX3_weigh_13 : decode cX3_weigh 13 = .ok (.getfield 25, 3) := by decide +kernel
theorem dX3_weigh_16 : decode cX3_weigh 16 = .ok (.if_icmp .ge 18, 3) := by decide +kernel
theorem dX3_weigh_19 : decode cX3_weigh 19 = .ok (.fload_n 3, 1) := by decide +kernel
theorem dX3_weigh_20 : decode cX3_weigh 20 = .ok (.iload_n 2, 1) := by decide +kernel
theorem dX3_weigh_21 : decode cX3_weigh 21 = .ok (.iconst 1, 1) := by decide +kernel
theorem dX3_weigh_22 : decode cX3_weigh 22 = .ok (.iadd, 1) := by decide +kernel
theorem dX3_weigh_23 : decode cX3_weigh 23 = .ok (.i2f, 1) := by decide +kernel
theorem dX3_weigh_24 : decode cX3_weigh 24 = .ok (.aload_n 0, 1) := by decide +kernel
theorem dX3_weigh_25 : decode cX3_weigh 25 = .ok (.getfield 25, 3) := by decide +kernel
theorem dX3_weigh_28 : decode cX3_weigh 28 = .ok (.iconst 1, 1) := by decide +kernel
theorem dX3_weigh_29 : decode cX3_weigh 29 = .ok (.iadd, 1) := by decide +kernel
theorem dX3_weigh_30 : decode cX3_weigh 30 = .ok (.i2f, 1) := by decide +kernel
theorem dX3_weigh_31 : decode cX3_weigh 31 = .ok (.fdiv, 1) := by decide +kernel
theorem dX3_weigh_32 : decode cX3_weigh 32 = .ok (.fmul, 1) := by decide +kernel
theorem dX3_weigh_33 : decode cX3_weigh 33 = .ok (.fstore_n 3, 1) := by decide +kernel
theorem dX3_weigh_34 : decode cX3_weigh 34 = .ok (.iload_n 2, 1) := by decide +kernel
theorem dX3_weigh_35 : decode cX3_weigh 35 = .ok (.aload_n 0, 1) := by decide +kernel
theorem dX3_weigh_36 : decode cX3_weigh 36 = .ok (.getfield 16, 3) := by decide +kernel
theorem dX3_weigh_39 : decode cX3_weigh 39 = .ok (.aload_n 0, 1) := by decide +kernel
theorem dX3_weigh_40 : decode cX3_weigh 40 = .ok (.getfield 28, 3) := by decide +kernel
theorem dX3_weigh_43 : decode cX3_weigh 43 = .ok (.isub, 1) := by decide +kernel
theorem dX3_weigh_44 : decode cX3_weigh 44 = .ok (.if_icmp .lt 21, 3) := by decide +kernel
theorem dX3_weigh_47 : decode cX3_weigh 47 = .ok (.fload_n 3, 1) := by decide +kernel
theorem dX3_weigh_48 : decode cX3_weigh 48 = .ok (.aload_n 0, 1) := by decide +kernel
theorem dX3_weigh_49 : decode cX3_weigh 49 = .ok (.getfield 16, 3) := by decide +kernel
theorem dX3_weigh_52 : decode cX3_weigh 52 = .ok (.iload_n 2, 1) := by decide +kernel
theorem dX3_weigh_53 : decode cX3_weigh 53 = .ok (.isub, 1) := by decide +kernel
theorem dX3_weigh_54 : decode cX3_weigh 54 = .ok (.i2f, 1) := by decide +kernel
theorem dX3_weigh_55 : decode cX3_weigh 55 = .ok (.aload_n 0, 1) := by decide +kernel
theorem dX3_weigh_56 : decode cX3_weigh 56 = .ok (.getfield 28, 3) := by decide +kernel
theorem dX3_weigh_59 : decode cX3_weigh 59 = .ok (.iconst 1, 1) := by decide +kernel
theorem dX3_weigh_60 : decode cX3_weigh 60 = .ok (.iadd, 1) := by decide +kernel
theorem dX3_weigh_61 : decode cX3_weigh 61 = .ok (.i2f, 1) := by decide +kernel
theorem dX3_weigh_62 : decode cX3_weigh 62 = .ok (.fdiv, 1) := by decide +kernel
theorem dX3_weigh_63 : decode cX3_weigh 63 = .ok (.fmul, 1) := by decide +kernel
theorem dX3_weigh_64 : decode cX3_weigh 64 = .ok (.fstore_n 3, 1) := by decide +kernel
theorem dX3_weigh_65 : decode cX3_weigh 65 = .ok (.fload_n 3, 1) := by decide +kernel
theorem dX3_weigh_66 : decode cX3_weigh 66 = .ok (.freturn, 1) := by decide +kernel
theorem dX4_init_0 : decode cX4_init 0 = .ok (.aload_n 0, 1) := by decide +kernel
theorem dX4_init_1 : decode cX4_init 1 = .ok (.invokespecial 3, 3) := by decide +kernel
theorem dX4_init_4 : decode cX4_init 4 = .ok (.aload_n 0, 1) := by decide +kernel
theorem dX4_init_5 : decode cX4_init 5 = .ok (.bipush 14, 2) := by decide +kernel
theorem dX4_init_7 : decode cX4_init 7 = .ok (.anewarray 9, 3) := by decide +kernel
theorem dX4_init_10 : decode cX4_init 10 = .ok (.putfield 11, 3) := by decide +kernel
theorem dX4_init_13 : decode cX4_init 13 = .ok (.aload_n 0, 1) := by decide +kernel
theorem dX4_init_14 : decode cX4_init 14 = .ok (.iconst 0, 1) := by decide +kernel
theorem dX4_init_15 : decode cX4_init 15 = .ok (.putfield 17, 3) := by decide +kernel
theorem dX4_init_18 : decode cX4_init 18 = .ok (.aload_n 0, 1) := by decide +kernel
theorem dX4_init_19 : decode cX4_init 19 = .ok (.iconst 0, 1) := by decide +kernel
theorem dX4_init_20 : decode cX4_init 20 = .ok (.putfield 21, 3) := by decide +kernel
theorem dX4_init_23 : decode cX4_init 23 = .ok (.return_, 1) := by decide +kernel
theorem dX4_copyOf_0 : decode cX4_copyOf 0 = .ok (.aload_n 0, 1) := by decide +kernel
theorem dX4_copyOf_1 : decode cX4_copyOf 1 = .ok (.aload_n 1, 1) := by decide +kernel
theorem dX4_copyOf_2 : decode cX4_copyOf 2 = .ok (.getfield 17, 3) := by decide +kernel
theorem dX4_copyOf_5 : decode cX4_copyOf 5 = .ok (.putfield 17, 3) := by decide +kernel
theorem dX4_copyOf_8 : decode cX4_copyOf 8 = .ok (.aload_n 0, 1) := by decide +kernel
theorem dX4_copyOf_9 : decode cX4_copyOf 9 = .ok (.aload_n 1, 1) := by decide +kernel
theorem dX4_copyOf_10 : decode cX4_copyOf 10 = .ok (.getfield 21, 3) := by decide +kernel
theorem dX4_copyOf_13 : decode cX4_copyOf 13 = .ok (.putfield 21, 3) := by decide +kernel
theorem dX4_copyOf_16 : decode cX4_copyOf 16 = .ok (.iconst 0, 1) := by decide +kernel
theorem dX4_copyOf_17 : decode cX4_copyOf 17 = .ok (.istore_n 2, 1) := by decide +kernel
theorem dX4_copyOf_18 : decode cX4_copyOf 18 = .ok (.iload_n 2, 1) := by decide +kernel
theorem dX4_copyOf_19 : decode cX4_copyOf 19 = .ok (.bipush 14, 2) := by decide +kernel
theorem dX4_copyOf_21 : decode cX4_copyOf 21 = .ok (.if_icmp .ge 21, 3) := by decide +kernel
theorem dX4_copyOf_24 : decode cX4_copyOf 24 = .ok (.aload_n 0, 1) := by decide +kernel
theorem dX4_copyOf_25 : decode cX4_copyOf 25 = .ok (.getfield 11, 3) := by decide +kernel
theorem dX4_copyOf_28 : decode cX4_copyOf 28 = .ok (.iload_n 2, 1) := by decide +kernel
theorem dX4_copyOf_29 : decode cX4_copyOf 29 = .ok (.aload_n 1, 1) := by decide +kernel
theorem dX4_copyOf_30 : decode cX4_copyOf 30 = .ok (.getfield 11, 3) := by decide +kernel
theorem dX4_copyOf_33 : decode cX4_copyOf 33 = .ok (.iload_n 2, 1) := by decide +kernel
theorem dX4_copyOf_34 : decode cX4_copyOf 34 = .ok (.aaload, 1) := by decide +kernel
theorem dX4_copyOf_35 : decode cX4_copyOf 35 = .ok (.aastore, 1) := by decide +kernel
theorem dX4_copyOf_36 : decode cX4_copyOf 36 = .ok (.iinc 2 1, 3) := by decide +kernel
theorem dX4_copyOf_39 : decode cX4_copyOf 39 = .ok (.goto (-21), 3) := by decide +kernel
theorem dX4_copyOf_42 : decode cX4_copyOf 42 = .ok (.return_, 1) := by decide +kernel
theorem dX4_takeRest_0 : decode cX4_takeRest 0 = .ok (.aload_n 0, 1) := by decide +kernel
theorem dX4_takeRest_1 : decode cX4_takeRest 1 = .ok (.iconst 0, 1) := by decide +kernel
theorem dX4_takeRest_2 : decode cX4_takeRest 2 = .ok (.putfield 17, 3) := by decide +kernel
theorem dX4_takeRest_5 : decode cX4_takeRest 5 = .ok (.aload_n 0, 1) := by decide +kernel
theorem dX4_takeRest_6 : decode cX4_takeRest 6 = .ok (.aload_n 1, 1) := by decide +kernel
theorem dX4_takeRest_7 : decode cX4_takeRest 7 = .ok (.getfield 21, 3) := by decide +kernel
theorem dX4_takeRest_10 : decode cX4_takeRest 10 = .ok (.putfield 21, 3) := by decide +kernel
theorem dX4_takeRest_13 : decode cX4_takeRest 13 = .ok (.iconst 0, 1) := by decide +kernel
theorem dX4_takeRest_14 : decode cX4_takeRest 14 = .ok (.istore 5, 2) := by decide +kernel
theorem dX4_takeRest_16 : decode cX4_takeRest 16 = .ok (.iload 5, 2) := by decide +kernel
theorem dX4_takeRest_18 : decode cX4_takeRest 18 = .ok (.aload_n 1, 1) := by decide +kernel
theorem dX4_takeRest_19 : decode cX4_takeRest 19 = .ok (.getfield 17, 3) := by decide +kernel
theorem dX4_takeRest_22 : decode cX4_takeRest 22 = .ok (.if_icmp .ge 98, 3) := by decide +kernel
theorem dX4_takeRest_25 : decode cX4_takeRest 25 = .ok (.aload_n 1, 1) := by decide +kernel
theorem dX4_takeRest_26 : decode cX4_takeRest 26 = .ok (.getfield 11, 3) := by decide +kernel
theorem dX4_takeRest_29 : decode cX4_takeRest 29 = .ok (.iload 5, 2) := by decide +kernel
theorem dX4_takeRest_31 : decode cX4_takeRest 31 = .ok (.aaload, 1) := by decide +kernel
theorem dX4_takeRest_32 : decode cX4_takeRest 32 = .ok (.astore 6, 2) := by decide +kernel
theorem dX4_takeRest_34 : decode cX4_takeRest 34 = .ok (.iload 5, 2) := by decide +kernel
theorem dX4_takeRest_36 : decode cX4_takeRest 36 = .ok (.iload 4, 2) := by decide +kernel
theorem dX4_takeRest_38 : decode cX4_takeRest 38 = .ok (.if_icmp .ne 6, 3) := by decide +kernel
theorem dX4_takeRest_41 : decode cX4_takeRest 41 = .ok (.goto 73, 3) := by decide +kernel
theorem dX4_takeRest_44 : decode cX4_takeRest 44 = .ok (.iload_n 2, 1) := by decide +kernel
theorem dX4_takeRest_45 : decode cX4_takeRest 45 = .ok (.iload_n 3, 1) := by decide +kernel
theorem dX4_takeRest_46 : decode cX4_takeRest 46 = .ok (.if_icmp .ge 21, 3) := by decide +kernel
theorem dX4_takeRest_49 : decode cX4_takeRest 49 = .ok (.aload 6, 2) := by decide +kernel
theorem dX4_takeRest_51 : decode cX4_takeRest 51 = .ok (.invokevirtual 24, 3) := by decide +kernel
theorem dX4_takeRest_54 : decode cX4_takeRest 54 = .ok (.iload_n 2, 1) := by decide +kernel
theorem dX4_takeRest_55 : decode cX4_takeRest 55 = .ok (.if_icmp .le 12, 3) := by decide +kernel
theorem dX4_takeRest_58 : decode cX4_takeRest 58 = .ok (.aload 6, 2) := by decide +kernel
theorem dX4_takeRest_60 : decode cX4_takeRest 60 = .ok (.getfield 28, 3) := by decide +kernel
theorem dX4_takeRest_63 : decode cX4_takeRest 63 = .ok (.iload_n 3, 1) := by decide +kernel
theorem dX4_takeRest_64 : decode cX4_takeRest 64 = .ok (.if_icmp .lt 12, 3) := by decide +kernel
theorem dX4_takeRest_67 : decode cX4_takeRest 67 = .ok (.aload_n 0, 1) := by decide +kernel
theorem dX4_takeRest_68 : decode cX4_takeRest 68 = .ok (.aload 6, 2) := by decide +kernel
theorem dX4_takeRest_70 : decode cX4_takeRest 70 = .ok (.invokevirtual 31, 3) := by decide +kernel
theorem dX4_takeRest_73 : decode cX4_takeRest 73 = .ok (.goto 41, 3) := by decide +kernel
theorem dX4_takeRest_76 : decode cX4_takeRest 76 = .ok (.aload 6, 2) := by decide +kernel
theorem dX4_takeRest_78 : decode cX4_takeRest 78 = .ok (.getfield 28, 3) := by decide +kernel
theorem dX4_takeRest_81 : decode cX4_takeRest 81 = .ok (.iload_n 2, 1) := by decide +kernel
theorem dX4_takeRest_82 : decode cX4_takeRest 82 = .ok (.if_icmp .ge 13, 3) := by decide +kernel
theorem dX4_takeRest_85 : decode cX4_takeRest 85 = .ok (.aload_n 0, 1) := by decide +kernel
theorem dX4_takeRest_86 : decode cX4_takeRest 86 = .ok (.aload 6, 2) := by decide +kernel
theorem dX4_takeRest_88 : decode cX4_takeRest 88 = .ok (.iload_n 2, 1) := by decide +kernel
theorem dX4_takeRest_89 : decode cX4_takeRest 89 = .ok (.invokevirtual 35, 3) := by decide +kernel
theorem dX4_takeRest_92 : decode cX4_takeRest 92 = .ok (.invokevirtual 31, 3) := by decide +kernel
theorem dX4_takeRest_95 : decode cX4_takeRest 95 = .ok (.aload 6, 2) := by decide +kernel
theorem dX4_takeRest_97 : decode cX4_takeRest 97 = .ok (.invokevirtual 24, 3) := by decide +kernel
theorem dX4_takeRest_100 : decode cX4_takeRest 100 = .ok (.iload_n 3, 1) := by decide +kernel
theorem dX4_takeRest_101 : decode cX4_takeRest 101 = .ok (.if_icmp .le 13, 3) := by decide +kernel
theorem dX4_takeRest_104 : decode cX4_takeRest 104 = .ok (.aload_n 0, 1) := by decide +kernel
theorem dX4_takeRest_105 : decode cX4_takeRest 105 = .ok (.aload 6, 2) := by decide +kernel
theorem dX4_takeRest_107 : decode cX4_takeRest 107 = .ok (.iload_n 3, 1) := by decide +kernel
theorem dX4_takeRest_108 : decode cX4_takeRest 108 = .ok (.invokevirtual 39, 3) := by decide +kernel
theorem dX4_takeRest_111 : decode cX4_takeRest 111 = .ok (.invokevirtual 31, 3) := by decide +kernel
theorem dX4_takeRest_114 : decode cX4_takeRest 114 = .ok (.iinc 5 1, 3) := by decide +kernel
theorem dX4_takeRest_117 : decode cX4_takeRest 117 = .ok (.goto (-101), 3) := by decide +kernel
theorem dX4_takeRest_120 : decode cX4_takeRest 120 = .ok (.return_, 1) := by decide +kernel
theorem dX4_append_0 : decode cX4_append 0 = .ok (.aload_n 0, 1) := by decide +kernel
theorem dX4_append_1 : decode cX4_append 1 = .ok (.getfield 17, 3) := by decide +kernel
theorem dX4_append_4 : decode cX4_append 4 = .ok (.bipush 14, 2) := by decide +kernel
theorem dX4_append_6 : decode cX4_append 6 = .ok (.if_icmp .ge 23, 3) := by decide +kernel
theorem dX4_append_9 : decode cX4_append 9 = .ok (.aload_n 0, 1) := by decide +kernel
theorem dX4_append_10 : decode cX4_append 10 = .ok (.getfield 11, 3) := by decide +kernel
theorem dX4_append_13 : decode cX4_append 13 = .ok (.aload_n 0, 1) := by decide +kernel
theorem dX4_append_14 : decode cX4_append 14 = .ok (.getfield 17, 3) := by decide +kernel
theorem dX4_append_17 : decode cX4_append 17 = .ok (.aload_n 1, 1) := by decide +kernel
theorem dX4_append_18 : decode cX4_append 18 = .ok (.aastore, 1) := by decide +kernel
theorem dX4_append_19 : decode cX4_append 19 = .ok (.aload_n 0, 1) := by decide +kernel
theorem dX4_append_20 : decode cX4_append 20 = .ok (.dup, 1) := by decide +kernel
theorem dX4_append_21 : decode cX4_append 21 = .ok (.getfield 17, 3) := by decide +kernel
theorem dX4_append_24 : decode cX4_append 24 = .ok (.iconst 1, 1) := by decide +kernel
theorem dX4_append_25 : decode cX4_append 25 = .ok (.iadd, 1) := by decide +kernel
theorem dX4_append_26 : decode cX4_append 26 = .ok (.putfield 17, 3) := by decide +kernel
theorem dX4_append_29 : decode cX4_append 29 = .ok (.return_, 1) := by decide +kernel
theorem dX4_insert_0 : decode cX4_insert 0 = .ok (.aload_n 0, 1) := by decide +kernel
theorem dX4_insert_1 : decode cX4_insert 1 = .ok (.getfield 17, 3) := by decide +kernel
theorem dX4_insert_4 : decode cX4_insert 4 = .ok (.bipush 14, 2) := by decide +kernel
theorem dX4_insert_6 : decode cX4_insert 6 = .ok (.if_icmp .lt 4, 3) := by decide +kernel
theorem dX4_insert_9 : decode cX4_insert 9 = .ok (.return_, 1) := by decide +kernel
theorem dX4_insert_10 : decode cX4_insert 10 = .ok (.aload_n 0, 1) := by decide +kernel
theorem dX4_insert_11 : decode cX4_insert 11 = .ok (.getfield 17, 3) := by decide +kernel
theorem dX4_insert_14 : decode cX4_insert 14 = .ok (.istore_n 2, 1) := by decide +kernel
theorem dX4_insert_15 : decode cX4_insert 15 = .ok (.iload_n 2, 1) := by decide +kernel
theorem dX4_insert_16 : decode cX4_insert 16 = .ok (.ifCond .le 41, 3) := by decide +kernel
theorem dX4_insert_19 : decode cX4_insert 19 = .ok (.aload_n 0, 1) := by decide +kernel
theorem dX4_insert_20 : decode cX4_insert 20 = .ok (.getfield 11, 3) := by decide +kernel
theorem dX4_insert_23 : decode cX4_insert 23 = .ok (.iload_n 2, 1) := by decide +kernel
theorem dX4_insert_24 : decode cX4_insert 24 = .ok (.iconst 1, 1) := by decide +kernel
theorem dX4_insert_25 : decode cX4_insert 25 = .ok (.isub, 1) := by decide +kernel
theorem dX4_insert_26 : decode cX4_insert 26 = .ok (.aaload, 1) := by decide +kernel
theorem dX4_insert_27 : decode cX4_insert 27 = .ok (.getfield 28, 3) := by decide +kernel
theorem dX4_insert_30 : decode cX4_insert 30 = .ok (.aload_n 1, 1) := by decide +kernel
theorem dX4_insert_31 : decode cX4_insert 31 = .ok (.getfield 28, 3) := by decide +kernel
theorem dX4_insert_34 : decode cX4_insert 34 = .ok (.if_icmp .le 23, 3) := by decide +kernel
theorem dX4_insert_37 : decode cX4_insert 37 = .ok (.aload_n 0, 1) := by decide +kernel
theorem dX4_insert_38 : decode cX4_insert 38 = .ok (.getfield 11, 3) := by decide +kernel
theorem dX4_insert_41 : decode cX4_insert 41 = .ok (.iload_n 2, 1) := by decide +kernel
theorem dX4_insert_42 : decode cX4_insert 42 = .ok (.aload_n 0, 1) := by decide +kernel
theorem dX4_insert_43 : decode cX4_insert 43 = .ok (.getfield 11, 3) := by decide +kernel
theorem dX4_insert_46 : decode cX4_insert 46 = .ok (.iload_n 2, 1) := by decide +kernel
theorem dX4_insert_47 : decode cX4_insert 47 = .ok (.iconst 1, 1) := by decide +kernel
theorem dX4_insert_48 : decode cX4_insert 48 = .ok (.isub, 1) := by decide +kernel
theorem dX4_insert_49 : decode cX4_insert 49 = .ok (.aaload, 1) := by decide +kernel
theorem dX4_insert_50 : decode cX4_insert 50 = .ok (.aastore, 1) := by decide +kernel
theorem dX4_insert_51 : decode cX4_insert 51 = .ok (.iinc 2 (-1), 3) := by decide +kernel
theorem dX4_insert_54 : decode cX4_insert 54 = .ok (.goto (-39), 3) := by decide +kernel
theorem dX4_insert_57 : decode cX4_insert 57 = .ok (.aload_n 0, 1) := by decide +kernel
theorem dX4_insert_58 : decode cX4_insert 58 = .ok (.getfield 11, 3) := by decide +kernel
theorem dX4_insert_61 : decode cX4_insert 61 = .ok (.iload_n 2, 1) := by decide +kernel
theorem dX4_insert_62 : decode cX4_insert 62 = .ok (.aload_n 1, 1) := by decide +kernel
theorem dX4_insert_63 : decode cX4_insert 63 = .ok (.aastore, 1) := by decide +kernel
theorem dX4_insert_64 : decode cX4_insert 64 = .ok (.aload_n 0, 1) := by decide +kernel
theorem dX4_insert_65 : decode cX4_insert 65 = .ok (.dup, 1) := by decide +kernel
theorem dX4_insert_66 : decode cX4_insert 66 = .ok (.getfield 17, 3) := by decide +kernel
theorem dX4_insert_69 : decode cX4_insert 69 = .ok (.iconst 1, 1) := by decide +kernel
theorem dX4_insert_70 : decode cX4_insert 70 = .ok (.iadd, 1) := by decide +kernel
theorem dX4_insert_71 : decode cX4_insert 71 = .ok (.putfield 17, 3) := by decide +kernel
theorem dX4_insert_74 : decode cX4_insert 74 = .ok (.return_, 1) := by decide +kernel
theorem dX4_indexAt_0 : decode cX4_indexAt 0 = .ok (.iconst 0, 1) := by decide +kernel
theorem dX4_indexAt_1 : decode cX4_indexAt 1 = .ok (.istore_n 2, 1) := by decide +kernel
theorem dX4_indexAt_2 : decode cX4_indexAt 2 = .ok (.iload_n 2, 1) := by decide +kernel
theorem dX4_indexAt_3 : decode cX4_indexAt 3 = .ok (.aload_n 0, 1) := by decide +kernel
theorem dX4_indexAt_4 : decode cX4_indexAt 4 = .ok (.getfield 17, 3) := by decide +kernel
theorem dX4_indexAt_7 : decode cX4_indexAt 7 = .ok (.if_icmp .ge 38, 3) := by decide +kernel
theorem dX4_indexAt_10 : decode cX4_indexAt 10 = .ok (.iload_n 1, 1) := by decide +kernel
theorem dX4_indexAt_11 : decode cX4_indexAt 11 = .ok (.aload_n 0, 1) := by decide +kernel
theorem dX4_indexAt_12 : decode cX4_indexAt 12 = .ok (.getfield 11, 3) := by decide +kernel
theorem dX4_indexAt_15 : decode cX4_indexAt 15 = .ok (.iload_n 2, 1) := by decide +kernel
theorem dX4_indexAt_16 : decode cX4_indexAt 16 = .ok (.aaload, 1) := by decide +kernel
theorem dX4_indexAt_17 : decode cX4_indexAt 17 = .ok (.getfield 28, 3) := by decide +kernel
theorem dX4_indexAt_20 : decode cX4_indexAt 20 = .ok (.aload_n 0, 1) := by decide +kernel
theorem dX4_indexAt_21 : decode cX4_indexAt 21 = .ok (.getfield 11, 3) := by decide +kernel
theorem dX4_indexAt_24 : decode cX4_indexAt 24 = .ok (.iload_n 2, 1) := by decide +kernel
theorem dX4_indexAt_25 : decode cX4_indexAt 25 = .ok (.aaload, 1) := by decide +kernel
theorem dX4_indexAt_26 : decode cX4_indexAt 26 = .ok (.invokevirtual 24, 3) := by decide +kernel
theorem dX4_indexAt_29 : decode cX4_indexAt 29 = .ok (.iconst 1, 1) := by decide +kernel
theorem dX4_indexAt_30 : decode cX4_indexAt 30 = .ok (.isub, 1) := by decide +kernel
theorem dX4_indexAt_31 : decode cX4_indexAt 31 = .ok (.invokestatic 42, 3) := by decide +kernel
theorem dX4_indexAt_34 : decode cX4_indexAt 34 = .ok (.ifCond .eq 5, 3) := by decide +kernel
theorem dX4_indexAt_37 : decode cX4_indexAt 37 = .ok (.iload_n 2, 1) := by decide +kernel
theorem dX4_indexAt_38 : decode cX4_indexAt 38 = .ok (.ireturn, 1) := by decide +kernel
theorem dX4_indexAt_39 : decode cX4_indexAt 39 = .ok (.iinc 2 1, 3) := by decide +kernel
theorem dX4_indexAt_42 : decode cX4_indexAt 42 = .ok (.goto (-40), 3) := by decide +kernel
theorem dX4_indexAt_45 : decode cX4_indexAt 45 = .ok (.iconst (-1), 1) := by decide +kernel
theorem dX4_indexAt_46 : decode cX4_indexAt 46 = .ok (.ireturn, 1) := by decide +kernel
theorem dX4_momentsWithin_0 : decode cX4_momentsWithin 0 = .ok (.iconst 0, 1) := by decide +kernel
theorem dX4_momentsWithin_1 : decode cX4_momentsWithin 1 = .ok (.istore_n 3, 1) := by decide +kernel
theorem dX4_momentsWithin_2 : decode cX4_momentsWithin 2 = .ok (.iconst 0, 1) := by decide +kernel
theorem dX4_momentsWithin_3 : decode cX4_momentsWithin 3 = .ok (.istore 4, 2) := by decide +kernel
theorem dX4_momentsWithin_5 : decode cX4_momentsWithin 5 = .ok (.iload 4, 2) := by decide +kernel
theorem dX4_momentsWithin_7 : decode cX4_momentsWithin 7 = .ok (.aload_n 0, 1) := by decide +kernel
theorem dX4_momentsWithin_8 : decode cX4_momentsWithin 8 = .ok (.getfield 17, 3) := by decide +kernel
theorem dX4_momentsWithin_11 : decode cX4_momentsWithin 11 = .ok (.if_icmp .ge 49, 3) := by decide +kernel
theorem dX4_momentsWithin_14 : decode cX4_momentsWithin 14 = .ok (.iload_n 2, 1) := by decide +kernel
theorem dX4_momentsWithin_15 : decode cX4_momentsWithin 15 = .ok (.aload_n 0, 1) := by decide +kernel
theorem dX4_momentsWithin_16 : decode cX4_momentsWithin 16 = .ok (.getfield 11, 3) := by decide +kernel
theorem dX4_momentsWithin_19 : decode cX4_momentsWithin 19 = .ok (.iload 4, 2) := by decide +kernel
theorem dX4_momentsWithin_21 : decode cX4_momentsWithin 21 = .ok (.aaload, 1) := by decide +kernel
theorem dX4_momentsWithin_22 : decode cX4_momentsWithin 22 = .ok (.invokevirtual 24, 3) := by decide +kernel
theorem dX4_momentsWithin_25 : decode cX4_momentsWithin 25 = .ok (.invokestatic 46, 3) := by decide +kernel
theorem dX4_momentsWithin_28 : decode cX4_momentsWithin 28 = .ok (.iload_n 1, 1) := by decide +kernel
theorem dX4_momentsWithin_29 : decode cX4_momentsWithin 29 = .ok (.aload_n 0, 1) := by decide +kernel
theorem dX4_momentsWithin_30 : decode cX4_momentsWithin 30 = .ok (.getfield 11, 3) := by decide +kernel
theorem dX4_momentsWithin_33 : decode cX4_momentsWithin 33 = .ok (.iload 4, 2) := by decide +kernel
theorem dX4_momentsWithin_35 : decode cX4_momentsWithin 35 = .ok (.aaload, 1) := by decide +kernel
theorem dX4_momentsWithin_36 : decode cX4_momentsWithin 36 = .ok (.getfield 28, 3) := by decide +kernel
theorem dX4_momentsWithin_39 : decode cX4_momentsWithin 39 = .ok (.invokestatic 52, 3) := by decide +kernel
theorem dX4_momentsWithin_42 : decode cX4_momentsWithin 42 = .ok (.isub, 1) := by decide +kernel
theorem dX4_momentsWithin_43 : decode cX4_momentsWithin 43 = .ok (.istore 5, 2) := by decide +kernel
theorem dX4_momentsWithin_45 : decode cX4_momentsWithin 45 = .ok (.iload_n 3, 1) := by decide +kernel
theorem dX4_momentsWithin_46 : decode cX4_momentsWithin 46 = .ok (.iload 5, 2) := by decide +kernel
theorem dX4_momentsWithin_48 : decode cX4_momentsWithin 48 = .ok (.iconst 0, 1) := by decide +kernel
theorem dX4_momentsWithin_49 : decode cX4_momentsWithin 49 = .ok (.invokestatic 52, 3) := by decide +kernel
theorem dX4_momentsWithin_52 : decode cX4_momentsWithin 52 = .ok (.iadd, 1) := by decide +kernel
theorem dX4_momentsWithin_53 : decode cX4_momentsWithin 53 = .ok (.istore_n 3, 1) := by decide +kernel
theorem dX4_momentsWithin_54 : decode cX4_momentsWithin 54 = .ok (.iinc 4 1, 3) := by decide +kernel
theorem dX4_momentsWithin_57 : decode cX4_momentsWithin 57 = .ok (.goto (-52), 3) := by decide +kernel
theorem dX4_momentsWithin_60 : decode cX4_momentsWithin 60 = .ok (.iload_n 3, 1) := by decide +kernel
theorem dX4_momentsWithin_61 : decode cX4_momentsWithin 61 = .ok (.ireturn, 1) := by decide +kernel
theorem dX4_timesOf_0 : decode cX4_timesOf 0 = .ok (.iconst 0, 1) := by decide +kernel
theorem dX4_timesOf_1 : decode cX4_timesOf 1 = .ok (.istore_n 3, 1) := by decide +kernel
theorem dX4_timesOf_2 : decode cX4_timesOf 2 = .ok (.iconst 0, 1) := by decide +kernel
theorem dX4_timesOf_3 : decode cX4_timesOf 3 = .ok (.istore 4, 2) := by decide +kernel
theorem dX4_timesOf_5 : decode cX4_timesOf 5 = .ok (.iload 4, 2) := by decide +kernel
theorem dX4_timesOf_7 : decode cX4_timesOf 7 = .ok (.aload_n 0, 1) := by decide +kernel
theorem dX4_timesOf_8 : decode cX4_timesOf 8 = .ok (.getfield 17, 3) := by decide +kernel
theorem dX4_timesOf_11 : decode cX4_timesOf 11 = .ok (.if_icmp .ge 55, 3) := by decide +kernel
theorem dX4_timesOf_14 : decode cX4_timesOf 14 = .ok (.aload_n 0, 1) := by decide +kernel
theorem dX4_timesOf_15 : decode cX4_timesOf 15 = .ok (.getfield 11, 3) := by decide +kernel
theorem dX4_timesOf_18 : decode cX4_timesOf 18 = .ok (.iload 4, 2) := by decide +kernel
theorem dX4_timesOf_20 : decode cX4_timesOf 20 = .ok (.aaload, 1) := by decide +kernel
theorem dX4_timesOf_21 : decode cX4_timesOf 21 = .ok (.astore 5, 2) := by decide +kernel
theorem dX4_timesOf_23 : decode cX4_timesOf 23 = .ok (.aload 5, 2) := by decide +kernel
theorem dX4_timesOf_25 : decode cX4_timesOf 25 = .ok (.getfield 55, 3) := by decide +kernel
theorem dX4_timesOf_28 : decode cX4_timesOf 28 = .ok (.iload_n 1, 1) := by decide +kernel
theorem dX4_timesOf_29 : decode cX4_timesOf 29 = .ok (.if_icmp .ne 31, 3) := by decide +kernel
theorem dX4_timesOf_32 : decode cX4_timesOf 32 = .ok (.iload_n 2, 1) := by decide +kernel
theorem dX4_timesOf_33 : decode cX4_timesOf 33 = .ok (.aload 5, 2) := by decide +kernel
theorem dX4_timesOf_35 : decode cX4_timesOf 35 = .ok (.getfield 58, 3) := by decide +kernel
theorem dX4_timesOf_38 : decode cX4_timesOf 38 = .ok (.aload 5, 2) := by decide +kernel
theorem dX4_timesOf_40 : decode cX4_timesOf 40 = .ok (.getfield 58, 3) := by decide +kernel
theorem dX4_timesOf_43 : decode cX4_timesOf 43 = .ok (.aload 5, 2) := by decide +kernel
theorem dX4_timesOf_45 : decode cX4_timesOf 45 = .ok (.getfield 61, 3) := by decide +kernel
theorem dX4_timesOf_48 : decode cX4_timesOf 48 = .ok (.iadd, 1) := by decide +kernel
theorem dX4_timesOf_49 : decode cX4_timesOf 49 = .ok (.iconst 1, 1) := by decide +kernel
theorem dX4_timesOf_50 : decode cX4_timesOf 50 = .ok (.isub, 1) := by decide +kernel
theorem dX4_timesOf_51 : decode cX4_timesOf 51 = .ok (.invokestatic 42, 3) := by decide +kernel
theorem dX4_timesOf_54 : decode cX4_timesOf 54 = .ok (.ifCond .eq 6, 3) := by decide +kernel
theorem dX4_timesOf_57 : decode cX4_timesOf 57 = .ok (.iinc 3 1, 3) := by decide +kernel
theorem dX4_timesOf_60 : decode cX4_timesOf 60 = .ok (.iinc 4 1, 3) := by decide +kernel
theorem dX4_timesOf_63 : decode cX4_timesOf 63 = .ok (.goto (-58), 3) := by decide +kernel
theorem dX4_timesOf_66 : decode cX4_timesOf 66 = .ok (.iload_n 3, 1) := by decide +kernel
theorem dX4_timesOf_67 : decode cX4_timesOf 67 = .ok (.ireturn, 1) := by decide +kernel
theorem dX4_gaps_0 : decode cX4_gaps 0 = .ok (.iconst 0, 1) := by decide +kernel
theorem dX4_gaps_1 : decode cX4_gaps 1 = .ok (.istore_n 1, 1) := by decide +kernel
theorem dX4_gaps_2 : decode cX4_gaps 2 = .ok (.iconst 0, 1) := by decide +kernel
theorem dX4_gaps_3 : decode cX4_gaps 3 = .ok (.istore_n 2, 1) := by decide +kernel
theorem dX4_gaps_4 : decode cX4_gaps 4 = .ok (.iconst 0, 1) := by decide +kernel
theorem dX4_gaps_5 : decode cX4_gaps 5 = .ok (.istore_n 3, 1) := by decide +kernel
theorem dX4_gaps_6 : decode cX4_gaps 6 = .ok (.iload_n 3, 1) := by decide +kernel
theorem dX4_gaps_7 : decode cX4_gaps 7 = .ok (.aload_n 0, 1) := by decide +kernel
theorem dX4_gaps_8 : decode cX4_gaps 8 = .ok (.getfield 17, 3) := by decide +kernel
theorem dX4_gaps_11 : decode cX4_gaps 11 = .ok (.if_icmp .ge 35, 3) := by decide +kernel
theorem dX4_gaps_14 : decode cX4_gaps 14 = .ok (.aload_n 0, 1) := by decide +kernel
theorem dX4_gaps_15 : decode cX4_gaps 15 = .ok (.getfield 11, 3) := by decide +kernel
theorem dX4_gaps_18 : decode cX4_gaps 18 = .ok (.iload_n 3, 1) := by decide +kernel
theorem dX4_gaps_19 : decode cX4_gaps 19 = .ok (.aaload, 1) := by decide +kernel
theorem dX4_gaps_20 : decode cX4_gaps 20 = .ok (.getfield 28, 3) := by decide +kernel
theorem dX4_gaps_23 : decode cX4_gaps 23 = .ok (.iload_n 2, 1) := by decide +kernel
theorem dX4_gaps_24 : decode cX4_gaps 24 = .ok (.if_icmp .le 6, 3) := by decide +kernel
theorem dX4_gaps_27 : decode cX4_gaps 27 = .ok (.iinc 1 1, 3) := by decide +kernel
theorem dX4_gaps_30 : decode cX4_gaps 30 = .ok (.aload_n 0, 1) := by decide +kernel
theorem dX4_gaps_31 : decode cX4_gaps 31 = .ok (.getfield 11, 3) := by decide +kernel
theorem dX4_gaps_34 : decode cX4_gaps 34 = .ok (.iload_n 3, 1) := by decide +kernel
theorem dX4_gaps_35 : decode cX4_gaps 35 = .ok (.aaload, 1) := by decide +kernel
theorem dX4_gaps_36 : decode cX4_gaps 36 = .ok (.invokevirtual 24, 3) := by decide +kernel
theorem dX4_gaps_39 : decode cX4_gaps 39 = .ok (.istore_n 2, 1) := by decide +kernel
theorem dX4_gaps_40 : decode cX4_gaps 40 = .ok (.iinc 3 1, 3) := by decide +kernel
theorem dX4_gaps_43 : decode cX4_gaps 43 = .ok (.goto (-37), 3) := by decide +kernel
theorem dX4_gaps_46 : decode cX4_gaps 46 = .ok (.iload_n 1, 1) := by decide +kernel
theorem dX4_gaps_47 : decode cX4_gaps 47 = .ok (.ireturn, 1) := by decide +kernel
theorem dX5_init_0 : decode cX5_init 0 = .ok (.aload_n 0, 1) := by decide +kernel
theorem dX5_init_1 : decode cX5_init 1 = .ok (.invokespecial 3, 3) := by decide +kernel
theorem dX5_init_4 : decode cX5_init 4 = .ok (.aload_n 0, 1) := by decide +kernel
theorem dX5_init_5 : decode cX5_init 5 = .ok (.sipush 200, 3) := by decide +kernel
theorem dX5_init_8 : decode cX5_init 8 = .ok (.newarray .int, 2) := by decide +kernel
theorem dX5_init_10 : decode cX5_init 10 = .ok (.putfield 9, 3) := by decide +kernel
theorem dX5_init_13 : decode cX5_init 13 = .ok (.aload_n 0, 1) := by decide +kernel
theorem dX5_init_14 : decode cX5_init 14 = .ok (.iconst 0, 1) := by decide +kernel
theorem dX5_init_15 : decode cX5_init 15 = .ok (.putfield 15, 3) := by decide +kernel
theorem dX5_init_18 : decode cX5_init 18 = .ok (.return_, 1) := by decide +kernel
theorem dX5_append_0 : decode cX5_append 0 = .ok (.aload_n 0, 1) := by decide +kernel
theorem dX5_append_1 : decode cX5_append 1 = .ok (.getfield 15, 3) := by decide +kernel
theorem dX5_append_4 : decode cX5_append 4 = .ok (.sipush 200, 3) := by decide +kernel
theorem dX5_append_7 : decode cX5_append 7 = .ok (.if_icmp .ge 23, 3) := by decide +kernel
theorem dX5_append_10 : decode cX5_append 10 = .ok (.aload_n 0, 1) := by decide +kernel
theorem dX5_append_11 : decode cX5_append 11 = .ok (.getfield 9, 3) := by decide +kernel
theorem dX5_append_14 : decode cX5_append 14 = .ok (.aload_n 0, 1) := by decide +kernel
theorem dX5_append_15 : decode cX5_append 15 = .ok (.getfield 15, 3) := by decide +kernel
theorem dX5_append_18 : decode cX5_append 18 = .ok (.iload_n 1, 1) := by decide +kernel
theorem dX5_append_19 : decode cX5_append 19 = .ok (.iastore, 1) := by decide +kernel
theorem dX5_append_20 : decode cX5_append 20 = .ok (.aload_n 0, 1) := by decide +kernel
theorem dX5_append_21 : decode cX5_append 21 = .ok (.dup, 1) := by decide +kernel
theorem dX5_append_22 : decode cX5_append 22 = .ok (.getfield 15, 3) := by decide +kernel
theorem dX5_append_25 : decode cX5_append 25 = .ok (.iconst 1, 1) := by decide +kernel
theorem dX5_append_26 : decode cX5_append 26 = .ok (.iadd, 1) := by decide +kernel
theorem dX5_append_27 : decode cX5_append 27 = .ok (.putfield 15, 3) := by decide +kernel
theorem dX5_append_30 : decode cX5_append 30 = .ok (.return_, 1) := by decide +kernel
theorem dX5_letterAt_0 : decode cX5_letterAt 0 = .ok (.iload_n 1, 1) := by decide +kernel
theorem dX5_letterAt_1 : decode cX5_letterAt 1 = .ok (.iconst 0, 1) := by decide +kernel
theorem dX5_letterAt_2 : decode cX5_letterAt 2 = .ok (.aload_n 0, 1) := by decide +kernel
theorem dX5_letterAt_3 : decode cX5_letterAt 3 = .ok (.getfield 15, 3) := by decide +kernel
theorem dX5_letterAt_6 : decode cX5_letterAt 6 = .ok (.iconst 1, 1) := by decide +kernel
theorem dX5_letterAt_7 : decode cX5_letterAt 7 = .ok (.isub, 1) := by decide +kernel
theorem dX5_letterAt_8 : decode cX5_letterAt 8 = .ok (.invokestatic 19, 3) := by decide +kernel
theorem dX5_letterAt_11 : decode cX5_letterAt 11 = .ok (.ifCond .eq 12, 3) := by decide +kernel
theorem dX5_letterAt_14 : decode cX5_letterAt 14 = .ok (.aload_n 0, 1) := by decide +kernel
theorem dX5_letterAt_15 : decode cX5_letterAt 15 = .ok (.getfield 9, 3) := by decide +kernel
theorem dX5_letterAt_18 : decode cX5_letterAt 18 = .ok (.iload_n 1, 1) := by decide +kernel
theorem dX5_letterAt_19 : decode cX5_letterAt 19 = .ok (.iaload, 1) := by decide +kernel
theorem dX5_letterAt_20 : decode cX5_letterAt 20 = .ok (.goto 4, 3) := by decide +kernel
theorem dX5_letterAt_23 : decode cX5_letterAt 23 = .ok (.iconst (-1), 1) := by decide +kernel
theorem dX5_letterAt_24 : decode cX5_letterAt 24 = .ok (.ireturn, 1) := by decide +kernel
theorem dX5_kindAt_0 : decode cX5_kindAt 0 = .ok (.iload_n 1, 1) := by decide +kernel
theorem dX5_kindAt_1 : decode cX5_kindAt 1 = .ok (.ifCond .lt 11, 3) := by decide +kernel
theorem dX5_kindAt_4 : decode cX5_kindAt 4 = .ok (.iload_n 1, 1) := by decide +kernel
theorem dX5_kindAt_5 : decode cX5_kindAt 5 = .ok (.aload_n 0, 1) := by decide +kernel
theorem dX5_kindAt_6 : decode cX5_kindAt 6 = .ok (.getfield 15, 3) := by decide +kernel
theorem dX5_kindAt_9 : decode cX5_kindAt 9 = .ok (.if_icmp .lt 5, 3) := by decide +kernel
theorem dX5_kindAt_12 : decode cX5_kindAt 12 = .ok (.iconst 4, 1) := by decide +kernel
theorem dX5_kindAt_13 : decode cX5_kindAt 13 = .ok (.ireturn, 1) := by decide +kernel
theorem dX5_kindAt_14 : decode cX5_kindAt 14 = .ok (.aload_n 0, 1) := by decide +kernel
theorem dX5_kindAt_15 : decode cX5_kindAt 15 = .ok (.getfield 9, 3) := by decide +kernel
theorem dX5_kindAt_18 : decode cX5_kindAt 18 = .ok (.iload_n 1, 1) := by decide +kernel
theorem dX5_kindAt_19 : decode cX5_kindAt 19 = .ok (.iaload, 1) := by decide +kernel
theorem dX5_kindAt_20 : decode cX5_kindAt 20 = .ok (.istore_n 2, 1) := by decide +kernel
theorem dX5_kindAt_21 : decode cX5_kindAt 21 = .ok (.iload_n 2, 1) := by decide +kernel
theorem dX5_kindAt_22 : decode cX5_kindAt 22 = .ok (.bipush 32, 2) := by decide +kernel
theorem dX5_kindAt_24 : decode cX5_kindAt 24 = .ok (.if_icmp .ne 5, 3) := by decide +kernel
theorem dX5_kindAt_27 : decode cX5_kindAt 27 = .ok (.iconst 0, 1) := by decide +kernel
theorem dX5_kindAt_28 : decode cX5_kindAt 28 = .ok (.ireturn, 1) := by decide +kernel
theorem dX5_kindAt_29 : decode cX5_kindAt 29 = .ok (.iload_n 2, 1) := by decide +kernel
theorem dX5_kindAt_30 : decode cX5_kindAt 30 = .ok (.bipush 97, 2) := by decide +kernel
theorem dX5_kindAt_32 : decode cX5_kindAt 32 = .ok (.if_icmp .lt 11, 3) := by decide +kernel
theorem dX5_kindAt_35 : decode cX5_kindAt 35 = .ok (.iload_n 2, 1) := by decide +kernel
theorem dX5_kindAt_36 : decode cX5_kindAt 36 = .ok (.bipush 122, 2) := by decide +kernel
theorem dX5_kindAt_38 : decode cX5_kindAt 38 = .ok (.if_icmp .gt 5, 3) := by decide +kernel
theorem dX5_kindAt_41 : decode cX5_kindAt 41 = .ok (.iconst 1, 1) := by decide +kernel
theorem dX5_kindAt_42 : decode cX5_kindAt 42 = .ok (.ireturn, 1) := by decide +kernel
theorem dX5_kindAt_43 : decode cX5_kindAt 43 = .ok (.iload_n 2, 1) := by decide +kernel
theorem dX5_kindAt_44 : decode cX5_kindAt 44 = .ok (.bipush 48, 2) := by decide +kernel
theorem dX5_kindAt_46 : decode cX5_kindAt 46 = .ok (.if_icmp .lt 13, 3) := by decide +kernel
theorem dX5_kindAt_49 : decode cX5_kindAt 49 = .ok (.iload_n 2, 1) := by decide +kernel
theorem dX5_kindAt_50 : decode cX5_kindAt 50 = .ok (.bipush 57, 2) := by decide +kernel
theorem dX5_kindAt_52 : decode cX5_kindAt 52 = .ok (.if_icmp .gt 7, 3) := by decide +kernel
theorem dX5_kindAt_55 : decode cX5_kindAt 55 = .ok (.iconst 2, 1) := by decide +kernel
theorem dX5_kindAt_56 : decode cX5_kindAt 56 = .ok (.goto 4, 3) := by decide +kernel
theorem dX5_kindAt_59 : decode cX5_kindAt 59 = .ok (.iconst 3, 1) := by decide +kernel
theorem dX5_kindAt_60 : decode cX5_kindAt 60 = .ok (.ireturn, 1) := by decide +kernel
theorem dX6_init_0 : decode cX6_init 0 = .ok (.aload_n 0, 1) := by decide +kernel
theorem dX6_init_1 : decode cX6_init 1 = .ok (.invokespecial 3, 3) := by decide +kernel
theorem dX6_init_4 : decode cX6_init 4 = .ok (.aload_n 0, 1) := by decide +kernel
theorem dX6_init_5 : decode cX6_init 5 = .ok (.new 9, 3) := by decide +kernel
theorem dX6_init_8 : decode cX6_init 8 = .ok (.dup, 1) := by decide +kernel
theorem dX6_init_9 : decode cX6_init 9 = .ok (.invokespecial 11, 3) := by decide +kernel
theorem dX6_init_12 : decode cX6_init 12 = .ok (.putfield 12, 3) := by decide +kernel
theorem dX6_init_15 : decode cX6_init 15 = .ok (.aload_n 0, 1) := by decide +kernel
theorem dX6_init_16 : decode cX6_init 16 = .ok (.new 9, 3) := by decide +kernel
theorem dX6_init_19 : decode cX6_init 19 = .ok (.dup, 1) := by decide +kernel
theorem dX6_init_20 : decode cX6_init 20 = .ok (.invokespecial 11, 3) := by decide +kernel
theorem dX6_init_23 : decode cX6_init 23 = .ok (.putfield 18, 3) := by decide +kernel
theorem dX6_init_26 : decode cX6_init 26 = .ok (.aload_n 0, 1) := by decide +kernel
theorem dX6_init_27 : decode cX6_init 27 = .ok (.iconst 4, 1) := by decide +kernel
theorem dX6_init_28 : decode cX6_init 28 = .ok (.anewarray 9, 3) := by decide +kernel
theorem dX6_init_31 : decode cX6_init 31 = .ok (.putfield 21, 3) := by decide +kernel
theorem dX6_init_34 : decode cX6_init 34 = .ok (.aload_n 0, 1) := by decide +kernel
theorem dX6_init_35 : decode cX6_init 35 = .ok (.iconst 0, 1) := by decide +kernel
theorem dX6_init_36 : decode cX6_init 36 = .ok (.putfield 25, 3) := by decide +kernel
theorem dX6_init_39 : decode cX6_init 39 = .ok (.aload_n 0, 1) := by decide +kernel
theorem dX6_init_40 : decode cX6_init 40 = .ok (.iconst 0, 1) := by decide +kernel
theorem dX6_init_41 : decode cX6_init 41 = .ok (.putfield 29, 3) := by decide +kernel
theorem dX6_init_44 : decode cX6_init 44 = .ok (.aload_n 0, 1) := by decide +kernel
theorem dX6_init_45 : decode cX6_init 45 = .ok (.iconst 2, 1) := by decide +kernel
theorem dX6_init_46 : decode cX6_init 46 = .ok (.anewarray 9, 3) := by decide +kernel
theorem dX6_init_49 : decode cX6_init 49 = .ok (.putfield 33, 3) := by decide +kernel
theorem dX6_init_52 : decode cX6_init 52 = .ok (.aload_n 0, 1) := by decide +kernel
theorem dX6_init_53 : decode cX6_init 53 = .ok (.iconst 2, 1) := by decide +kernel
theorem dX6_init_54 : decode cX6_init 54 = .ok (.newarray .boolean, 2) := by decide +kernel
theorem dX6_init_56 : decode cX6_init 56 = .ok (.putfield 36, 3) := by decide +kernel
theorem dX6_init_59 : decode cX6_init 59 = .ok (.iconst 0, 1) := by decide +kernel
theorem dX6_init_60 : decode cX6_init 60 = .ok (.istore_n 1, 1) := by decide +kernel
theorem dX6_init_61 : decode cX6_init 61 = .ok (.iload_n 1, 1) := by decide +kernel
theorem dX6_init_62 : decode cX6_init 62 = .ok (.iconst 4, 1) := by decide +kernel
theorem dX6_init_63 : decode cX6_init 63 = .ok (.if_icmp .ge 22, 3) := by decide +kernel
theorem dX6_init_66 : decode cX6_init 66 = .ok (.aload_n 0, 1) := by decide +kernel
theorem dX6_init_67 : decode cX6_init 67 = .ok (.getfield 21, 3) := by decide +kernel
theorem dX6_init_70 : decode cX6_init 70 = .ok (.iload_n 1, 1) := by decide +kernel
theorem dX6_init_71 : decode cX6_init 71 = .ok (.new 9, 3) := by decide +kernel
theorem dX6_init_74 : decode cX6_init 74 = .ok (.dup, 1) := by decide +kernel
theorem dX6_init_75 : decode cX6_init 75 = .ok (.invokespecial 11, 3) := by decide +kernel
theorem dX6_init_78 : decode cX6_init 78 = .ok (.aastore, 1) := by decide +kernel
theorem dX6_init_79 : decode cX6_init 79 = .ok (.iinc 1 1, 3) := by decide +kernel
theorem dX6_init_82 : decode cX6_init 82 = .ok (.goto (-21), 3) := by decide +kernel
theorem dX6_init_85 : decode cX6_init 85 = .ok (.iconst 0, 1) := by decide +kernel
theorem dX6_init_86 : decode cX6_init 86 = .ok (.istore_n 1, 1) := by decide +kernel
theorem dX6_init_87 : decode cX6_init 87 = .ok (.iload_n 1, 1) := by decide +kernel
theorem dX6_init_88 : decode cX6_init 88 = .ok (.iconst 2, 1) := by decide +kernel
theorem dX6_init_89 : decode cX6_init 89 = .ok (.if_icmp .ge 22, 3) := by decide +kernel
theorem dX6_init_92 : decode cX6_init 92 = .ok (.aload_n 0, 1) := by decide +kernel
theorem dX6_init_93 : decode cX6_init 93 = .ok (.getfield 33, 3) := by decide +kernel
theorem dX6_init_96 : decode cX6_init 96 = .ok (.iload_n 1, 1) := by decide +kernel
theorem dX6_init_97 : decode cX6_init 97 = .ok (.new 9, 3) := by decide +kernel
theorem dX6_init_100 : decode cX6_init 100 = .ok (.dup, 1) := by decide +kernel
theorem dX6_init_101 : decode cX6_init 101 = .ok (.invokespecial 11, 3) := by decide +kernel
theorem dX6_init_104 : decode cX6_init 104 = .ok (.aastore, 1) := by decide +kernel
