theorem dX7_heardAt_5 : decode cX7_heardAt 5 = .ok (.iconst 4, 1) := by decide +kernel
theorem dX7_heardAt_6 : decode cX7_heardAt 6 = .ok (.if_icmp .ge 48, 3) := by decide +kernel
theorem dX7_heardAt_9 : decode cX7_heardAt 9 = .ok (.aload_n 0, 1) := by decide +kernel
theorem dX7_heardAt_10 : decode cX7_heardAt 10 = .ok (.getfield 18, 3) := by decide +kernel
theorem dX7_heardAt_13 : decode cX7_heardAt 13 = .ok (.iload_n 3, 1) := by decide +kernel
theorem dX7_heardAt_14 : decode cX7_heardAt 14 = .ok (.aaload, 1) := by decide +kernel
theorem dX7_heardAt_15 : decode cX7_heardAt 15 = .ok (.getfield 198, 3) := by decide +kernel
theorem dX7_heardAt_18 : decode cX7_heardAt 18 = .ok (.ifCond .ne 30, 3) := by decide +kernel
theorem dX7_heardAt_21 : decode cX7_heardAt 21 = .ok (.aload_n 0, 1) := by decide +kernel
theorem dX7_heardAt_22 : decode cX7_heardAt 22 = .ok (.getfield 18, 3) := by decide +kernel
theorem dX7_heardAt_25 : decode cX7_heardAt 25 = .ok (.iload_n 3, 1) := by decide +kernel
theorem dX7_heardAt_26 : decode cX7_heardAt 26 = .ok (.aaload, 1) := by decide +kernel
theorem dX7_heardAt_27 : decode cX7_heardAt 27 = .ok (.getfield 111, 3) := by decide +kernel
theorem dX7_heardAt_30 : decode cX7_heardAt 30 = .ok (.astore 4, 2) := by decide +kernel
theorem dX7_heardAt_32 : decode cX7_heardAt 32 = .ok (.fload_n 2, 1) := by decide +kernel
theorem dX7_heardAt_33 : decode cX7_heardAt 33 = .ok (.aload_n 0, 1) := by decide +kernel
theorem dX7_heardAt_34 : decode cX7_heardAt 34 = .ok (.aload 4, 2) := by decide +kernel
theorem dX7_heardAt_36 : decode cX7_heardAt 36 = .ok (.iload_n 1, 1) := by decide +kernel
theorem dX7_heardAt_37 : decode cX7_heardAt 37 = .ok (.aload 4, 2) := by decide +kernel
theorem dX7_heardAt_39 : decode cX7_heardAt 39 = .ok (.getfield 192, 3) := by decide +kernel
theorem dX7_heardAt_42 : decode cX7_heardAt 42 = .ok (.isub, 1) := by decide +kernel
theorem dX7_heardAt_43 : decode cX7_heardAt 43 = .ok (.invokevirtual 237, 3) := by decide +kernel
theorem dX7_heardAt_46 : decode cX7_heardAt 46 = .ok (.fadd, 1) := by decide +kernel
theorem dX7_heardAt_47 : decode cX7_heardAt 47 = .ok (.fstore_n 2, 1) := by decide +kernel
theorem dX7_heardAt_48 : decode cX7_heardAt 48 = .ok (.iinc 3 1, 3) := by decide +kernel
theorem dX7_heardAt_51 : decode cX7_heardAt 51 = .ok (.goto (-47), 3) := by decide +kernel
theorem dX7_heardAt_54 : decode cX7_heardAt 54 = .ok (.fload_n 2, 1) := by decide +kernel
theorem dX7_heardAt_55 : decode cX7_heardAt 55 = .ok (.freturn, 1) := by decide +kernel
theorem dX7_timesOf_0 : decode cX7_timesOf 0 = .ok (.iconst 0, 1) := by decide +kernel
theorem dX7_timesOf_1 : decode cX7_timesOf 1 = .ok (.istore_n 3, 1) := by decide +kernel
theorem dX7_timesOf_2 : decode cX7_timesOf 2 = .ok (.iconst 0, 1) := by decide +kernel
theorem dX7_timesOf_3 : decode cX7_timesOf 3 = .ok (.istore 4, 2) := by decide +kernel
theorem dX7_timesOf_5 : decode cX7_timesOf 5 = .ok (.iload 4, 2) := by decide +kernel
theorem dX7_timesOf_7 : decode cX7_timesOf 7 = .ok (.iconst 4, 1) := by decide +kernel
theorem dX7_timesOf_8 : decode cX7_timesOf 8 = .ok (.if_icmp .ge 27, 3) := by decide +kernel
theorem dX7_timesOf_11 : decode cX7_timesOf 11 = .ok (.iload_n 3, 1) := by decide +kernel
theorem dX7_timesOf_12 : decode cX7_timesOf 12 = .ok (.aload_n 0, 1) := by decide +kernel
theorem dX7_timesOf_13 : decode cX7_timesOf 13 = .ok (.getfield 18, 3) := by decide +kernel
theorem dX7_timesOf_16 : decode cX7_timesOf 16 = .ok (.iload 4, 2) := by decide +kernel
theorem dX7_timesOf_18 : decode cX7_timesOf 18 = .ok (.aaload, 1) := by decide +kernel
theorem dX7_timesOf_19 : decode cX7_timesOf 19 = .ok (.getfield 111, 3) := by decide +kernel
theorem dX7_timesOf_22 : decode cX7_timesOf 22 = .ok (.iload_n 1, 1) := by decide +kernel
theorem dX7_timesOf_23 : decode cX7_timesOf 23 = .ok (.iload_n 2, 1) := by decide +kernel
theorem dX7_timesOf_24 : decode cX7_timesOf 24 = .ok (.invokevirtual 313, 3) := by decide +kernel
theorem dX7_timesOf_27 : decode cX7_timesOf 27 = .ok (.iadd, 1) := by decide +kernel
theorem dX7_timesOf_28 : decode cX7_timesOf 28 = .ok (.istore_n 3, 1) := by decide +kernel
theorem dX7_timesOf_29 : decode cX7_timesOf 29 = .ok (.iinc 4 1, 3) := by decide +kernel
theorem dX7_timesOf_32 : decode cX7_timesOf 32 = .ok (.goto (-27), 3) := by decide +kernel
theorem dX7_timesOf_35 : decode cX7_timesOf 35 = .ok (.iload_n 3, 1) := by decide +kernel
theorem dX7_timesOf_36 : decode cX7_timesOf 36 = .ok (.ireturn, 1) := by decide +kernel
theorem dX7_spansOfAll_0 : decode cX7_spansOfAll 0 = .ok (.iconst 0, 1) := by decide +kernel
theorem dX7_spansOfAll_1 : decode cX7_spansOfAll 1 = .ok (.istore_n 1, 1) := by decide +kernel
theorem dX7_spansOfAll_2 : decode cX7_spansOfAll 2 = .ok (.iconst 0, 1) := by decide +kernel
theorem dX7_spansOfAll_3 : decode cX7_spansOfAll 3 = .ok (.istore_n 2, 1) := by decide +kernel
theorem dX7_spansOfAll_4 : decode cX7_spansOfAll 4 = .ok (.iload_n 2, 1) := by decide +kernel
theorem dX7_spansOfAll_5 : decode cX7_spansOfAll 5 = .ok (.iconst 4, 1) := by decide +kernel
theorem dX7_spansOfAll_6 : decode cX7_spansOfAll 6 = .ok (.if_icmp .ge 24, 3) := by decide +kernel
theorem dX7_spansOfAll_9 : decode cX7_spansOfAll 9 = .ok (.iload_n 1, 1) := by decide +kernel
theorem dX7_spansOfAll_10 : decode cX7_spansOfAll 10 = .ok (.aload_n 0, 1) := by decide +kernel
theorem dX7_spansOfAll_11 : decode cX7_spansOfAll 11 = .ok (.getfield 18, 3) := by decide +kernel
theorem dX7_spansOfAll_14 : decode cX7_spansOfAll 14 = .ok (.iload_n 2, 1) := by decide +kernel
theorem dX7_spansOfAll_15 : decode cX7_spansOfAll 15 = .ok (.aaload, 1) := by decide +kernel
theorem dX7_spansOfAll_16 : decode cX7_spansOfAll 16 = .ok (.getfield 111, 3) := by decide +kernel
theorem dX7_spansOfAll_19 : decode cX7_spansOfAll 19 = .ok (.getfield 164, 3) := by decide +kernel
theorem dX7_spansOfAll_22 : decode cX7_spansOfAll 22 = .ok (.iadd, 1) := by decide +kernel
theorem dX7_spansOfAll_23 : decode cX7_spansOfAll 23 = .ok (.istore_n 1, 1) := by decide +kernel
theorem dX7_spansOfAll_24 : decode cX7_spansOfAll 24 = .ok (.iinc 2 1, 3) := by decide +kernel
theorem dX7_spansOfAll_27 : decode cX7_spansOfAll 27 = .ok (.goto (-23), 3) := by decide +kernel
theorem dX7_spansOfAll_30 : decode cX7_spansOfAll 30 = .ok (.iload_n 1, 1) := by decide +kernel
theorem dX7_spansOfAll_31 : decode cX7_spansOfAll 31 = .ok (.ireturn, 1) := by decide +kernel
theorem dX7_shutBits_0 : decode cX7_shutBits 0 = .ok (.iconst 0, 1) := by decide +kernel
theorem dX7_shutBits_1 : decode cX7_shutBits 1 = .ok (.istore_n 1, 1) := by decide +kernel
theorem dX7_shutBits_2 : decode cX7_shutBits 2 = .ok (.iconst 0, 1) := by decide +kernel
theorem dX7_shutBits_3 : decode cX7_shutBits 3 = .ok (.istore_n 2, 1) := by decide +kernel
theorem dX7_shutBits_4 : decode cX7_shutBits 4 = .ok (.iload_n 2, 1) := by decide +kernel
theorem dX7_shutBits_5 : decode cX7_shutBits 5 = .ok (.iconst 4, 1) := by decide +kernel
theorem dX7_shutBits_6 : decode cX7_shutBits 6 = .ok (.if_icmp .ge 27, 3) := by decide +kernel
theorem dX7_shutBits_9 : decode cX7_shutBits 9 = .ok (.aload_n 0, 1) := by decide +kernel
theorem dX7_shutBits_10 : decode cX7_shutBits 10 = .ok (.getfield 18, 3) := by decide +kernel
theorem dX7_shutBits_13 : decode cX7_shutBits 13 = .ok (.iload_n 2, 1) := by decide +kernel
theorem dX7_shutBits_14 : decode cX7_shutBits 14 = .ok (.aaload, 1) := by decide +kernel
theorem dX7_shutBits_15 : decode cX7_shutBits 15 = .ok (.getfield 198, 3) := by decide +kernel
theorem dX7_shutBits_18 : decode cX7_shutBits 18 = .ok (.ifCond .eq 9, 3) := by decide +kernel
theorem dX7_shutBits_21 : decode cX7_shutBits 21 = .ok (.iload_n 1, 1) := by decide +kernel
theorem dX7_shutBits_22 : decode cX7_shutBits 22 = .ok (.iconst 1, 1) := by decide +kernel
theorem dX7_shutBits_23 : decode cX7_shutBits 23 = .ok (.iload_n 2, 1) := by decide +kernel
theorem dX7_shutBits_24 : decode cX7_shutBits 24 = .ok (.ishl, 1) := by decide +kernel
theorem dX7_shutBits_25 : decode cX7_shutBits 25 = .ok (.ior, 1) := by decide +kernel
theorem dX7_shutBits_26 : decode cX7_shutBits 26 = .ok (.istore_n 1, 1) := by decide +kernel
theorem dX7_shutBits_27 : decode cX7_shutBits 27 = .ok (.iinc 2 1, 3) := by decide +kernel
theorem dX7_shutBits_30 : decode cX7_shutBits 30 = .ok (.goto (-26), 3) := by decide +kernel
theorem dX7_shutBits_33 : decode cX7_shutBits 33 = .ok (.iload_n 1, 1) := by decide +kernel
theorem dX7_shutBits_34 : decode cX7_shutBits 34 = .ok (.ireturn, 1) := by decide +kernel
theorem dX7_loudest_0 : decode cX7_loudest 0 = .ok (.iconst 0, 1) := by decide +kernel
theorem dX7_loudest_1 : decode cX7_loudest 1 = .ok (.istore_n 1, 1) := by decide +kernel
theorem dX7_loudest_2 : decode cX7_loudest 2 = .ok (.fconst 0, 1) := by decide +kernel
theorem dX7_loudest_3 : decode cX7_loudest 3 = .ok (.fstore_n 2, 1) := by decide +kernel
theorem dX7_loudest_4 : decode cX7_loudest 4 = .ok (.iconst 0, 1) := by decide +kernel
theorem dX7_loudest_5 : decode cX7_loudest 5 = .ok (.istore_n 3, 1) := by decide +kernel
theorem dX7_loudest_6 : decode cX7_loudest 6 = .ok (.iload_n 3, 1) := by decide +kernel
theorem dX7_loudest_7 : decode cX7_loudest 7 = .ok (.sipush 128, 3) := by decide +kernel
theorem dX7_loudest_10 : decode cX7_loudest 10 = .ok (.if_icmp .ge 45, 3) := by decide +kernel
theorem dX7_loudest_13 : decode cX7_loudest 13 = .ok (.aload_n 0, 1) := by decide +kernel
theorem dX7_loudest_14 : decode cX7_loudest 14 = .ok (.iload_n 3, 1) := by decide +kernel
theorem dX7_loudest_15 : decode cX7_loudest 15 = .ok (.invokevirtual 206, 3) := by decide +kernel
theorem dX7_loudest_18 : decode cX7_loudest 18 = .ok (.fstore 4, 2) := by decide +kernel
theorem dX7_loudest_20 : decode cX7_loudest 20 = .ok (.fload 4, 2) := by decide +kernel
theorem dX7_loudest_22 : decode cX7_loudest 22 = .ok (.fconst 0, 1) := by decide +kernel
theorem dX7_loudest_23 : decode cX7_loudest 23 = .ok (.fcmp .g, 1) := by decide +kernel
theorem dX7_loudest_24 : decode cX7_loudest 24 = .ok (.ifCond .ge 9, 3) := by decide +kernel
theorem dX7_loudest_27 : decode cX7_loudest 27 = .ok (.fload 4, 2) := by decide +kernel
theorem dX7_loudest_29 : decode cX7_loudest 29 = .ok (.fneg, 1) := by decide +kernel
theorem dX7_loudest_30 : decode cX7_loudest 30 = .ok (.goto 5, 3) := by decide +kernel
theorem dX7_loudest_33 : decode cX7_loudest 33 = .ok (.fload 4, 2) := by decide +kernel
theorem dX7_loudest_35 : decode cX7_loudest 35 = .ok (.fstore 5, 2) := by decide +kernel
theorem dX7_loudest_37 : decode cX7_loudest 37 = .ok (.fload 5, 2) := by decide +kernel
theorem dX7_loudest_39 : decode cX7_loudest 39 = .ok (.fload_n 2, 1) := by decide +kernel
theorem dX7_loudest_40 : decode cX7_loudest 40 = .ok (.fcmp .l, 1) := by decide +kernel
theorem dX7_loudest_41 : decode cX7_loudest 41 = .ok (.ifCond .le 8, 3) := by decide +kernel
theorem dX7_loudest_44 : decode cX7_loudest 44 = .ok (.fload 5, 2) := by decide +kernel
theorem dX7_loudest_46 : decode cX7_loudest 46 = .ok (.fstore_n 2, 1) := by decide +kernel
theorem dX7_loudest_47 : decode cX7_loudest 47 = .ok (.iload_n 3, 1) := by decide +kernel
theorem dX7_loudest_48 : decode cX7_loudest 48 = .ok (.istore_n 1, 1) := by decide +kernel
theorem dX7_loudest_49 : decode cX7_loudest 49 = .ok (.iinc 3 1, 3) := by decide +kernel
theorem dX7_loudest_52 : decode cX7_loudest 52 = .ok (.goto (-46), 3) := by decide +kernel
theorem dX7_loudest_55 : decode cX7_loudest 55 = .ok (.iload_n 1, 1) := by decide +kernel
theorem dX7_loudest_56 : decode cX7_loudest 56 = .ok (.ireturn, 1) := by decide +kernel
theorem dX7_silentMoments_0 : decode cX7_silentMoments 0 = .ok (.iconst 0, 1) := by decide +kernel
theorem dX7_silentMoments_1 : decode cX7_silentMoments 1 = .ok (.istore_n 1, 1) := by decide +kernel
theorem dX7_silentMoments_2 : decode cX7_silentMoments 2 = .ok (.iconst 0, 1) := by decide +kernel
theorem dX7_silentMoments_3 : decode cX7_silentMoments 3 = .ok (.istore_n 2, 1) := by decide +kernel
theorem dX7_silentMoments_4 : decode cX7_silentMoments 4 = .ok (.iload_n 2, 1) := by decide +kernel
theorem dX7_silentMoments_5 : decode cX7_silentMoments 5 = .ok (.sipush 128, 3) := by decide +kernel
theorem dX7_silentMoments_8 : decode cX7_silentMoments 8 = .ok (.if_icmp .ge 22, 3) := by decide +kernel
theorem dX7_silentMoments_11 : decode cX7_silentMoments 11 = .ok (.aload_n 0, 1) := by decide +kernel
theorem dX7_silentMoments_12 : decode cX7_silentMoments 12 = .ok (.iload_n 2, 1) := by decide +kernel
theorem dX7_silentMoments_13 : decode cX7_silentMoments 13 = .ok (.invokevirtual 206, 3) := by decide +kernel
theorem dX7_silentMoments_16 : decode cX7_silentMoments 16 = .ok (.fconst 0, 1) := by decide +kernel
theorem dX7_silentMoments_17 : decode cX7_silentMoments 17 = .ok (.fcmp .l, 1) := by decide +kernel
theorem dX7_silentMoments_18 : decode cX7_silentMoments 18 = .ok (.ifCond .ne 6, 3) := by decide +kernel
theorem dX7_silentMoments_21 : decode cX7_silentMoments 21 = .ok (.iinc 1 1, 3) := by decide +kernel
theorem dX7_silentMoments_24 : decode cX7_silentMoments 24 = .ok (.iinc 2 1, 3) := by decide +kernel
theorem dX7_silentMoments_27 : decode cX7_silentMoments 27 = .ok (.goto (-23), 3) := by decide +kernel
theorem dX7_silentMoments_30 : decode cX7_silentMoments 30 = .ok (.iload_n 1, 1) := by decide +kernel
theorem dX7_silentMoments_31 : decode cX7_silentMoments 31 = .ok (.ireturn, 1) := by decide +kernel
theorem dX7_thingsOnRacks_0 : decode cX7_thingsOnRacks 0 = .ok (.iconst 0, 1) := by decide +kernel
theorem dX7_thingsOnRacks_1 : decode cX7_thingsOnRacks 1 = .ok (.istore_n 1, 1) := by decide +kernel
theorem dX7_thingsOnRacks_2 : decode cX7_thingsOnRacks 2 = .ok (.iconst 0, 1) := by decide +kernel
theorem dX7_thingsOnRacks_3 : decode cX7_thingsOnRacks 3 = .ok (.istore_n 2, 1) := by decide +kernel
theorem dX7_thingsOnRacks_4 : decode cX7_thingsOnRacks 4 = .ok (.iload_n 2, 1) := by decide +kernel
theorem dX7_thingsOnRacks_5 : decode cX7_thingsOnRacks 5 = .ok (.iconst 3, 1) := by decide +kernel
theorem dX7_thingsOnRacks_6 : decode cX7_thingsOnRacks 6 = .ok (.if_icmp .ge 21, 3) := by decide +kernel
theorem dX7_thingsOnRacks_9 : decode cX7_thingsOnRacks 9 = .ok (.iload_n 1, 1) := by decide +kernel
theorem dX7_thingsOnRacks_10 : decode cX7_thingsOnRacks 10 = .ok (.aload_n 0, 1) := by decide +kernel
theorem dX7_thingsOnRacks_11 : decode cX7_thingsOnRacks 11 = .ok (.getfield 28, 3) := by decide +kernel
theorem dX7_thingsOnRacks_14 : decode cX7_thingsOnRacks 14 = .ok (.iload_n 2, 1) := by decide +kernel
theorem dX7_thingsOnRacks_15 : decode cX7_thingsOnRacks 15 = .ok (.aaload, 1) := by decide +kernel
theorem dX7_thingsOnRacks_16 : decode cX7_thingsOnRacks 16 = .ok (.invokevirtual 266, 3) := by decide +kernel
theorem dX7_thingsOnRacks_19 : decode cX7_thingsOnRacks 19 = .ok (.iadd, 1) := by decide +kernel
theorem dX7_thingsOnRacks_20 : decode cX7_thingsOnRacks 20 = .ok (.istore_n 1, 1) := by decide +kernel
theorem dX7_thingsOnRacks_21 : decode cX7_thingsOnRacks 21 = .ok (.iinc 2 1, 3) := by decide +kernel
theorem dX7_thingsOnRacks_24 : decode cX7_thingsOnRacks 24 = .ok (.goto (-20), 3) := by decide +kernel
theorem dX7_thingsOnRacks_27 : decode cX7_thingsOnRacks 27 = .ok (.iload_n 1, 1) := by decide +kernel
theorem dX7_thingsOnRacks_28 : decode cX7_thingsOnRacks 28 = .ok (.ireturn, 1) := by decide +kernel
theorem dX7_sixteenfold_0 : decode cX7_sixteenfold 0 = .ok (.fload_n 0, 1) := by decide +kernel
theorem dX7_sixteenfold_1 : decode cX7_sixteenfold 1 = .ok (.ldc_w 314, 3) := by decide +kernel
theorem dX7_sixteenfold_4 : decode cX7_sixteenfold 4 = .ok (.fmul, 1) := by decide +kernel
theorem dX7_sixteenfold_5 : decode cX7_sixteenfold 5 = .ok (.f2i, 1) := by decide +kernel
theorem dX7_sixteenfold_6 : decode cX7_sixteenfold 6 = .ok (.ireturn, 1) := by decide +kernel
theorem dX7_bitsOfFloat_0 : decode cX7_bitsOfFloat 0 = .ok (.fload_n 0, 1) := by decide +kernel
theorem dX7_bitsOfFloat_1 : decode cX7_bitsOfFloat 1 = .ok (.fconst 0, 1) := by decide +kernel
theorem dX7_bitsOfFloat_2 : decode cX7_bitsOfFloat 2 = .ok (.fcmp .g, 1) := by decide +kernel
theorem dX7_bitsOfFloat_3 : decode cX7_bitsOfFloat 3 = .ok (.ifCond .ge 9, 3) := by decide +kernel
theorem dX7_bitsOfFloat_6 : decode cX7_bitsOfFloat 6 = .ok (.fload_n 0, 1) := by decide +kernel
theorem dX7_bitsOfFloat_7 : decode cX7_bitsOfFloat 7 = .ok (.f2d, 1) := by decide +kernel
theorem dX7_bitsOfFloat_8 : decode cX7_bitsOfFloat 8 = .ok (.dneg, 1) := by decide +kernel
theorem dX7_bitsOfFloat_9 : decode cX7_bitsOfFloat 9 = .ok (.goto 5, 3) := by decide +kernel
theorem dX7_bitsOfFloat_12 : decode cX7_bitsOfFloat 12 = .ok (.fload_n 0, 1) := by decide +kernel
theorem dX7_bitsOfFloat_13 : decode cX7_bitsOfFloat 13 = .ok (.f2d, 1) := by decide +kernel
theorem dX7_bitsOfFloat_14 : decode cX7_bitsOfFloat 14 = .ok (.bipush 127, 2) := by decide +kernel
theorem dX7_bitsOfFloat_16 : decode cX7_bitsOfFloat 16 = .ok (.bipush 23, 2) := by decide +kernel
theorem dX7_bitsOfFloat_18 : decode cX7_bitsOfFloat 18 = .ok (.invokestatic 315, 3) := by decide +kernel
theorem dX7_bitsOfFloat_21 : decode cX7_bitsOfFloat 21 = .ok (.l2i, 1) := by decide +kernel
theorem dX7_bitsOfFloat_22 : decode cX7_bitsOfFloat 22 = .ok (.istore_n 1, 1) := by decide +kernel
theorem dX7_bitsOfFloat_23 : decode cX7_bitsOfFloat 23 = .ok (.fload_n 0, 1) := by decide +kernel
theorem dX7_bitsOfFloat_24 : decode cX7_bitsOfFloat 24 = .ok (.fconst 0, 1) := by decide +kernel
theorem dX7_bitsOfFloat_25 : decode cX7_bitsOfFloat 25 = .ok (.fcmp .g, 1) := by decide +kernel
theorem dX7_bitsOfFloat_26 : decode cX7_bitsOfFloat 26 = .ok (.ifCond .ge 11, 3) := by decide +kernel
theorem dX7_bitsOfFloat_29 : decode cX7_bitsOfFloat 29 = .ok (.iload_n 1, 1) := by decide +kernel
theorem dX7_bitsOfFloat_30 : decode cX7_bitsOfFloat 30 = .ok (.ldc_w 319, 3) := by decide +kernel
theorem dX7_bitsOfFloat_33 : decode cX7_bitsOfFloat 33 = .ok (.ior, 1) := by decide +kernel
theorem dX7_bitsOfFloat_34 : decode cX7_bitsOfFloat 34 = .ok (.goto 4, 3) := by decide +kernel
theorem dX7_bitsOfFloat_37 : decode cX7_bitsOfFloat 37 = .ok (.iload_n 1, 1) := by decide +kernel
theorem dX7_bitsOfFloat_38 : decode cX7_bitsOfFloat 38 = .ok (.ireturn, 1) := by decide +kernel
theorem dX7_bitsOfDouble_0 : decode cX7_bitsOfDouble 0 = .ok (.dload_n 0, 1) := by decide +kernel
theorem dX7_bitsOfDouble_1 : decode cX7_bitsOfDouble 1 = .ok (.dconst 0, 1) := by decide +kernel
theorem dX7_bitsOfDouble_2 : decode cX7_bitsOfDouble 2 = .ok (.dcmp .g, 1) := by decide +kernel
theorem dX7_bitsOfDouble_3 : decode cX7_bitsOfDouble 3 = .ok (.ifCond .ge 8, 3) := by decide +kernel
theorem dX7_bitsOfDouble_6 : decode cX7_bitsOfDouble 6 = .ok (.dload_n 0, 1) := by decide +kernel
theorem dX7_bitsOfDouble_7 : decode cX7_bitsOfDouble 7 = .ok (.dneg, 1) := by decide +kernel
theorem dX7_bitsOfDouble_8 : decode cX7_bitsOfDouble 8 = .ok (.goto 4, 3) := by decide +kernel
theorem dX7_bitsOfDouble_11 : decode cX7_bitsOfDouble 11 = .ok (.dload_n 0, 1) := by decide +kernel
theorem dX7_bitsOfDouble_12 : decode cX7_bitsOfDouble 12 = .ok (.sipush 1023, 3) := by decide +kernel
theorem dX7_bitsOfDouble_15 : decode cX7_bitsOfDouble 15 = .ok (.bipush 52, 2) := by decide +kernel
theorem dX7_bitsOfDouble_17 : decode cX7_bitsOfDouble 17 = .ok (.invokestatic 315, 3) := by decide +kernel
theorem dX7_bitsOfDouble_20 : decode cX7_bitsOfDouble 20 = .ok (.lstore_n 2, 1) := by decide +kernel
theorem dX7_bitsOfDouble_21 : decode cX7_bitsOfDouble 21 = .ok (.dload_n 0, 1) := by decide +kernel
theorem dX7_bitsOfDouble_22 : decode cX7_bitsOfDouble 22 = .ok (.dconst 0, 1) := by decide +kernel
theorem dX7_bitsOfDouble_23 : decode cX7_bitsOfDouble 23 = .ok (.dcmp .g, 1) := by decide +kernel
theorem dX7_bitsOfDouble_24 : decode cX7_bitsOfDouble 24 = .ok (.ifCond .ge 11, 3) := by decide +kernel
theorem dX7_bitsOfDouble_27 : decode cX7_bitsOfDouble 27 = .ok (.lload_n 2, 1) := by decide +kernel
theorem dX7_bitsOfDouble_28 : decode cX7_bitsOfDouble 28 = .ok (.ldc2_w 320, 3) := by decide +kernel
theorem dX7_bitsOfDouble_31 : decode cX7_bitsOfDouble 31 = .ok (.lor, 1) := by decide +kernel
theorem dX7_bitsOfDouble_32 : decode cX7_bitsOfDouble 32 = .ok (.goto 4, 3) := by decide +kernel
theorem dX7_bitsOfDouble_35 : decode cX7_bitsOfDouble 35 = .ok (.lload_n 2, 1) := by decide +kernel
theorem dX7_bitsOfDouble_36 : decode cX7_bitsOfDouble 36 = .ok (.lreturn, 1) := by decide +kernel
theorem dX7_bitsOfSize_0 : decode cX7_bitsOfSize 0 = .ok (.dload_n 0, 1) := by decide +kernel
theorem dX7_bitsOfSize_1 : decode cX7_bitsOfSize 1 = .ok (.dconst 0, 1) := by decide +kernel
theorem dX7_bitsOfSize_2 : decode cX7_bitsOfSize 2 = .ok (.dcmp .l, 1) := by decide +kernel
theorem dX7_bitsOfSize_3 : decode cX7_bitsOfSize 3 = .ok (.ifCond .ne 5, 3) := by decide +kernel
theorem dX7_bitsOfSize_6 : decode cX7_bitsOfSize 6 = .ok (.lconst 0, 1) := by decide +kernel
theorem dX7_bitsOfSize_7 : decode cX7_bitsOfSize 7 = .ok (.lreturn, 1) := by decide +kernel
theorem dX7_bitsOfSize_8 : decode cX7_bitsOfSize 8 = .ok (.dload_n 0, 1) := by decide +kernel
theorem dX7_bitsOfSize_9 : decode cX7_bitsOfSize 9 = .ok (.dstore 4, 2) := by decide +kernel
theorem dX7_bitsOfSize_11 : decode cX7_bitsOfSize 11 = .ok (.iconst 0, 1) := by decide +kernel
theorem dX7_bitsOfSize_12 : decode cX7_bitsOfSize 12 = .ok (.istore 6, 2) := by decide +kernel
theorem dX7_bitsOfSize_14 : decode cX7_bitsOfSize 14 = .ok (.dload 4, 2) := by decide +kernel
theorem dX7_bitsOfSize_16 : decode cX7_bitsOfSize 16 = .ok (.ldc2_w 322, 3) := by decide +kernel
theorem dX7_bitsOfSize_19 : decode cX7_bitsOfSize 19 = .ok (.dcmp .l, 1) := by decide +kernel
theorem dX7_bitsOfSize_20 : decode cX7_bitsOfSize 20 = .ok (.ifCond .lt 23, 3) := by decide +kernel
theorem dX7_bitsOfSize_23 : decode cX7_bitsOfSize 23 = .ok (.iload 6, 2) := by decide +kernel
theorem dX7_bitsOfSize_25 : decode cX7_bitsOfSize 25 = .ok (.iload_n 2, 1) := by decide +kernel
theorem dX7_bitsOfSize_26 : decode cX7_bitsOfSize 26 = .ok (.if_icmp .ge 17, 3) := by decide +kernel
theorem dX7_bitsOfSize_29 : decode cX7_bitsOfSize 29 = .ok (.dload 4, 2) := by decide +kernel
theorem dX7_bitsOfSize_31 : decode cX7_bitsOfSize 31 = .ok (.ldc2_w 322, 3) := by decide +kernel
theorem dX7_bitsOfSize_34 : decode cX7_bitsOfSize 34 = .ok (.ddiv, 1) := by decide +kernel
theorem dX7_bitsOfSize_35 : decode cX7_bitsOfSize 35 = .ok (.dstore 4, 2) := by decide +kernel
theorem dX7_bitsOfSize_37 : decode cX7_bitsOfSize 37 = .ok (.iinc 6 1, 3) := by decide +kernel
theorem dX7_bitsOfSize_40 : decode cX7_bitsOfSize 40 = .ok (.goto (-26), 3) := by decide +kernel
theorem dX7_bitsOfSize_43 : decode cX7_bitsOfSize 43 = .ok (.dload 4, 2) := by decide +kernel
theorem dX7_bitsOfSize_45 : decode cX7_bitsOfSize 45 = .ok (.dconst 1, 1) := by decide +kernel
theorem dX7_bitsOfSize_46 : decode cX7_bitsOfSize 46 = .ok (.dcmp .g, 1) := by decide +kernel
theorem dX7_bitsOfSize_47 : decode cX7_bitsOfSize 47 = .ok (.ifCond .ge 25, 3) := by decide +kernel
theorem dX7_bitsOfSize_50 : decode cX7_bitsOfSize 50 = .ok (.iload 6, 2) := by decide +kernel
theorem dX7_bitsOfSize_52 : decode cX7_bitsOfSize 52 = .ok (.iconst 1, 1) := by decide +kernel
theorem dX7_bitsOfSize_53 : decode cX7_bitsOfSize 53 = .ok (.iload_n 2, 1) := by decide +kernel
theorem dX7_bitsOfSize_54 : decode cX7_bitsOfSize 54 = .ok (.isub, 1) := by decide +kernel
theorem dX7_bitsOfSize_55 : decode cX7_bitsOfSize 55 = .ok (.if_icmp .le 17, 3) := by decide +kernel
theorem dX7_bitsOfSize_58 : decode cX7_bitsOfSize 58 = .ok (.dload 4, 2) := by decide +kernel
theorem dX7_bitsOfSize_60 : decode cX7_bitsOfSize 60 = .ok (.ldc2_w 322, 3) := by decide +kernel
theorem dX7_bitsOfSize_63 : decode cX7_bitsOfSize 63 = .ok (.dmul, 1) := by decide +kernel
theorem dX7_bitsOfSize_64 : decode cX7_bitsOfSize 64 = .ok (.dstore 4, 2) := by decide +kernel
theorem dX7_bitsOfSize_66 : decode cX7_bitsOfSize 66 = .ok (.iinc 6 (-1), 3) := by decide +kernel
theorem dX7_bitsOfSize_69 : decode cX7_bitsOfSize 69 = .ok (.goto (-26), 3) := by decide +kernel
theorem dX7_bitsOfSize_72 : decode cX7_bitsOfSize 72 = .ok (.lconst 1, 1) := by decide +kernel
theorem dX7_bitsOfSize_73 : decode cX7_bitsOfSize 73 = .ok (.iload_n 3, 1) := by decide +kernel
theorem dX7_bitsOfSize_74 : decode cX7_bitsOfSize 74 = .ok (.lshl, 1) := by decide +kernel
theorem dX7_bitsOfSize_75 : decode cX7_bitsOfSize 75 = .ok (.lstore 7, 2) := by decide +kernel
theorem dX7_bitsOfSize_77 : decode cX7_bitsOfSize 77 = .ok (.iload 6, 2) := by decide +kernel
theorem dX7_bitsOfSize_79 : decode cX7_bitsOfSize 79 = .ok (.iload_n 2, 1) := by decide +kernel
theorem dX7_bitsOfSize_80 : decode cX7_bitsOfSize 80 = .ok (.iadd, 1) := by decide +kernel
theorem dX7_bitsOfSize_81 : decode cX7_bitsOfSize 81 = .ok (.i2l, 1) := by decide +kernel
theorem dX7_bitsOfSize_82 : decode cX7_bitsOfSize 82 = .ok (.iload_n 3, 1) := by decide +kernel
theorem dX7_bitsOfSize_83 : decode cX7_bitsOfSize 83 = .ok (.lshl, 1) := by decide +kernel
theorem dX7_bitsOfSize_84 : decode cX7_bitsOfSize 84 = .ok (.dload 4, 2) := by decide +kernel
theorem dX7_bitsOfSize_86 : decode cX7_bitsOfSize 86 = .ok (.lload 7, 2) := by decide +kernel
theorem dX7_bitsOfSize_88 : decode cX7_bitsOfSize 88 = .ok (.l2d, 1) := by decide +kernel
theorem dX7_bitsOfSize_89 : decode cX7_bitsOfSize 89 = .ok (.dmul, 1) := by decide +kernel
theorem dX7_bitsOfSize_90 : decode cX7_bitsOfSize 90 = .ok (.d2l, 1) := by decide +kernel
theorem dX7_bitsOfSize_91 : decode cX7_bitsOfSize 91 = .ok (.ladd, 1) := by decide +kernel
theorem dX7_bitsOfSize_92 : decode cX7_bitsOfSize 92 = .ok (.lload 7, 2) := by decide +kernel
theorem dX7_bitsOfSize_94 : decode cX7_bitsOfSize 94 = .ok (.lsub, 1) := by decide +kernel
theorem dX7_bitsOfSize_95 : decode cX7_bitsOfSize 95 = .ok (.lreturn, 1) := by decide +kernel
theorem dX8_init_0 : decode cX8_init 0 = .ok (.aload_n 0, 1) := by decide +kernel
theorem dX8_init_1 : decode cX8_init 1 = .ok (.invokespecial 1, 3) := by decide +kernel
theorem dX8_init_4 : decode cX8_init 4 = .ok (.aload_n 0, 1) := by decide +kernel
theorem dX8_init_5 : decode cX8_init 5 = .ok (.sipush 384, 3) := by decide +kernel
theorem dX8_init_8 : decode cX8_init 8 = .ok (.newarray .float, 2) := by decide +kernel
theorem dX8_init_10 : decode cX8_init 10 = .ok (.putfield 7, 3) := by decide +kernel
theorem dX8_init_13 : decode cX8_init 13 = .ok (.aload_n 0, 1) := by decide +kernel
theorem dX8_init_14 : decode cX8_init 14 = .ok (.bipush 6, 2) := by decide +kernel
theorem dX8_init_16 : decode cX8_init 16 = .ok (.newarray .int, 2) := by decide +kernel
theorem dX8_init_18 : decode cX8_init 18 = .ok (.putfield 13, 3) := by decide +kernel
theorem dX8_init_21 : decode cX8_init 21 = .ok (.aload_n 0, 1) := by decide +kernel
theorem dX8_init_22 : decode cX8_init 22 = .ok (.sipush 344, 3) := by decide +kernel
theorem dX8_init_25 : decode cX8_init 25 = .ok (.newarray .int, 2) := by decide +kernel
theorem dX8_init_27 : decode cX8_init 27 = .ok (.putfield 17, 3) := by decide +kernel
theorem dX8_init_30 : decode cX8_init 30 = .ok (.aload_n 0, 1) := by decide +kernel
theorem dX8_init_31 : decode cX8_init 31 = .ok (.iconst 4, 1) := by decide +kernel
theorem dX8_init_32 : decode cX8_init 32 = .ok (.newarray .int, 2) := by decide +kernel
theorem dX8_init_34 : decode cX8_init 34 = .ok (.putfield 20, 3) := by decide +kernel
theorem dX8_init_37 : decode cX8_init 37 = .ok (.aload_n 0, 1) := by decide +kernel
theorem dX8_init_38 : decode cX8_init 38 = .ok (.sipush 1376, 3) := by decide +kernel
theorem dX8_init_41 : decode cX8_init 41 = .ok (.newarray .int, 2) := by decide +kernel
theorem dX8_init_43 : decode cX8_init 43 = .ok (.putfield 23, 3) := by decide +kernel
theorem dX8_init_46 : decode cX8_init 46 = .ok (.aload_n 0, 1) := by decide +kernel
theorem dX8_init_47 : decode cX8_init 47 = .ok (.iconst 4, 1) := by decide +kernel
theorem dX8_init_48 : decode cX8_init 48 = .ok (.newarray .int, 2) := by decide +kernel
theorem dX8_init_50 : decode cX8_init 50 = .ok (.putfield 26, 3) := by decide +kernel
theorem dX8_init_53 : decode cX8_init 53 = .ok (.aload_n 0, 1) := by decide +kernel
theorem dX8_init_54 : decode cX8_init 54 = .ok (.sipush 688, 3) := by decide +kernel
theorem dX8_init_57 : decode cX8_init 57 = .ok (.newarray .int, 2) := by decide +kernel
theorem dX8_init_59 : decode cX8_init 59 = .ok (.putfield 29, 3) := by decide +kernel
theorem dX8_init_62 : decode cX8_init 62 = .ok (.aload_n 0, 1) := by decide +kernel
theorem dX8_init_63 : decode cX8_init 63 = .ok (.bipush 8, 2) := by decide +kernel
theorem dX8_init_65 : decode cX8_init 65 = .ok (.newarray .int, 2) := by decide +kernel
theorem dX8_init_67 : decode cX8_init 67 = .ok (.putfield 32, 3) := by decide +kernel
theorem dX8_init_70 : decode cX8_init 70 = .ok (.aload_n 0, 1) := by decide +kernel
theorem dX8_init_71 : decode cX8_init 71 = .ok (.iconst 2, 1) := by decide +kernel
theorem dX8_init_72 : decode cX8_init 72 = .ok (.newarray .boolean, 2) := by decide +kernel
theorem dX8_init_74 : decode cX8_init 74 = .ok (.putfield 35, 3) := by decide +kernel
theorem dX8_init_77 : decode cX8_init 77 = .ok (.aload_n 0, 1) := by decide +kernel
theorem dX8_init_78 : decode cX8_init 78 = .ok (.sipush 128, 3) := by decide +kernel
theorem dX8_init_81 : decode cX8_init 81 = .ok (.newarray .int, 2) := by decide +kernel
theorem dX8_init_83 : decode cX8_init 83 = .ok (.putfield 39, 3) := by decide +kernel
theorem dX8_init_86 : decode cX8_init 86 = .ok (.aload_n 0, 1) := by decide +kernel
theorem dX8_init_87 : decode cX8_init 87 = .ok (.bipush 91, 2) := by decide +kernel
theorem dX8_init_89 : decode cX8_init 89 = .ok (.newarray .int, 2) := by decide +kernel
theorem dX8_init_91 : decode cX8_init 91 = .ok (.putfield 42, 3) := by decide +kernel
theorem dX8_init_94 : decode cX8_init 94 = .ok (.aload_n 0, 1) := by decide +kernel
theorem dX8_init_95 : decode cX8_init 95 = .ok (.sipush 200, 3) := by decide +kernel
theorem dX8_init_98 : decode cX8_init 98 = .ok (.newarray .int, 2) := by decide +kernel
theorem dX8_init_100 : decode cX8_init 100 = .ok (.putfield 45, 3) := by decide +kernel
theorem dX8_init_103 : decode cX8_init 103 = .ok (.aload_n 0, 1) := by decide +kernel
theorem dX8_init_104 : decode cX8_init 104 = .ok (.bipush 6, 2) := by decide +kernel
theorem dX8_init_106 : decode cX8_init 106 = .ok (.newarray .int, 2) := by decide +kernel
theorem dX8_init_108 : decode cX8_init 108 = .ok (.putfield 48, 3) := by decide +kernel
theorem dX8_init_111 : decode cX8_init 111 = .ok (.aload_n 0, 1) := by decide +kernel
theorem dX8_init_112 : decode cX8_init 112 = .ok (.iconst 3, 1) := by decide +kernel
theorem dX8_init_113 : decode cX8_init 113 = .ok (.newarray .int, 2) := by decide +kernel
theorem dX8_init_115 : decode cX8_init 115 = .ok (.putfield 51, 3) := by decide +kernel
theorem dX8_init_118 : decode cX8_init 118 = .ok (.aload_n 0, 1) := by decide +kernel
theorem dX8_init_119 : decode cX8_init 119 = .ok (.iconst 3, 1) := by decide +kernel
theorem dX8_init_120 : decode cX8_init 120 = .ok (.newarray .int, 2) := by decide +kernel
theorem dX8_init_122 : decode cX8_init 122 = .ok (.putfield 54, 3) := by decide +kernel
theorem dX8_init_125 : decode cX8_init 125 = .ok (.aload_n 0, 1) := by decide +kernel
theorem dX8_init_126 : decode cX8_init 126 = .ok (.bipush 24, 2) := by decide +kernel
theorem dX8_init_128 : decode cX8_init 128 = .ok (.newarray .int, 2) := by decide +kernel
theorem dX8_init_130 : decode cX8_init 130 = .ok (.putfield 57, 3) := by decide +kernel
theorem dX8_init_133 : decode cX8_init 133 = .ok (.iconst 0, 1) := by decide +kernel
theorem dX8_init_134 : decode cX8_init 134 = .ok (.istore_n 1, 1) := by decide +kernel
theorem dX8_init_135 : decode cX8_init 135 = .ok (.iload_n 1, 1) := by decide +kernel
theorem dX8_init_136 : decode cX8_init 136 = .ok (.iconst 3, 1) := by decide +kernel
theorem dX8_init_137 : decode cX8_init 137 = .ok (.if_icmp .ge 16, 3) := by decide +kernel
theorem dX8_init_140 : decode cX8_init 140 = .ok (.aload_n 0, 1) := by decide +kernel
theorem dX8_init_141 : decode cX8_init 141 = .ok (.getfield 51, 3) := by decide +kernel
theorem dX8_init_144 : decode cX8_init 144 = .ok (.iload_n 1, 1) := by decide +kernel
theorem dX8_init_145 : decode cX8_init 145 = .ok (.iconst (-1), 1) := by decide +kernel
theorem dX8_init_146 : decode cX8_init 146 = .ok (.iastore, 1) := by decide +kernel
theorem dX8_init_147 : decode cX8_init 147 = .ok (.iinc 1 1, 3) := by decide +kernel
theorem dX8_init_150 : decode cX8_init 150 = .ok (.goto (-15), 3) := by decide +kernel
theorem dX8_init_153 : decode cX8_init 153 = .ok (.return_, 1) := by decide +kernel
theorem dX8_in_0 : decode cX8_in 0 = .ok (.lload_n 0, 1) := by decide +kernel
theorem dX8_in_1 : decode cX8_in 1 = .ok (.lload_n 2, 1) := by decide +kernel
theorem dX8_in_2 : decode cX8_in 2 = .ok (.lcmp, 1) := by decide +kernel
theorem dX8_in_3 : decode cX8_in 3 = .ok (.ifCond .lt 14, 3) := by decide +kernel
theorem dX8_in_6 : decode cX8_in 6 = .ok (.lload_n 0, 1) := by decide +kernel
theorem dX8_in_7 : decode cX8_in 7 = .ok (.lload 4, 2) := by decide +kernel
theorem dX8_in_9 : decode cX8_in 9 = .ok (.lcmp, 1) := by decide +kernel
theorem dX8_in_10 : decode cX8_in 10 = .ok (.ifCond .gt 7, 3) := by decide +kernel
theorem dX8_in_13 : decode cX8_in 13 = .ok (.iconst 1, 1) := by decide +kernel
theorem dX8_in_14 : decode cX8_in 14 = .ok (.goto 4, 3) := by decide +kernel
theorem dX8_in_17 : decode cX8_in 17 = .ok (.iconst 0, 1) := by decide +kernel
theorem dX8_in_18 : decode cX8_in 18 = .ok (.ireturn, 1) := by decide +kernel
theorem dX8_isTrack_0 : decode cX8_isTrack 0 = .ok (.iload_n 0, 1) := by decide +kernel
theorem dX8_isTrack_1 : decode cX8_isTrack 1 = .ok (.i2l, 1) := by decide +kernel
theorem dX8_isTrack_2 : decode cX8_isTrack 2 = .ok (.lconst 0, 1) := by decide +kernel
theorem dX8_isTrack_3 : decode cX8_isTrack 3 = .ok (.ldc2_w 60, 3) := by decide +kernel
theorem dX8_isTrack_6 : decode cX8_isTrack 6 = .ok (.invokestatic 62, 3) := by decide +kernel
theorem dX8_isTrack_9 : decode cX8_isTrack 9 = .ok (.ireturn, 1) := by decide +kernel
theorem dX8_many_0 : decode cX8_many 0 = .ok (.aload_n 0, 1) := by decide +kernel
theorem dX8_many_1 : decode cX8_many 1 = .ok (.getfield 17, 3) := by decide +kernel
theorem dX8_many_4 : decode cX8_many 4 = .ok (.bipush 86, 2) := by decide +kernel
theorem dX8_many_6 : decode cX8_many 6 = .ok (.iload_n 1, 1) := by decide +kernel
theorem dX8_many_7 : decode cX8_many 7 = .ok (.imul, 1) := by decide +kernel
theorem dX8_many_8 : decode cX8_many 8 = .ok (.bipush 84, 2) := by decide +kernel
theorem dX8_many_10 : decode cX8_many 10 = .ok (.iadd, 1) := by decide +kernel
theorem dX8_many_11 : decode cX8_many 11 = .ok (.iaload, 1) := by decide +kernel
theorem dX8_many_12 : decode cX8_many 12 = .ok (.ireturn, 1) := by decide +kernel
theorem dX8_of_0 : decode cX8_of 0 = .ok (.aload_n 0, 1) := by decide +kernel
theorem dX8_of_1 : decode cX8_of 1 = .ok (.getfield 17, 3) := by decide +kernel
theorem dX8_of_4 : decode cX8_of 4 = .ok (.bipush 86, 2) := by decide +kernel
theorem dX8_of_6 : decode cX8_of 6 = .ok (.iload_n 1, 1) := by decide +kernel
theorem dX8_of_7 : decode cX8_of 7 = .ok (.imul, 1) := by decide +kernel
theorem dX8_of_8 : decode cX8_of 8 = .ok (.bipush 7, 2) := by decide +kernel
theorem dX8_of_10 : decode cX8_of 10 = .ok (.iload_n 2, 1) := by decide +kernel
theorem dX8_of_11 : decode cX8_of 11 = .ok (.imul, 1) := by decide +kernel
theorem dX8_of_12 : decode cX8_of 12 = .ok (.iadd, 1) := by decide +kernel
theorem dX8_of_13 : decode cX8_of 13 = .ok (.iload_n 3, 1) := by decide +kernel
theorem dX8_of_14 : decode cX8_of 14 = .ok (.iadd, 1) := by decide +kernel
theorem dX8_of_15 : decode cX8_of 15 = .ok (.iaload, 1) := by decide +kernel
theorem dX8_of_16 : decode cX8_of 16 = .ok (.ireturn, 1) := by decide +kernel
theorem dX8_sets_0 : decode cX8_sets 0 = .ok (.aload_n 0, 1) := by decide +kernel
theorem dX8_sets_1 : decode cX8_sets 1 = .ok (.getfield 17, 3) := by decide +kernel
theorem dX8_sets_4 : decode cX8_sets 4 = .ok (.bipush 86, 2) := by decide +kernel
theorem dX8_sets_6 : decode cX8_sets 6 = .ok (.iload_n 1, 1) := by decide +kernel
theorem dX8_sets_7 : decode cX8_sets 7 = .ok (.imul, 1) := by decide +kernel
theorem dX8_sets_8 : decode cX8_sets 8 = .ok (.bipush 7, 2) := by decide +kernel
theorem dX8_sets_10 : decode cX8_sets 10 = .ok (.iload_n 2, 1) := by decide +kernel
theorem dX8_sets_11 : decode cX8_sets 11 = .ok (.imul, 1) := by decide +kernel
theorem dX8_sets_12 : decode cX8_sets 12 = .ok (.iadd, 1) := by decide +kernel
theorem dX8_sets_13 : decode cX8_sets 13 = .ok (.iload_n 3, 1) := by decide +kernel
theorem dX8_sets_14 : decode cX8_sets 14 = .ok (.iadd, 1) := by decide +kernel
theorem dX8_sets_15 : decode cX8_sets 15 = .ok (.iload 4, 2) := by decide +kernel
theorem dX8_sets_17 : decode cX8_sets 17 = .ok (.iastore, 1) := by decide +kernel
theorem dX8_sets_18 : decode cX8_sets 18 = .ok (.return_, 1) := by decide +kernel
theorem dX8_isSpan_0 : decode cX8_isSpan 0 = .ok (.iload_n 1, 1) := by decide +kernel
theorem dX8_isSpan_1 : decode cX8_isSpan 1 = .ok (.invokestatic 66, 3) := by decide +kernel
theorem dX8_isSpan_4 : decode cX8_isSpan 4 = .ok (.ifCond .eq 24, 3) := by decide +kernel
theorem dX8_isSpan_7 : decode cX8_isSpan 7 = .ok (.iload_n 2, 1) := by decide +kernel
theorem dX8_isSpan_8 : decode cX8_isSpan 8 = .ok (.i2l, 1) := by decide +kernel
theorem dX8_isSpan_9 : decode cX8_isSpan 9 = .ok (.lconst 0, 1) := by decide +kernel
theorem dX8_isSpan_10 : decode cX8_isSpan 10 = .ok (.aload_n 0, 1) := by decide +kernel
theorem dX8_isSpan_11 : decode cX8_isSpan 11 = .ok (.iload_n 1, 1) := by decide +kernel
theorem dX8_isSpan_12 : decode cX8_isSpan 12 = .ok (.invokevirtual 70, 3) := by decide +kernel
theorem dX8_isSpan_15 : decode cX8_isSpan 15 = .ok (.iconst 1, 1) := by decide +kernel
theorem dX8_isSpan_16 : decode cX8_isSpan 16 = .ok (.isub, 1) := by decide +kernel
theorem dX8_isSpan_17 : decode cX8_isSpan 17 = .ok (.i2l, 1) := by decide +kernel
theorem dX8_isSpan_18 : decode cX8_isSpan 18 = .ok (.invokestatic 62, 3) := by decide +kernel
theorem dX8_isSpan_21 : decode cX8_isSpan 21 = .ok (.ifCond .eq 7, 3) := by decide +kernel
theorem dX8_isSpan_24 : decode cX8_isSpan 24 = .ok (.iconst 1, 1) := by decide +kernel
theorem dX8_isSpan_25 : decode cX8_isSpan 25 = .ok (.goto 4, 3) := by decide +kernel
theorem dX8_isSpan_28 : decode cX8_isSpan 28 = .ok (.iconst 0, 1) := by decide +kernel
theorem dX8_isSpan_29 : decode cX8_isSpan 29 = .ok (.ireturn, 1) := by decide +kernel
theorem dX8_tells_0 : decode cX8_tells 0 = .ok (.iconst 0, 1) := by decide +kernel
theorem dX8_tells_1 : decode cX8_tells 1 = .ok (.istore_n 2, 1) := by decide +kernel
theorem dX8_tells_2 : decode cX8_tells 2 = .ok (.iload_n 2, 1) := by decide +kernel
theorem dX8_tells_3 : decode cX8_tells 3 = .ok (.sipush 128, 3) := by decide +kernel
theorem dX8_tells_6 : decode cX8_tells 6 = .ok (.if_icmp .ge 16, 3) := by decide +kernel
theorem dX8_tells_9 : decode cX8_tells 9 = .ok (.aload_n 0, 1) := by decide +kernel
theorem dX8_tells_10 : decode cX8_tells 10 = .ok (.getfield 39, 3) := by decide +kernel
theorem dX8_tells_13 : decode cX8_tells 13 = .ok (.iload_n 2, 1) := by decide +kernel
theorem dX8_tells_14 : decode cX8_tells 14 = .ok (.iconst (-1), 1) := by decide +kernel
theorem dX8_tells_15 : decode cX8_tells 15 = .ok (.iastore, 1) := by decide +kernel
theorem dX8_tells_16 : decode cX8_tells 16 = .ok (.iinc 2 1, 3) := by decide +kernel
theorem dX8_tells_19 : decode cX8_tells 19 = .ok (.goto (-17), 3) := by decide +kernel
theorem dX8_tells_22 : decode cX8_tells 22 = .ok (.iconst 0, 1) := by decide +kernel
theorem dX8_tells_23 : decode cX8_tells 23 = .ok (.istore_n 2, 1) := by decide +kernel
theorem dX8_tells_24 : decode cX8_tells 24 = .ok (.iload_n 2, 1) := by decide +kernel
theorem dX8_tells_25 : decode cX8_tells 25 = .ok (.bipush 84, 2) := by decide +kernel
theorem dX8_tells_27 : decode cX8_tells 27 = .ok (.if_icmp .ge 26, 3) := by decide +kernel
theorem dX8_tells_30 : decode cX8_tells 30 = .ok (.aload_n 0, 1) := by decide +kernel
theorem dX8_tells_31 : decode cX8_tells 31 = .ok (.getfield 42, 3) := by decide +kernel
theorem dX8_tells_34 : decode cX8_tells 34 = .ok (.iload_n 2, 1) := by decide +kernel
theorem dX8_tells_35 : decode cX8_tells 35 = .ok (.aload_n 0, 1) := by decide +kernel
theorem dX8_tells_36 : decode cX8_tells 36 = .ok (.getfield 17, 3) := by decide +kernel
theorem dX8_tells_39 : decode cX8_tells 39 = .ok (.bipush 86, 2) := by decide +kernel
theorem dX8_tells_41 : decode cX8_tells 41 = .ok (.iload_n 1, 1) := by decide +kernel
theorem dX8_tells_42 : decode cX8_tells 42 = .ok (.imul, 1) := by decide +kernel
theorem dX8_tells_43 : decode cX8_tells 43 = .ok (.iload_n 2, 1) := by decide +kernel
theorem dX8_tells_44 : decode cX8_tells 44 = .ok (.iadd, 1) := by decide +kernel
theorem dX8_tells_45 : decode cX8_tells 45 = .ok (.iaload, 1) := by decide +kernel
theorem dX8_tells_46 : decode cX8_tells 46 = .ok (.iastore, 1) := by decide +kernel
theorem dX8_tells_47 : decode cX8_tells 47 = .ok (.iinc 2 1, 3) := by decide +kernel
theorem dX8_tells_50 : decode cX8_tells 50 = .ok (.goto (-26), 3) := by decide +kernel
theorem dX8_tells_53 : decode cX8_tells 53 = .ok (.iconst 0, 1) := by decide +kernel
theorem dX8_tells_54 : decode cX8_tells 54 = .ok (.istore_n 2, 1) := by decide +kernel
theorem dX8_tells_55 : decode cX8_tells 55 = .ok (.iload_n 2, 1) := by decide +kernel
theorem dX8_tells_56 : decode cX8_tells 56 = .ok (.aload_n 0, 1) := by decide +kernel
theorem dX8_tells_57 : decode cX8_tells 57 = .ok (.iload_n 1, 1) := by decide +kernel
theorem dX8_tells_58 : decode cX8_tells 58 = .ok (.invokevirtual 70, 3) := by decide +kernel
theorem dX8_tells_61 : decode cX8_tells 61 = .ok (.if_icmp .ge 49, 3) := by decide +kernel
theorem dX8_tells_64 : decode cX8_tells 64 = .ok (.aload_n 0, 1) := by decide +kernel
theorem dX8_tells_65 : decode cX8_tells 65 = .ok (.iload_n 1, 1) := by decide +kernel
theorem dX8_tells_66 : decode cX8_tells 66 = .ok (.iload_n 2, 1) := by decide +kernel
theorem dX8_tells_67 : decode cX8_tells 67 = .ok (.iconst 3, 1) := by decide +kernel
theorem dX8_tells_68 : decode cX8_tells 68 = .ok (.invokevirtual 74, 3) := by decide +kernel
theorem dX8_tells_71 : decode cX8_tells 71 = .ok (.istore_n 3, 1) := by decide +kernel
theorem dX8_tells_72 : decode cX8_tells 72 = .ok (.iload_n 3, 1) := by decide +kernel
theorem dX8_tells_73 : decode cX8_tells 73 = .ok (.aload_n 0, 1) := by decide +kernel
theorem dX8_tells_74 : decode cX8_tells 74 = .ok (.iload_n 1, 1) := by decide +kernel
theorem dX8_tells_75 : decode cX8_tells 75 = .ok (.iload_n 2, 1) := by decide +kernel
theorem dX8_tells_76 : decode cX8_tells 76 = .ok (.iconst 3, 1) := by decide +kernel
theorem dX8_tells_77 : decode cX8_tells 77 = .ok (.invokevirtual 74, 3) := by decide +kernel
theorem dX8_tells_80 : decode cX8_tells 80 = .ok (.aload_n 0, 1) := by decide +kernel
theorem dX8_tells_81 : decode cX8_tells 81 = .ok (.iload_n 1, 1) := by decide +kernel
theorem dX8_tells_82 : decode cX8_tells 82 = .ok (.iload_n 2, 1) := by decide +kernel
theorem dX8_tells_83 : decode cX8_tells 83 = .ok (.iconst 2, 1) := by decide +kernel
theorem dX8_tells_84 : decode cX8_tells 84 = .ok (.invokevirtual 74, 3) := by decide +kernel
theorem dX8_tells_87 : decode cX8_tells 87 = .ok (.iadd, 1) := by decide +kernel
theorem dX8_tells_88 : decode cX8_tells 88 = .ok (.if_icmp .ge 16, 3) := by decide +kernel
theorem dX8_tells_91 : decode cX8_tells 91 = .ok (.aload_n 0, 1) := by decide +kernel
theorem dX8_tells_92 : decode cX8_tells 92 = .ok (.getfield 39, 3) := by decide +kernel
theorem dX8_tells_95 : decode cX8_tells 95 = .ok (.iload_n 3, 1) := by decide +kernel
theorem dX8_tells_96 : decode cX8_tells 96 = .ok (.iload_n 2, 1) := by decide +kernel
theorem dX8_tells_97 : decode cX8_tells 97 = .ok (.iastore, 1) := by decide +kernel
theorem dX8_tells_98 : decode cX8_tells 98 = .ok (.iinc 3 1, 3) := by decide +kernel
theorem dX8_tells_101 : decode cX8_tells 101 = .ok (.goto (-29), 3) := by decide +kernel
theorem dX8_tells_104 : decode cX8_tells 104 = .ok (.iinc 2 1, 3) := by decide +kernel
theorem dX8_tells_107 : decode cX8_tells 107 = .ok (.goto (-52), 3) := by decide +kernel
theorem dX8_tells_110 : decode cX8_tells 110 = .ok (.return_, 1) := by decide +kernel
theorem dX8_gives_0 : decode cX8_gives 0 = .ok (.iload_n 1, 1) := by decide +kernel
theorem dX8_gives_1 : decode cX8_gives 1 = .ok (.istore 4, 2) := by decide +kernel
theorem dX8_gives_3 : decode cX8_gives 3 = .ok (.iload 4, 2) := by decide +kernel
theorem dX8_gives_5 : decode cX8_gives 5 = .ok (.iload_n 2, 1) := by decide +kernel
theorem dX8_gives_6 : decode cX8_gives 6 = .ok (.if_icmp .ge 17, 3) := by decide +kernel
theorem dX8_gives_9 : decode cX8_gives 9 = .ok (.aload_n 0, 1) := by decide +kernel
theorem dX8_gives_10 : decode cX8_gives 10 = .ok (.getfield 39, 3) := by decide +kernel
theorem dX8_gives_13 : decode cX8_gives 13 = .ok (.iload 4, 2) := by decide +kernel
theorem dX8_gives_15 : decode cX8_gives 15 = .ok (.iload_n 3, 1) := by decide +kernel
theorem dX8_gives_16 : decode cX8_gives 16 = .ok (.iastore, 1) := by decide +kernel
theorem dX8_gives_17 : decode cX8_gives 17 = .ok (.iinc 4 1, 3) := by decide +kernel
theorem dX8_gives_20 : decode cX8_gives 20 = .ok (.goto (-17), 3) := by decide +kernel
theorem dX8_gives_23 : decode cX8_gives 23 = .ok (.return_, 1) := by decide +kernel
theorem dX8_begins_0 : decode cX8_begins 0 = .ok (.aload_n 0, 1) := by decide +kernel
theorem dX8_begins_1 : decode cX8_begins 1 = .ok (.getfield 39, 3) := by decide +kernel
theorem dX8_begins_4 : decode cX8_begins 4 = .ok (.iload_n 1, 1) := by decide +kernel
theorem dX8_begins_5 : decode cX8_begins 5 = .ok (.iaload, 1) := by decide +kernel
theorem dX8_begins_6 : decode cX8_begins 6 = .ok (.iconst (-1), 1) := by decide +kernel
theorem dX8_begins_7 : decode cX8_begins 7 = .ok (.if_icmp .eq 33, 3) := by decide +kernel
theorem dX8_begins_10 : decode cX8_begins 10 = .ok (.iload_n 1, 1) := by decide +kernel
theorem dX8_begins_11 : decode cX8_begins 11 = .ok (.ifCond .eq 25, 3) := by decide +kernel
theorem dX8_begins_14 : decode cX8_begins 14 = .ok (.iload_n 1, 1) := by decide +kernel
theorem dX8_begins_15 : decode cX8_begins 15 = .ok (.iload_n 2, 1) := by decide +kernel
theorem dX8_begins_16 : decode cX8_begins 16 = .ok (.if_icmp .eq 20, 3) := by decide +kernel
theorem dX8_begins_19 : decode cX8_begins 19 = .ok (.aload_n 0, 1) := by decide +kernel
theorem dX8_begins_20 : decode cX8_begins 20 = .ok (.getfield 39, 3) := by decide +kernel
theorem dX8_begins_23 : decode cX8_begins 23 = .ok (.iload_n 1, 1) := by decide +kernel
theorem dX8_begins_24 : decode cX8_begins 24 = .ok (.iaload, 1) := by decide +kernel
theorem dX8_begins_25 : decode cX8_begins 25 = .ok (.aload_n 0, 1) := by decide +kernel
theorem dX8_begins_26 : decode cX8_begins 26 = .ok (.getfield 39, 3) := by decide +kernel
theorem dX8_begins_29 : decode cX8_begins 29 = .ok (.iload_n 1, 1) := by decide +kernel
theorem dX8_begins_30 : decode cX8_begins 30 = .ok (.iconst 1, 1) := by decide +kernel
theorem dX8_begins_31 : decode cX8_begins 31 = .ok (.isub, 1) := by decide +kernel
theorem dX8_begins_32 : decode cX8_begins 32 = .ok (.iaload, 1) := by decide +kernel
theorem dX8_begins_33 : decode cX8_begins 33 = .ok (.if_icmp .eq 7, 3) := by decide +kernel
theorem dX8_begins_36 : decode cX8_begins 36 = .ok (.iconst 1, 1) := by decide +kernel
theorem dX8_begins_37 : decode cX8_begins 37 = .ok (.goto 4, 3) := by decide +kernel
theorem dX8_begins_40 : decode cX8_begins 40 = .ok (.iconst 0, 1) := by decide +kernel
theorem dX8_begins_41 : decode cX8_begins 41 = .ok (.ireturn, 1) := by decide +kernel
theorem dX8_runs_0 : decode cX8_runs 0 = .ok (.iconst 0, 1) := by decide +kernel
theorem dX8_runs_1 : decode cX8_runs 1 = .ok (.istore_n 2, 1) := by decide +kernel
theorem dX8_runs_2 : decode cX8_runs 2 = .ok (.iconst 0, 1) := by decide +kernel
theorem dX8_runs_3 : decode cX8_runs 3 = .ok (.istore_n 3, 1) := by decide +kernel
theorem dX8_runs_4 : decode cX8_runs 4 = .ok (.iload_n 3, 1) := by decide +kernel
theorem dX8_runs_5 : decode cX8_runs 5 = .ok (.sipush 128, 3) := by decide +kernel
theorem dX8_runs_8 : decode cX8_runs 8 = .ok (.if_icmp .ge 26, 3) := by decide +kernel
theorem dX8_runs_11 : decode cX8_runs 11 = .ok (.iload_n 2, 1) := by decide +kernel
theorem dX8_runs_12 : decode cX8_runs 12 = .ok (.aload_n 0, 1) := by decide +kernel
theorem dX8_runs_13 : decode cX8_runs 13 = .ok (.iload_n 3, 1) := by decide +kernel
theorem dX8_runs_14 : decode cX8_runs 14 = .ok (.iload_n 1, 1) := by decide +kernel
theorem dX8_runs_15 : decode cX8_runs 15 = .ok (.invokevirtual 78, 3) := by decide +kernel
theorem dX8_runs_18 : decode cX8_runs 18 = .ok (.ifCond .eq 7, 3) := by decide +kernel
theorem dX8_runs_21 : decode cX8_runs 21 = .ok (.iconst 1, 1) := by decide +kernel
theorem dX8_runs_22 : decode cX8_runs 22 = .ok (.goto 4, 3) := by decide +kernel
theorem dX8_runs_25 : decode cX8_runs 25 = .ok (.iconst 0, 1) := by decide +kernel
theorem dX8_runs_26 : decode cX8_runs 26 = .ok (.iadd, 1) := by decide +kernel
theorem dX8_runs_27 : decode cX8_runs 27 = .ok (.istore_n 2, 1) := by decide +kernel
theorem dX8_runs_28 : decode cX8_runs 28 = .ok (.iinc 3 1, 3) := by decide +kernel
theorem dX8_runs_31 : decode cX8_runs 31 = .ok (.goto (-27), 3) := by decide +kernel
theorem dX8_runs_34 : decode cX8_runs 34 = .ok (.iload_n 2, 1) := by decide +kernel
theorem dX8_runs_35 : decode cX8_runs 35 = .ok (.ireturn, 1) := by decide +kernel
theorem dX8_least_0 : decode cX8_least 0 = .ok (.iload_n 0, 1) := by decide +kernel
theorem dX8_least_1 : decode cX8_least 1 = .ok (.iload_n 1, 1) := by decide +kernel
theorem dX8_least_2 : decode cX8_least 2 = .ok (.if_icmp .ge 7, 3) := by decide +kernel
theorem dX8_least_5 : decode cX8_least 5 = .ok (.iload_n 0, 1) := by decide +kernel
theorem dX8_least_6 : decode cX8_least 6 = .ok (.goto 4, 3) := by decide +kernel
theorem dX8_least_9 : decode cX8_least 9 = .ok (.iload_n 1, 1) := by decide +kernel
theorem dX8_least_10 : decode cX8_least 10 = .ok (.ireturn, 1) := by decide +kernel
theorem dX8_lays_0 : decode cX8_lays 0 = .ok (.iconst 0, 1) := by decide +kernel
theorem dX8_lays_1 : decode cX8_lays 1 = .ok (.istore_n 3, 1) := by decide +kernel
theorem dX8_lays_2 : decode cX8_lays 2 = .ok (.iconst 0, 1) := by decide +kernel
theorem dX8_lays_3 : decode cX8_lays 3 = .ok (.istore 4, 2) := by decide +kernel
theorem dX8_lays_5 : decode cX8_lays 5 = .ok (.iload 4, 2) := by decide +kernel
theorem dX8_lays_7 : decode cX8_lays 7 = .ok (.sipush 128, 3) := by decide +kernel
theorem dX8_lays_10 : decode cX8_lays 10 = .ok (.if_icmp .ge 257, 3) := by decide +kernel
theorem dX8_lays_13 : decode cX8_lays 13 = .ok (.aload_n 0, 1) := by decide +kernel
theorem dX8_lays_14 : decode cX8_lays 14 = .ok (.iload 4, 2) := by decide +kernel
theorem dX8_lays_16 : decode cX8_lays 16 = .ok (.iload_n 2, 1) := by decide +kernel
theorem dX8_lays_17 : decode cX8_lays 17 = .ok (.invokevirtual 78, 3) := by decide +kernel
theorem dX8_lays_20 : decode cX8_lays 20 = .ok (.ifCond .eq 241, 3) := by decide +kernel
theorem dX8_lays_23 : decode cX8_lays 23 = .ok (.iload 4, 2) := by decide +kernel
theorem dX8_lays_25 : decode cX8_lays 25 = .ok (.iconst 1, 1) := by decide +kernel
theorem dX8_lays_26 : decode cX8_lays 26 = .ok (.iadd, 1) := by decide +kernel
theorem dX8_lays_27 : decode cX8_lays 27 = .ok (.istore 5, 2) := by decide +kernel
theorem dX8_lays_29 : decode cX8_lays 29 = .ok (.iload 5, 2) := by decide +kernel
theorem dX8_lays_31 : decode cX8_lays 31 = .ok (.sipush 128, 3) := by decide +kernel
theorem dX8_lays_34 : decode cX8_lays 34 = .ok (.if_icmp .ge 36, 3) := by decide +kernel
theorem dX8_lays_37 : decode cX8_lays 37 = .ok (.aload_n 0, 1) := by decide +kernel
theorem dX8_lays_38 : decode cX8_lays 38 = .ok (.getfield 39, 3) := by decide +kernel
theorem dX8_lays_41 : decode cX8_lays 41 = .ok (.iload 5, 2) := by decide +kernel
theorem dX8_lays_43 : decode cX8_lays 43 = .ok (.iaload, 1) := by decide +kernel
theorem dX8_lays_44 : decode cX8_lays 44 = .ok (.aload_n 0, 1) := by decide +kernel
theorem dX8_lays_45 : decode cX8_lays 45 = .ok (.getfield 39, 3) := by decide +kernel
theorem dX8_lays_48 : decode cX8_lays 48 = .ok (.iload 4, 2) := by decide +kernel
theorem dX8_lays_50 : decode cX8_lays 50 = .ok (.iaload, 1) := by decide +kernel
theorem dX8_lays_51 : decode cX8_lays 51 = .ok (.if_icmp .ne 19, 3) := by decide +kernel
theorem dX8_lays_54 : decode cX8_lays 54 = .ok (.aload_n 0, 1) := by decide +kernel
theorem dX8_lays_55 : decode cX8_lays 55 = .ok (.iload 5, 2) := by decide +kernel
theorem dX8_lays_57 : decode cX8_lays 57 = .ok (.iload_n 2, 1) := by decide +kernel
theorem dX8_lays_58 : decode cX8_lays 58 = .ok (.invokevirtual 78, 3) := by decide +kernel
theorem dX8_lays_61 : decode cX8_lays 61 = .ok (.ifCond .ne 9, 3) := by decide +kernel
theorem dX8_lays_64 : decode cX8_lays 64 = .ok (.iinc 5 1, 3) := by decide +kernel
theorem dX8_lays_67 : decode cX8_lays 67 = .ok (.goto (-38), 3) := by decide +kernel
theorem dX8_lays_70 : decode cX8_lays 70 = .ok (.bipush 7, 2) := by decide +kernel
theorem dX8_lays_72 : decode cX8_lays 72 = .ok (.aload_n 0, 1) := by decide +kernel
theorem dX8_lays_73 : decode cX8_lays 73 = .ok (.getfield 39, 3) := by decide +kernel
theorem dX8_lays_76 : decode cX8_lays 76 = .ok (.iload 4, 2) := by decide +kernel
theorem dX8_lays_78 : decode cX8_lays 78 = .ok (.iaload, 1) := by decide +kernel
theorem dX8_lays_79 : decode cX8_lays 79 = .ok (.imul, 1) := by decide +kernel
theorem dX8_lays_80 : decode cX8_lays 80 = .ok (.istore 6, 2) := by decide +kernel
theorem dX8_lays_82 : decode cX8_lays 82 = .ok (.iload 5, 2) := by decide +kernel
theorem dX8_lays_84 : decode cX8_lays 84 = .ok (.iload 4, 2) := by decide +kernel
theorem dX8_lays_86 : decode cX8_lays 86 = .ok (.isub, 1) := by decide +kernel
theorem dX8_lays_87 : decode cX8_lays 87 = .ok (.istore 7, 2) := by decide +kernel
theorem dX8_lays_89 : decode cX8_lays 89 = .ok (.aload_n 0, 1) := by decide +kernel
theorem dX8_lays_90 : decode cX8_lays 90 = .ok (.iload_n 1, 1) := by decide +kernel
theorem dX8_lays_91 : decode cX8_lays 91 = .ok (.iload_n 3, 1) := by decide +kernel
theorem dX8_lays_92 : decode cX8_lays 92 = .ok (.iconst 0, 1) := by decide +kernel
theorem dX8_lays_93 : decode cX8_lays 93 = .ok (.aload_n 0, 1) := by decide +kernel
theorem dX8_lays_94 : decode cX8_lays 94 = .ok (.getfield 42, 3) := by decide +kernel
theorem dX8_lays_97 : decode cX8_lays 97 = .ok (.iload 6, 2) := by decide +kernel
theorem dX8_lays_99 : decode cX8_lays 99 = .ok (.iconst 0, 1) := by decide +kernel
theorem dX8_lays_100 : decode cX8_lays 100 = .ok (.iadd, 1) := by decide +kernel
theorem dX8_lays_101 : decode cX8_lays 101 = .ok (.iaload, 1) := by decide +kernel
theorem dX8_lays_102 : decode cX8_lays 102 = .ok (.invokevirtual 82, 3) := by decide +kernel
theorem dX8_lays_105 : decode cX8_lays 105 = .ok (.aload_n 0, 1) := by decide +kernel
theorem dX8_lays_106 : decode cX8_lays 106 = .ok (.iload_n 1, 1) := by decide +kernel
theorem dX8_lays_107 : decode cX8_lays 107 = .ok (.iload_n 3, 1) := by decide +kernel
theorem dX8_lays_108 : decode cX8_lays 108 = .ok (.iconst 1, 1) := by decide +kernel
theorem dX8_lays_109 : decode cX8_lays 109 = .ok (.aload_n 0, 1) := by decide +kernel
theorem dX8_lays_110 : decode cX8_lays 110 = .ok (.getfield 42, 3) := by decide +kernel
theorem dX8_lays_113 : decode cX8_lays 113 = .ok (.iload 6, 2) := by decide +kernel
theorem dX8_lays_115 : decode cX8_lays 115 = .ok (.iconst 1, 1) := by decide +kernel
theorem dX8_lays_116 : decode cX8_lays 116 = .ok (.iadd, 1) := by decide +kernel
theorem dX8_lays_117 : decode cX8_lays 117 = .ok (.iaload, 1) := by decide +kernel
theorem dX8_lays_118 : decode cX8_lays 118 = .ok (.iload 4, 2) := by decide +kernel
theorem dX8_lays_120 : decode cX8_lays 120 = .ok (.iadd, 1) := by decide +kernel
theorem dX8_lays_121 : decode cX8_lays 121 = .ok (.aload_n 0, 1) := by decide +kernel
theorem dX8_lays_122 : decode cX8_lays 122 = .ok (.getfield 42, 3) := by decide +kernel
theorem dX8_lays_125 : decode cX8_lays 125 = .ok (.iload 6, 2) := by decide +kernel
theorem dX8_lays_127 : decode cX8_lays 127 = .ok (.iconst 3, 1) := by decide +kernel
theorem dX8_lays_128 : decode cX8_lays 128 = .ok (.iadd, 1) := by decide +kernel
theorem dX8_lays_129 : decode cX8_lays 129 = .ok (.iaload, 1) := by decide +kernel
theorem dX8_lays_130 : decode cX8_lays 130 = .ok (.isub, 1) := by decide +kernel
theorem dX8_lays_131 : decode cX8_lays 131 = .ok (.invokevirtual 82, 3) := by decide +kernel
theorem dX8_lays_134 : decode cX8_lays 134 = .ok (.aload_n 0, 1) := by decide +kernel
theorem dX8_lays_135 : decode cX8_lays 135 = .ok (.iload_n 1, 1) := by decide +kernel
theorem dX8_lays_136 : decode cX8_lays 136 = .ok (.iload_n 3, 1) := by decide +kernel
theorem dX8_lays_137 : decode cX8_lays 137 = .ok (.iconst 2, 1) := by decide +kernel
theorem dX8_lays_138 : decode cX8_lays 138 = .ok (.iload 7, 2) := by decide +kernel
theorem dX8_lays_140 : decode cX8_lays 140 = .ok (.invokevirtual 82, 3) := by decide +kernel
theorem dX8_lays_143 : decode cX8_lays 143 = .ok (.aload_n 0, 1) := by decide +kernel
theorem dX8_lays_144 : decode cX8_lays 144 = .ok (.iload_n 1, 1) := by decide +kernel
theorem dX8_lays_145 : decode cX8_lays 145 = .ok (.iload_n 3, 1) := by decide +kernel
theorem dX8_lays_146 : decode cX8_lays 146 = .ok (.iconst 3, 1) := by decide +kernel
theorem dX8_lays_147 : decode cX8_lays 147 = .ok (.iload 4, 2) := by decide +kernel
theorem dX8_lays_149 : decode cX8_lays 149 = .ok (.invokevirtual 82, 3) := by decide +kernel
theorem dX8_lays_152 : decode cX8_lays 152 = .ok (.aload_n 0, 1) := by decide +kernel
theorem dX8_lays_153 : decode cX8_lays 153 = .ok (.iload_n 1, 1) := by decide +kernel
theorem dX8_lays_154 : decode cX8_lays 154 = .ok (.iload_n 3, 1) := by decide +kernel
theorem dX8_lays_155 : decode cX8_lays 155 = .ok (.iconst 4, 1) := by decide +kernel
theorem dX8_lays_156 : decode cX8_lays 156 = .ok (.aload_n 0, 1) := by decide +kernel
theorem dX8_lays_157 : decode cX8_lays 157 = .ok (.getfield 42, 3) := by decide +kernel
theorem dX8_lays_160 : decode cX8_lays 160 = .ok (.iload 6, 2) := by decide +kernel
theorem dX8_lays_162 : decode cX8_lays 162 = .ok (.iconst 4, 1) := by decide +kernel
theorem dX8_lays_163 : decode cX8_lays 163 = .ok (.iadd, 1) := by decide +kernel
theorem dX8_lays_164 : decode cX8_lays 164 = .ok (.iaload, 1) := by decide +kernel
theorem dX8_lays_165 : decode cX8_lays 165 = .ok (.invokevirtual 82, 3) := by decide +kernel
theorem dX8_lays_168 : decode cX8_lays 168 = .ok (.aload_n 0, 1) := by decide +kernel
theorem dX8_lays_169 : decode cX8_lays 169 = .ok (.iload_n 1, 1) := by decide +kernel
theorem dX8_lays_170 : decode cX8_lays 170 = .ok (.iload_n 3, 1) := by decide +kernel
theorem dX8_lays_171 : decode cX8_lays 171 = .ok (.iconst 5, 1) := by decide +kernel
theorem dX8_lays_172 : decode cX8_lays 172 = .ok (.iload 4, 2) := by decide +kernel
theorem dX8_lays_174 : decode cX8_lays 174 = .ok (.aload_n 0, 1) := by decide +kernel
theorem dX8_lays_175 : decode cX8_lays 175 = .ok (.getfield 42, 3) := by decide +kernel
theorem dX8_lays_178 : decode cX8_lays 178 = .ok (.iload 6, 2) := by decide +kernel
theorem dX8_lays_180 : decode cX8_lays 180 = .ok (.iconst 3, 1) := by decide +kernel
theorem dX8_lays_181 : decode cX8_lays 181 = .ok (.iadd, 1) := by decide +kernel
theorem dX8_lays_182 : decode cX8_lays 182 = .ok (.iaload, 1) := by decide +kernel
theorem dX8_lays_183 : decode cX8_lays 183 = .ok (.if_icmp .ne 20, 3) := by decide +kernel
theorem dX8_lays_186 : decode cX8_lays 186 = .ok (.aload_n 0, 1) := by decide +kernel
theorem dX8_lays_187 : decode cX8_lays 187 = .ok (.getfield 42, 3) := by decide +kernel
theorem dX8_lays_190 : decode cX8_lays 190 = .ok (.iload 6, 2) := by decide +kernel
theorem dX8_lays_192 : decode cX8_lays 192 = .ok (.iconst 5, 1) := by decide +kernel
theorem dX8_lays_193 : decode cX8_lays 193 = .ok (.iadd, 1) := by decide +kernel
theorem dX8_lays_194 : decode cX8_lays 194 = .ok (.iaload, 1) := by decide +kernel
theorem dX8_lays_195 : decode cX8_lays 195 = .ok (.iload 7, 2) := by decide +kernel
theorem dX8_lays_197 : decode cX8_lays 197 = .ok (.invokestatic 86, 3) := by decide +kernel
theorem dX8_lays_200 : decode cX8_lays 200 = .ok (.goto 4, 3) := by decide +kernel
theorem dX8_lays_203 : decode cX8_lays 203 = .ok (.iconst 0, 1) := by decide +kernel
theorem dX8_lays_204 : decode cX8_lays 204 = .ok (.invokevirtual 82, 3) := by decide +kernel
theorem dX8_lays_207 : decode cX8_lays 207 = .ok (.aload_n 0, 1) := by decide +kernel
theorem dX8_lays_208 : decode cX8_lays 208 = .ok (.iload_n 1, 1) := by decide +kernel
theorem dX8_lays_209 : decode cX8_lays 209 = .ok (.iload_n 3, 1) := by decide +kernel
theorem dX8_lays_210 : decode cX8_lays 210 = .ok (.bipush 6, 2) := by decide +kernel
theorem dX8_lays_212 : decode cX8_lays 212 = .ok (.iload 5, 2) := by decide +kernel
theorem dX8_lays_214 : decode cX8_lays 214 = .ok (.aload_n 0, 1) := by decide +kernel
theorem dX8_lays_215 : decode cX8_lays 215 = .ok (.getfield 42, 3) := by decide +kernel
theorem dX8_lays_218 : decode cX8_lays 218 = .ok (.iload 6, 2) := by decide +kernel
theorem dX8_lays_220 : decode cX8_lays 220 = .ok (.iconst 3, 1) := by decide +kernel
theorem dX8_lays_221 : decode cX8_lays 221 = .ok (.iadd, 1) := by decide +kernel
theorem dX8_lays_222 : decode cX8_lays 222 = .ok (.iaload, 1) := by decide +kernel
theorem dX8_lays_223 : decode cX8_lays 223 = .ok (.aload_n 0, 1) := by decide +kernel
theorem dX8_lays_224 : decode cX8_lays 224 = .ok (.getfield 42, 3) := by decide +kernel
theorem dX8_lays_227 : decode cX8_lays 227 = .ok (.iload 6, 2) := by decide +kernel
theorem dX8_lays_229 : decode cX8_lays 229 = .ok (.iconst 2, 1) := by decide +kernel
theorem dX8_lays_230 : decode cX8_lays 230 = .ok (.iadd, 1) := by decide +kernel
theorem dX8_lays_231 : decode cX8_lays 231 = .ok (.iaload, 1) := by decide +kernel
theorem dX8_lays_232 : decode cX8_lays 232 = .ok (.iadd, 1) := by decide +kernel
theorem dX8_lays_233 : decode cX8_lays 233 = .ok (.if_icmp .ne 21, 3) := by decide +kernel
theorem dX8_lays_236 : decode cX8_lays 236 = .ok (.aload_n 0, 1) := by decide +kernel
theorem dX8_lays_237 : decode cX8_lays 237 = .ok (.getfield 42, 3) := by decide +kernel
theorem dX8_lays_240 : decode cX8_lays 240 = .ok (.iload 6, 2) := by decide +kernel
theorem dX8_lays_242 : decode cX8_lays 242 = .ok (.bipush 6, 2) := by decide +kernel
theorem dX8_lays_244 : decode cX8_lays 244 = .ok (.iadd, 1) := by decide +kernel
theorem dX8_lays_245 : decode cX8_lays 245 = .ok (.iaload, 1) := by decide +kernel
theorem dX8_lays_246 : decode cX8_lays 246 = .ok (.iload 7, 2) := by decide +kernel
theorem dX8_lays_248 : decode cX8_lays 248 = .ok (.invokestatic 86, 3) := by decide +kernel
theorem dX8_lays_251 : decode cX8_lays 251 = .ok (.goto 4, 3) := by decide +kernel
theorem dX8_lays_254 : decode cX8_lays 254 = .ok (.iconst 0, 1) := by decide +kernel
theorem dX8_lays_255 : decode cX8_lays 255 = .ok (.invokevirtual 82, 3) := by decide +kernel
theorem dX8_lays_258 : decode cX8_lays 258 = .ok (.iinc 3 1, 3) := by decide +kernel
theorem dX8_lays_261 : decode cX8_lays 261 = .ok (.iinc 4 1, 3) := by decide +kernel
theorem dX8_lays_264 : decode cX8_lays 264 = .ok (.goto (-259), 3) := by decide +kernel
theorem dX8_lays_267 : decode cX8_lays 267 = .ok (.aload_n 0, 1) := by decide +kernel
theorem dX8_lays_268 : decode cX8_lays 268 = .ok (.getfield 17, 3) := by decide +kernel
theorem dX8_lays_271 : decode cX8_lays 271 = .ok (.bipush 86, 2) := by decide +kernel
theorem dX8_lays_273 : decode cX8_lays 273 = .ok (.iload_n 1, 1) := by decide +kernel
theorem dX8_lays_274 : decode cX8_lays 274 = .ok (.imul, 1) := by decide +kernel
theorem dX8_lays_275 : decode cX8_lays 275 = .ok (.bipush 84, 2) := by decide +kernel
theorem dX8_lays_277 : decode cX8_lays 277 = .ok (.iadd, 1) := by decide +kernel
theorem dX8_lays_278 : decode cX8_lays 278 = .ok (.iload_n 3, 1) := by decide +kernel
theorem dX8_lays_279 : decode cX8_lays 279 = .ok (.iastore, 1) := by decide +kernel
theorem dX8_lays_280 : decode cX8_lays 280 = .ok (.return_, 1) := by decide +kernel
theorem dX8_brings_0 : decode cX8_brings 0 = .ok (.aload_n 0, 1) := by decide +kernel
theorem dX8_brings_1 : decode cX8_brings 1 = .ok (.getfield 42, 3) := by decide +kernel
theorem dX8_brings_4 : decode cX8_brings 4 = .ok (.bipush 84, 2) := by decide +kernel
theorem dX8_brings_6 : decode cX8_brings 6 = .ok (.iload_n 1, 1) := by decide +kernel
theorem dX8_brings_7 : decode cX8_brings 7 = .ok (.iastore, 1) := by decide +kernel
theorem dX8_brings_8 : decode cX8_brings 8 = .ok (.aload_n 0, 1) := by decide +kernel
theorem dX8_brings_9 : decode cX8_brings 9 = .ok (.getfield 42, 3) := by decide +kernel
theorem dX8_brings_12 : decode cX8_brings 12 = .ok (.bipush 85, 2) := by decide +kernel
theorem dX8_brings_14 : decode cX8_brings 14 = .ok (.iload_n 2, 1) := by decide +kernel
theorem dX8_brings_15 : decode cX8_brings 15 = .ok (.iastore, 1) := by decide +kernel
theorem dX8_brings_16 : decode cX8_brings 16 = .ok (.aload_n 0, 1) := by decide +kernel
theorem dX8_brings_17 : decode cX8_brings 17 = .ok (.getfield 42, 3) := by decide +kernel
theorem dX8_brings_20 : decode cX8_brings 20 = .ok (.bipush 86, 2) := by decide +kernel
theorem dX8_brings_22 : decode cX8_brings 22 = .ok (.iload_n 3, 1) := by decide +kernel
theorem dX8_brings_23 : decode cX8_brings 23 = .ok (.iastore, 1) := by decide +kernel
theorem dX8_brings_24 : decode cX8_brings 24 = .ok (.aload_n 0, 1) := by decide +kernel
theorem dX8_brings_25 : decode cX8_brings 25 = .ok (.getfield 42, 3) := by decide +kernel
theorem dX8_brings_28 : decode cX8_brings 28 = .ok (.bipush 87, 2) := by decide +kernel
theorem dX8_brings_30 : decode cX8_brings 30 = .ok (.iload 4, 2) := by decide +kernel
theorem dX8_brings_32 : decode cX8_brings 32 = .ok (.iastore, 1) := by decide +kernel
theorem dX8_brings_33 : decode cX8_brings 33 = .ok (.aload_n 0, 1) := by decide +kernel
theorem dX8_brings_34 : decode cX8_brings 34 = .ok (.iload 4, 2) := by decide +kernel
theorem dX8_brings_36 : decode cX8_brings 36 = .ok (.iload 4, 2) := by decide +kernel
theorem dX8_brings_38 : decode cX8_brings 38 = .ok (.iload_n 3, 1) := by decide +kernel
theorem dX8_brings_39 : decode cX8_brings 39 = .ok (.iadd, 1) := by decide +kernel
theorem dX8_brings_40 : decode cX8_brings 40 = .ok (.bipush 12, 2) := by decide +kernel
theorem dX8_brings_42 : decode cX8_brings 42 = .ok (.invokevirtual 90, 3) := by decide +kernel
theorem dX8_brings_45 : decode cX8_brings 45 = .ok (.return_, 1) := by decide +kernel
theorem dX8_fades_0 : decode cX8_fades 0 = .ok (.aload_n 0, 1) := by decide +kernel
theorem dX8_fades_1 : decode cX8_fades 1 = .ok (.getfield 42, 3) := by decide +kernel
theorem dX8_fades_4 : decode cX8_fades 4 = .ok (.bipush 88, 2) := by decide +kernel
theorem dX8_fades_6 : decode cX8_fades 6 = .ok (.iload_n 1, 1) := by decide +kernel
theorem dX8_fades_7 : decode cX8_fades 7 = .ok (.iastore, 1) := by decide +kernel
theorem dX8_fades_8 : decode cX8_fades 8 = .ok (.aload_n 0, 1) := by decide +kernel
theorem dX8_fades_9 : decode cX8_fades 9 = .ok (.getfield 42, 3) := by decide +kernel
theorem dX8_fades_12 : decode cX8_fades 12 = .ok (.bipush 89, 2) := by decide +kernel
theorem dX8_fades_14 : decode cX8_fades 14 = .ok (.iload_n 2, 1) := by decide +kernel
theorem dX8_fades_15 : decode cX8_fades 15 = .ok (.iastore, 1) := by decide +kernel
theorem dX8_fades_16 : decode cX8_fades 16 = .ok (.aload_n 0, 1) := by decide +kernel
theorem dX8_fades_17 : decode cX8_fades 17 = .ok (.getfield 42, 3) := by decide +kernel
theorem dX8_fades_20 : decode cX8_fades 20 = .ok (.bipush 90, 2) := by decide +kernel
theorem dX8_fades_22 : decode cX8_fades 22 = .ok (.iload_n 3, 1) := by decide +kernel
theorem dX8_fades_23 : decode cX8_fades 23 = .ok (.iastore, 1) := by decide +kernel
theorem dX8_fades_24 : decode cX8_fades 24 = .ok (.return_, 1) := by decide +kernel
theorem dX8_notes_0 : decode cX8_notes 0 = .ok (.sipush 344, 3) := by decide +kernel
theorem dX8_notes_3 : decode cX8_notes 3 = .ok (.iload_n 1, 1) := by decide +kernel
theorem dX8_notes_4 : decode cX8_notes 4 = .ok (.imul, 1) := by decide +kernel
theorem dX8_notes_5 : decode cX8_notes 5 = .ok (.istore_n 2, 1) := by decide +kernel
theorem dX8_notes_6 : decode cX8_notes 6 = .ok (.aload_n 0, 1) := by decide +kernel
theorem dX8_notes_7 : decode cX8_notes 7 = .ok (.getfield 26, 3) := by decide +kernel
theorem dX8_notes_10 : decode cX8_notes 10 = .ok (.iload_n 1, 1) := by decide +kernel
theorem dX8_notes_11 : decode cX8_notes 11 = .ok (.iaload, 1) := by decide +kernel
theorem dX8_notes_12 : decode cX8_notes 12 = .ok (.iconst 4, 1) := by decide +kernel
theorem dX8_notes_13 : decode cX8_notes 13 = .ok (.if_icmp .ne 47, 3) := by decide +kernel
theorem dX8_notes_16 : decode cX8_notes 16 = .ok (.iconst 0, 1) := by decide +kernel
theorem dX8_notes_17 : decode cX8_notes 17 = .ok (.istore_n 3, 1) := by decide +kernel
theorem dX8_notes_18 : decode cX8_notes 18 = .ok (.iload_n 3, 1) := by decide +kernel
theorem dX8_notes_19 : decode cX8_notes 19 = .ok (.sipush 258, 3) := by decide +kernel
theorem dX8_notes_22 : decode cX8_notes 22 = .ok (.if_icmp .ge 28, 3) := by decide +kernel
theorem dX8_notes_25 : decode cX8_notes 25 = .ok (.aload_n 0, 1) := by decide +kernel
theorem dX8_notes_26 : decode cX8_notes 26 = .ok (.getfield 23, 3) := by decide +kernel
theorem dX8_notes_29 : decode cX8_notes 29 = .ok (.iload_n 2, 1) := by decide +kernel
theorem dX8_notes_30 : decode cX8_notes 30 = .ok (.iload_n 3, 1) := by decide +kernel
theorem dX8_notes_31 : decode cX8_notes 31 = .ok (.iadd, 1) := by decide +kernel
theorem dX8_notes_32 : decode cX8_notes 32 = .ok (.aload_n 0, 1) := by decide +kernel
theorem dX8_notes_33 : decode cX8_notes 33 = .ok (.getfield 23, 3) := by decide +kernel
theorem dX8_notes_36 : decode cX8_notes 36 = .ok (.iload_n 2, 1) := by decide +kernel
theorem dX8_notes_37 : decode cX8_notes 37 = .ok (.iload_n 3, 1) := by decide +kernel
theorem dX8_notes_38 : decode cX8_notes 38 = .ok (.iadd, 1) := by decide +kernel
theorem dX8_notes_39 : decode cX8_notes 39 = .ok (.bipush 86, 2) := by decide +kernel
theorem dX8_notes_41 : decode cX8_notes 41 = .ok (.iadd, 1) := by decide +kernel
theorem dX8_notes_42 : decode cX8_notes 42 = .ok (.iaload, 1) := by decide +kernel
theorem dX8_notes_43 : decode cX8_notes 43 = .ok (.iastore, 1) := by decide +kernel
theorem dX8_notes_44 : decode cX8_notes 44 = .ok (.iinc 3 1, 3) := by decide +kernel
theorem dX8_notes_47 : decode cX8_notes 47 = .ok (.goto (-29), 3) := by decide +kernel
theorem dX8_notes_50 : decode cX8_notes 50 = .ok (.aload_n 0, 1) := by decide +kernel
theorem dX8_notes_51 : decode cX8_notes 51 = .ok (.getfield 26, 3) := by decide +kernel
theorem dX8_notes_54 : decode cX8_notes 54 = .ok (.iload_n 1, 1) := by decide +kernel
theorem dX8_notes_55 : decode cX8_notes 55 = .ok (.dup2, 1) := by decide +kernel
theorem dX8_notes_56 : decode cX8_notes 56 = .ok (.iaload, 1) := by decide +kernel
theorem dX8_notes_57 : decode cX8_notes 57 = .ok (.iconst 1, 1) := by decide +kernel
theorem dX8_notes_58 : decode cX8_notes 58 = .ok (.isub, 1) := by decide +kernel
theorem dX8_notes_59 : decode cX8_notes 59 = .ok (.iastore, 1) := by decide +kernel
theorem dX8_notes_60 : decode cX8_notes 60 = .ok (.iconst 0, 1) := by decide +kernel
theorem dX8_notes_61 : decode cX8_notes 61 = .ok (.istore_n 3, 1) := by decide +kernel
theorem dX8_notes_62 : decode cX8_notes 62 = .ok (.iload_n 3, 1) := by decide +kernel
theorem dX8_notes_63 : decode cX8_notes 63 = .ok (.bipush 86, 2) := by decide +kernel
theorem dX8_notes_65 : decode cX8_notes 65 = .ok (.if_icmp .ge 38, 3) := by decide +kernel
theorem dX8_notes_68 : decode cX8_notes 68 = .ok (.aload_n 0, 1) := by decide +kernel
theorem dX8_notes_69 : decode cX8_notes 69 = .ok (.getfield 23, 3) := by decide +kernel
theorem dX8_notes_72 : decode cX8_notes 72 = .ok (.iload_n 2, 1) := by decide +kernel
theorem dX8_notes_73 : decode cX8_notes 73 = .ok (.bipush 86, 2) := by decide +kernel
theorem dX8_notes_75 : decode cX8_notes 75 = .ok (.aload_n 0, 1) := by decide +kernel
theorem dX8_notes_76 : decode cX8_notes 76 = .ok (.getfield 26, 3) := by decide +kernel
theorem dX8_notes_79 : decode cX8_notes 79 = .ok (.iload_n 1, 1) := by decide +kernel
theorem dX8_notes_80 : decode cX8_notes 80 = .ok (.iaload, 1) := by decide +kernel
theorem dX8_notes_81 : decode cX8_notes 81 = .ok (.imul, 1) := by decide +kernel
theorem dX8_notes_82 : decode cX8_notes 82 = .ok (.iadd, 1) := by decide +kernel
theorem dX8_notes_83 : decode cX8_notes 83 = .ok (.iload_n 3, 1) := by decide +kernel
theorem dX8_notes_84 : decode cX8_notes 84 = .ok (.iadd, 1) := by decide +kernel
theorem dX8_notes_85 : decode cX8_notes 85 = .ok (.aload_n 0, 1) := by decide +kernel
theorem dX8_notes_86 : decode cX8_notes 86 = .ok (.getfield 17, 3) := by decide +kernel
theorem dX8_notes_89 : decode cX8_notes 89 = .ok (.bipush 86, 2) := by decide +kernel
theorem dX8_notes_91 : decode cX8_notes 91 = .ok (.iload_n 1, 1) := by decide +kernel
theorem dX8_notes_92 : decode cX8_notes 92 = .ok (.imul, 1) := by decide +kernel
theorem dX8_notes_93 : decode cX8_notes 93 = .ok (.iload_n 3, 1) := by decide +kernel
theorem dX8_notes_94 : decode cX8_notes 94 = .ok (.iadd, 1) := by decide +kernel
theorem dX8_notes_95 : decode cX8_notes 95 = .ok (.iaload, 1) := by decide +kernel
theorem dX8_notes_96 : decode cX8_notes 96 = .ok (.iastore, 1) := by decide +kernel
theorem dX8_notes_97 : decode cX8_notes 97 = .ok (.iinc 3 1, 3) := by decide +kernel
theorem dX8_notes_100 : decode cX8_notes 100 = .ok (.goto (-38), 3) := by decide +kernel
theorem dX8_notes_103 : decode cX8_notes 103 = .ok (.aload_n 0, 1) := by decide +kernel
theorem dX8_notes_104 : decode cX8_notes 104 = .ok (.getfield 26, 3) := by decide +kernel
theorem dX8_notes_107 : decode cX8_notes 107 = .ok (.iload_n 1, 1) := by decide +kernel
theorem dX8_notes_108 : decode cX8_notes 108 = .ok (.dup2, 1) := by decide +kernel
theorem dX8_notes_109 : decode cX8_notes 109 = .ok (.iaload, 1) := by decide +kernel
theorem dX8_notes_110 : decode cX8_notes 110 = .ok (.iconst 1, 1) := by decide +kernel
theorem dX8_notes_111 : decode cX8_notes 111 = .ok (.iadd, 1) := by decide +kernel
theorem dX8_notes_112 : decode cX8_notes 112 = .ok (.iastore, 1) := by decide +kernel
theorem dX8_notes_113 : decode cX8_notes 113 = .ok (.return_, 1) := by decide +kernel
theorem dX8_byteAt_0 : decode cX8_byteAt 0 = .ok (.iload_n 1, 1) := by decide +kernel
theorem dX8_byteAt_1 : decode cX8_byteAt 1 = .ok (.aload_n 0, 1) := by decide +kernel
theorem dX8_byteAt_2 : decode cX8_byteAt 2 = .ok (.getfield 94, 3) := by decide +kernel
theorem dX8_byteAt_5 : decode cX8_byteAt 5 = .ok (.if_icmp .ge 12, 3) := by decide +kernel
theorem dX8_byteAt_8 : decode cX8_byteAt 8 = .ok (.aload_n 0, 1) := by decide +kernel
theorem dX8_byteAt_9 : decode cX8_byteAt 9 = .ok (.getfield 45, 3) := by decide +kernel
theorem dX8_byteAt_12 : decode cX8_byteAt 12 = .ok (.iload_n 1, 1) := by decide +kernel
theorem dX8_byteAt_13 : decode cX8_byteAt 13 = .ok (.iaload, 1) := by decide +kernel
theorem dX8_byteAt_14 : decode cX8_byteAt 14 = .ok (.goto 4, 3) := by decide +kernel
theorem dX8_byteAt_17 : decode cX8_byteAt 17 = .ok (.iconst (-1), 1) := by decide +kernel
theorem dX8_byteAt_18 : decode cX8_byteAt 18 = .ok (.ireturn, 1) := by decide +kernel
theorem dX8_next_0 : decode cX8_next 0 = .ok (.aload_n 0, 1) := by decide +kernel
theorem dX8_next_1 : decode cX8_next 1 = .ok (.aload_n 0, 1) := by decide +kernel
theorem dX8_next_2 : decode cX8_next 2 = .ok (.getfield 98, 3) := by decide +kernel
theorem dX8_next_5 : decode cX8_next 5 = .ok (.invokevirtual 101, 3) := by decide +kernel
theorem dX8_next_8 : decode cX8_next 8 = .ok (.bipush 32, 2) := by decide +kernel
theorem dX8_next_10 : decode cX8_next 10 = .ok (.if_icmp .ne 16, 3) := by decide +kernel
theorem dX8_next_13 : decode cX8_next 13 = .ok (.aload_n 0, 1) := by decide +kernel
theorem dX8_next_14 : decode cX8_next 14 = .ok (.dup, 1) := by decide +kernel
theorem dX8_next_15 : decode cX8_next 15 = .ok (.getfield 98, 3) := by decide +kernel
theorem dX8_next_18 : decode cX8_next 18 = .ok (.iconst 1, 1) := by decide +kernel
theorem dX8_next_19 : decode cX8_next 19 = .ok (.iadd, 1) := by decide +kernel
theorem dX8_next_20 : decode cX8_next 20 = .ok (.putfield 98, 3) := by decide +kernel
theorem dX8_next_23 : decode cX8_next 23 = .ok (.goto (-23), 3) := by decide +kernel
theorem dX8_next_26 : decode cX8_next 26 = .ok (.aload_n 0, 1) := by decide +kernel
theorem dX8_next_27 : decode cX8_next 27 = .ok (.aload_n 0, 1) := by decide +kernel
theorem dX8_next_28 : decode cX8_next 28 = .ok (.getfield 98, 3) := by decide +kernel
theorem dX8_next_31 : decode cX8_next 31 = .ok (.putfield 104, 3) := by decide +kernel
theorem dX8_next_34 : decode cX8_next 34 = .ok (.aload_n 0, 1) := by decide +kernel
theorem dX8_next_35 : decode cX8_next 35 = .ok (.aload_n 0, 1) := by decide +kernel
theorem dX8_next_36 : decode cX8_next 36 = .ok (.getfield 98, 3) := by decide +kernel
theorem dX8_next_39 : decode cX8_next 39 = .ok (.invokevirtual 101, 3) := by decide +kernel
theorem dX8_next_42 : decode cX8_next 42 = .ok (.istore_n 1, 1) := by decide +kernel
theorem dX8_next_43 : decode cX8_next 43 = .ok (.aload_n 0, 1) := by decide +kernel
theorem dX8_next_44 : decode cX8_next 44 = .ok (.iconst 0, 1) := by decide +kernel
theorem dX8_next_45 : decode cX8_next 45 = .ok (.putfield 107, 3) := by decide +kernel
theorem dX8_next_48 : decode cX8_next 48 = .ok (.iload_n 1, 1) := by decide +kernel
theorem dX8_next_49 : decode cX8_next 49 = .ok (.i2l, 1) := by decide +kernel
theorem dX8_next_50 : decode cX8_next 50 = .ok (.ldc2_w 110, 3) := by decide +kernel
theorem dX8_next_53 : decode cX8_next 53 = .ok (.ldc2_w 112, 3) := by decide +kernel
theorem dX8_next_56 : decode cX8_next 56 = .ok (.invokestatic 62, 3) := by decide +kernel
theorem dX8_next_59 : decode cX8_next 59 = .ok (.ifCond .eq 43, 3) := by decide +kernel
theorem dX8_next_62 : decode cX8_next 62 = .ok (.aload_n 0, 1) := by decide +kernel
theorem dX8_next_63 : decode cX8_next 63 = .ok (.iconst 1, 1) := by decide +kernel
theorem dX8_next_64 : decode cX8_next 64 = .ok (.putfield 114, 3) := by decide +kernel
theorem dX8_next_67 : decode cX8_next 67 = .ok (.aload_n 0, 1) := by decide +kernel
theorem dX8_next_68 : decode cX8_next 68 = .ok (.aload_n 0, 1) := by decide +kernel
theorem dX8_next_69 : decode cX8_next 69 = .ok (.getfield 98, 3) := by decide +kernel
theorem dX8_next_72 : decode cX8_next 72 = .ok (.invokevirtual 101, 3) := by decide +kernel
theorem dX8_next_75 : decode cX8_next 75 = .ok (.i2l, 1) := by decide +kernel
theorem dX8_next_76 : decode cX8_next 76 = .ok (.ldc2_w 110, 3) := by decide +kernel
theorem dX8_next_79 : decode cX8_next 79 = .ok (.ldc2_w 112, 3) := by decide +kernel
theorem dX8_next_82 : decode cX8_next 82 = .ok (.invokestatic 62, 3) := by decide +kernel
theorem dX8_next_85 : decode cX8_next 85 = .ok (.ifCond .eq 16, 3) := by decide +kernel
theorem dX8_next_88 : decode cX8_next 88 = .ok (.aload_n 0, 1) := by decide +kernel
theorem dX8_next_89 : decode cX8_next 89 = .ok (.dup, 1) := by decide +kernel
theorem dX8_next_90 : decode cX8_next 90 = .ok (.getfield 98, 3) := by decide +kernel
theorem dX8_next_93 : decode cX8_next 93 = .ok (.iconst 1, 1) := by decide +kernel
theorem dX8_next_94 : decode cX8_next 94 = .ok (.iadd, 1) := by decide +kernel
theorem dX8_next_95 : decode cX8_next 95 = .ok (.putfield 98, 3) := by decide +kernel
theorem dX8_next_98 : decode cX8_next 98 = .ok (.goto (-31), 3) := by decide +kernel
theorem dX8_next_101 : decode cX8_next 101 = .ok (.return_, 1) := by decide +kernel
theorem dX8_next_102 : decode cX8_next 102 = .ok (.iload_n 1, 1) := by decide +kernel
theorem dX8_next_103 : decode cX8_next 103 = .ok (.i2l, 1) := by decide +kernel
theorem dX8_next_104 : decode cX8_next 104 = .ok (.ldc2_w 117, 3) := by decide +kernel
theorem dX8_next_107 : decode cX8_next 107 = .ok (.ldc2_w 119, 3) := by decide +kernel
theorem dX8_next_110 : decode cX8_next 110 = .ok (.invokestatic 62, 3) := by decide +kernel
theorem dX8_next_113 : decode cX8_next 113 = .ok (.ifCond .eq 83, 3) := by decide +kernel
theorem dX8_next_116 : decode cX8_next 116 = .ok (.aload_n 0, 1) := by decide +kernel
theorem dX8_next_117 : decode cX8_next 117 = .ok (.iconst 2, 1) := by decide +kernel
theorem dX8_next_118 : decode cX8_next 118 = .ok (.putfield 114, 3) := by decide +kernel
theorem dX8_next_121 : decode cX8_next 121 = .ok (.aload_n 0, 1) := by decide +kernel
theorem dX8_next_122 : decode cX8_next 122 = .ok (.aload_n 0, 1) := by decide +kernel
theorem dX8_next_123 : decode cX8_next 123 = .ok (.getfield 98, 3) := by decide +kernel
theorem dX8_next_126 : decode cX8_next 126 = .ok (.invokevirtual 101, 3) := by decide +kernel
theorem dX8_next_129 : decode cX8_next 129 = .ok (.i2l, 1) := by decide +kernel
theorem dX8_next_130 : decode cX8_next 130 = .ok (.ldc2_w 117, 3) := by decide +kernel
theorem dX8_next_133 : decode cX8_next 133 = .ok (.ldc2_w 119, 3) := by decide +kernel
theorem dX8_next_136 : decode cX8_next 136 = .ok (.invokestatic 62, 3) := by decide +kernel
theorem dX8_next_139 : decode cX8_next 139 = .ok (.ifCond .eq 56, 3) := by decide +kernel
theorem dX8_next_142 : decode cX8_next 142 = .ok (.aload_n 0, 1) := by decide +kernel
theorem dX8_next_143 : decode cX8_next 143 = .ok (.aload_n 0, 1) := by decide +kernel
theorem dX8_next_144 : decode cX8_next 144 = .ok (.getfield 98, 3) := by decide +kernel
theorem dX8_next_147 : decode cX8_next 147 = .ok (.aload_n 0, 1) := by decide +kernel
theorem dX8_next_148 : decode cX8_next 148 = .ok (.getfield 104, 3) := by decide +kernel
theorem dX8_next_151 : decode cX8_next 151 = .ok (.isub, 1) := by decide +kernel
theorem dX8_next_152 : decode cX8_next 152 = .ok (.iconst 3, 1) := by decide +kernel
theorem dX8_next_153 : decode cX8_next 153 = .ok (.if_icmp .ge 25, 3) := by decide +kernel
theorem dX8_next_156 : decode cX8_next 156 = .ok (.bipush 10, 2) := by decide +kernel
theorem dX8_next_158 : decode cX8_next 158 = .ok (.aload_n 0, 1) := by decide +kernel
theorem dX8_next_159 : decode cX8_next 159 = .ok (.getfield 107, 3) := by decide +kernel
theorem dX8_next_162 : decode cX8_next 162 = .ok (.imul, 1) := by decide +kernel
theorem dX8_next_163 : decode cX8_next 163 = .ok (.aload_n 0, 1) := by decide +kernel
theorem dX8_next_164 : decode cX8_next 164 = .ok (.aload_n 0, 1) := by decide +kernel
theorem dX8_next_165 : decode cX8_next 165 = .ok (.getfield 98, 3) := by decide +kernel
theorem dX8_next_168 : decode cX8_next 168 = .ok (.invokevirtual 101, 3) := by decide +kernel
theorem dX8_next_171 : decode cX8_next 171 = .ok (.iadd, 1) := by decide +kernel
theorem dX8_next_172 : decode cX8_next 172 = .ok (.bipush 48, 2) := by decide +kernel
theorem dX8_next_174 : decode cX8_next 174 = .ok (.isub, 1) := by decide +kernel
theorem dX8_next_175 : decode cX8_next 175 = .ok (.goto 4, 3) := by decide +kernel
theorem dX8_next_178 : decode cX8_next 178 = .ok (.iconst (-1), 1) := by decide +kernel
theorem dX8_next_179 : decode cX8_next 179 = .ok (.putfield 107, 3) := by decide +kernel
theorem dX8_next_182 : decode cX8_next 182 = .ok (.aload_n 0, 1) := by decide +kernel
theorem dX8_next_183 : decode cX8_next 183 = .ok (.dup, 1) := by decide +kernel
theorem dX8_next_184 : decode cX8_next 184 = .ok (.getfield 98, 3) := by decide +kernel
theorem dX8_next_187 : decode cX8_next 187 = .ok (.iconst 1, 1) := by decide +kernel
theorem dX8_next_188 : decode cX8_next 188 = .ok (.iadd, 1) := by decide +kernel
theorem dX8_next_189 : decode cX8_next 189 = .ok (.putfield 98, 3) := by decide +kernel
theorem dX8_next_192 : decode cX8_next 192 = .ok (.goto (-71), 3) := by decide +kernel
theorem dX8_next_195 : decode cX8_next 195 = .ok (.return_, 1) := by decide +kernel
theorem dX8_next_196 : decode cX8_next 196 = .ok (.aload_n 0, 1) := by decide +kernel
theorem dX8_next_197 : decode cX8_next 197 = .ok (.iload_n 1, 1) := by decide +kernel
theorem dX8_next_198 : decode cX8_next 198 = .ok (.iconst (-1), 1) := by decide +kernel
theorem dX8_next_199 : decode cX8_next 199 = .ok (.if_icmp .ne 7, 3) := by decide +kernel
theorem dX8_next_202 : decode cX8_next 202 = .ok (.iconst 0, 1) := by decide +kernel
theorem dX8_next_203 : decode cX8_next 203 = .ok (.goto 4, 3) := by decide +kernel
theorem dX8_next_206 : decode cX8_next 206 = .ok (.iconst 3, 1) := by decide +kernel
theorem dX8_next_207 : decode cX8_next 207 = .ok (.putfield 114, 3) := by decide +kernel
theorem dX8_next_210 : decode cX8_next 210 = .ok (.aload_n 0, 1) := by decide +kernel
theorem dX8_next_211 : decode cX8_next 211 = .ok (.iload_n 1, 1) := by decide +kernel
theorem dX8_next_212 : decode cX8_next 212 = .ok (.putfield 107, 3) := by decide +kernel
theorem dX8_next_215 : decode cX8_next 215 = .ok (.aload_n 0, 1) := by decide +kernel
theorem dX8_next_216 : decode cX8_next 216 = .ok (.dup, 1) := by decide +kernel
theorem dX8_next_217 : decode cX8_next 217 = .ok (.getfield 98, 3) := by decide +kernel
theorem dX8_next_220 : decode cX8_next 220 = .ok (.iload_n 1, 1) := by decide +kernel
theorem dX8_next_221 : decode cX8_next 221 = .ok (.iconst (-1), 1) := by decide +kernel
theorem dX8_next_222 : decode cX8_next 222 = .ok (.if_icmp .ne 7, 3) := by decide +kernel
theorem dX8_next_225 : decode cX8_next 225 = .ok (.iconst 0, 1) := by decide +kernel
theorem dX8_next_226 : decode cX8_next 226 = .ok (.goto 4, 3) := by decide +kernel
theorem dX8_next_229 : decode cX8_next 229 = .ok (.iconst 1, 1) := by decide +kernel
theorem dX8_next_230 : decode cX8_next 230 = .ok (.iadd, 1) := by decide +kernel
theorem dX8_next_231 : decode cX8_next 231 = .ok (.putfield 98, 3) := by decide +kernel
theorem dX8_next_234 : decode cX8_next 234 = .ok (.return_, 1) := by decide +kernel
theorem dX8_faults_0 : decode cX8_faults 0 = .ok (.aload_n 0, 1) := by decide +kernel
theorem dX8_faults_1 : decode cX8_faults 1 = .ok (.aload_n 0, 1) := by decide +kernel
theorem dX8_faults_2 : decode cX8_faults 2 = .ok (.getfield 121, 3) := by decide +kernel
theorem dX8_faults_5 : decode cX8_faults 5 = .ok (.ifCond .ge 10, 3) := by decide +kernel
theorem dX8_faults_8 : decode cX8_faults 8 = .ok (.aload_n 0, 1) := by decide +kernel
theorem dX8_faults_9 : decode cX8_faults 9 = .ok (.getfield 104, 3) := by decide +kernel
theorem dX8_faults_12 : decode cX8_faults 12 = .ok (.goto 7, 3) := by decide +kernel
theorem dX8_faults_15 : decode cX8_faults 15 = .ok (.aload_n 0, 1) := by decide +kernel
theorem dX8_faults_16 : decode cX8_faults 16 = .ok (.getfield 121, 3) := by decide +kernel
theorem dX8_faults_19 : decode cX8_faults 19 = .ok (.putfield 121, 3) := by decide +kernel
theorem dX8_faults_22 : decode cX8_faults 22 = .ok (.return_, 1) := by decide +kernel
theorem dX8_number_0 : decode cX8_number 0 = .ok (.aload_n 0, 1) := by decide +kernel
theorem dX8_number_1 : decode cX8_number 1 = .ok (.getfield 114, 3) := by decide +kernel
theorem dX8_number_4 : decode cX8_number 4 = .ok (.iconst 2, 1) := by decide +kernel
theorem dX8_number_5 : decode cX8_number 5 = .ok (.if_icmp .ne 18, 3) := by decide +kernel
theorem dX8_number_8 : decode cX8_number 8 = .ok (.aload_n 0, 1) := by decide +kernel
theorem dX8_number_9 : decode cX8_number 9 = .ok (.getfield 107, 3) := by decide +kernel
theorem dX8_number_12 : decode cX8_number 12 = .ok (.i2l, 1) := by decide +kernel
theorem dX8_number_13 : decode cX8_number 13 = .ok (.iload_n 1, 1) := by decide +kernel
theorem dX8_number_14 : decode cX8_number 14 = .ok (.i2l, 1) := by decide +kernel
theorem dX8_number_15 : decode cX8_number 15 = .ok (.iload_n 2, 1) := by decide +kernel
theorem dX8_number_16 : decode cX8_number 16 = .ok (.i2l, 1) := by decide +kernel
theorem dX8_number_17 : decode cX8_number 17 = .ok (.invokestatic 62, 3) := by decide +kernel
theorem dX8_number_20 : decode cX8_number 20 = .ok (.ifCond .ne 7, 3) := by decide +kernel
theorem dX8_number_23 : decode cX8_number 23 = .ok (.aload_n 0, 1) := by decide +kernel
theorem dX8_number_24 : decode cX8_number 24 = .ok (.invokevirtual 124, 3) := by decide +kernel
theorem dX8_number_27 : decode cX8_number 27 = .ok (.aload_n 0, 1) := by decide +kernel
theorem dX8_number_28 : decode cX8_number 28 = .ok (.getfield 121, 3) := by decide +kernel
theorem dX8_number_31 : decode cX8_number 31 = .ok (.ifCond .lt 5, 3) := by decide +kernel
theorem dX8_number_34 : decode cX8_number 34 = .ok (.iload_n 1, 1) := by decide +kernel
theorem dX8_number_35 : decode cX8_number 35 = .ok (.ireturn, 1) := by decide +kernel
theorem dX8_number_36 : decode cX8_number 36 = .ok (.aload_n 0, 1) := by decide +kernel
theorem dX8_number_37 : decode cX8_number 37 = .ok (.getfield 107, 3) := by decide +kernel
theorem dX8_number_40 : decode cX8_number 40 = .ok (.istore_n 3, 1) := by decide +kernel
theorem dX8_number_41 : decode cX8_number 41 = .ok (.aload_n 0, 1) := by decide +kernel
theorem dX8_number_42 : decode cX8_number 42 = .ok (.invokevirtual 127, 3) := by decide +kernel
theorem dX8_number_45 : decode cX8_number 45 = .ok (.iload_n 3, 1) := by decide +kernel
theorem dX8_number_46 : decode cX8_number 46 = .ok (.ireturn, 1) := by decide +kernel
theorem dX8_toldTone_0 : decode cX8_toldTone 0 = .ok (.aload_n 0, 1) := by decide +kernel
theorem dX8_toldTone_1 : decode cX8_toldTone 1 = .ok (.getfield 130, 3) := by decide +kernel
theorem dX8_toldTone_4 : decode cX8_toldTone 4 = .ok (.bipush 6, 2) := by decide +kernel
theorem dX8_toldTone_6 : decode cX8_toldTone 6 = .ok (.if_icmp .ne 8, 3) := by decide +kernel
theorem dX8_toldTone_9 : decode cX8_toldTone 9 = .ok (.aload_n 0, 1) := by decide +kernel
theorem dX8_toldTone_10 : decode cX8_toldTone 10 = .ok (.invokevirtual 124, 3) := by decide +kernel
theorem dX8_toldTone_13 : decode cX8_toldTone 13 = .ok (.return_, 1) := by decide +kernel
theorem dX8_toldTone_14 : decode cX8_toldTone 14 = .ok (.aload_n 0, 1) := by decide +kernel
theorem dX8_toldTone_15 : decode cX8_toldTone 15 = .ok (.invokevirtual 127, 3) := by decide +kernel
theorem dX8_toldTone_18 : decode cX8_toldTone 18 = .ok (.aload_n 0, 1) := by decide +kernel
theorem dX8_toldTone_19 : decode cX8_toldTone 19 = .ok (.iconst 0, 1) := by decide +kernel
theorem dX8_toldTone_20 : decode cX8_toldTone 20 = .ok (.sipush 200, 3) := by decide +kernel
theorem dX8_toldTone_23 : decode cX8_toldTone 23 = .ok (.invokevirtual 133, 3) := by decide +kernel
theorem dX8_toldTone_26 : decode cX8_toldTone 26 = .ok (.istore_n 2, 1) := by decide +kernel
theorem dX8_toldTone_27 : decode cX8_toldTone 27 = .ok (.aload_n 0, 1) := by decide +kernel
theorem dX8_toldTone_28 : decode cX8_toldTone 28 = .ok (.iconst 0, 1) := by decide +kernel
theorem dX8_toldTone_29 : decode cX8_toldTone 29 = .ok (.sipush 200, 3) := by decide +kernel
theorem dX8_toldTone_32 : decode cX8_toldTone 32 = .ok (.invokevirtual 133, 3) := by decide +kernel
theorem dX8_toldTone_35 : decode cX8_toldTone 35 = .ok (.istore_n 3, 1) := by decide +kernel
theorem dX8_toldTone_36 : decode cX8_toldTone 36 = .ok (.aload_n 0, 1) := by decide +kernel
theorem dX8_toldTone_37 : decode cX8_toldTone 37 = .ok (.iconst 1, 1) := by decide +kernel
theorem dX8_toldTone_38 : decode cX8_toldTone 38 = .ok (.bipush 64, 2) := by decide +kernel
theorem dX8_toldTone_40 : decode cX8_toldTone 40 = .ok (.invokevirtual 133, 3) := by decide +kernel
theorem dX8_toldTone_43 : decode cX8_toldTone 43 = .ok (.istore 4, 2) := by decide +kernel
theorem dX8_toldTone_45 : decode cX8_toldTone 45 = .ok (.aload_n 0, 1) := by decide +kernel
theorem dX8_toldTone_46 : decode cX8_toldTone 46 = .ok (.getfield 121, 3) := by decide +kernel
theorem dX8_toldTone_49 : decode cX8_toldTone 49 = .ok (.ifCond .ge 24, 3) := by decide +kernel
theorem dX8_toldTone_52 : decode cX8_toldTone 52 = .ok (.aload_n 0, 1) := by decide +kernel
theorem dX8_toldTone_53 : decode cX8_toldTone 53 = .ok (.getfield 48, 3) := by decide +kernel
theorem dX8_toldTone_56 : decode cX8_toldTone 56 = .ok (.aload_n 0, 1) := by decide +kernel
theorem dX8_toldTone_57 : decode cX8_toldTone 57 = .ok (.getfield 130, 3) := by decide +kernel
theorem dX8_toldTone_60 : decode cX8_toldTone 60 = .ok (.iload 4, 2) := by decide +kernel
theorem dX8_toldTone_62 : decode cX8_toldTone 62 = .ok (.iastore, 1) := by decide +kernel
theorem dX8_toldTone_63 : decode cX8_toldTone 63 = .ok (.aload_n 0, 1) := by decide +kernel
theorem dX8_toldTone_64 : decode cX8_toldTone 64 = .ok (.dup, 1) := by decide +kernel
theorem dX8_toldTone_65 : decode cX8_toldTone 65 = .ok (.getfield 130, 3) := by decide +kernel
theorem dX8_toldTone_68 : decode cX8_toldTone 68 = .ok (.iconst 1, 1) := by decide +kernel
theorem dX8_toldTone_69 : decode cX8_toldTone 69 = .ok (.iadd, 1) := by decide +kernel
theorem dX8_toldTone_70 : decode cX8_toldTone 70 = .ok (.putfield 130, 3) := by decide +kernel
theorem dX8_toldTone_73 : decode cX8_toldTone 73 = .ok (.iload_n 1, 1) := by decide +kernel
theorem dX8_toldTone_74 : decode cX8_toldTone 74 = .ok (.ifCond .eq 11, 3) := by decide +kernel
theorem dX8_toldTone_77 : decode cX8_toldTone 77 = .ok (.aload_n 0, 1) := by decide +kernel
theorem dX8_toldTone_78 : decode cX8_toldTone 78 = .ok (.iload_n 2, 1) := by decide +kernel
theorem dX8_toldTone_79 : decode cX8_toldTone 79 = .ok (.iload_n 3, 1) := by decide +kernel
theorem dX8_toldTone_80 : decode cX8_toldTone 80 = .ok (.iload 4, 2) := by decide +kernel
theorem dX8_toldTone_82 : decode cX8_toldTone 82 = .ok (.invokevirtual 136, 3) := by decide +kernel
theorem dX8_toldTone_85 : decode cX8_toldTone 85 = .ok (.return_, 1) := by decide +kernel
theorem dX8_toldPut_0 : decode cX8_toldPut 0 = .ok (.aload_n 0, 1) := by decide +kernel
theorem dX8_toldPut_1 : decode cX8_toldPut 1 = .ok (.invokevirtual 127, 3) := by decide +kernel
theorem dX8_toldPut_4 : decode cX8_toldPut 4 = .ok (.aload_n 0, 1) := by decide +kernel
theorem dX8_toldPut_5 : decode cX8_toldPut 5 = .ok (.iconst 0, 1) := by decide +kernel
theorem dX8_toldPut_6 : decode cX8_toldPut 6 = .ok (.iconst 3, 1) := by decide +kernel
theorem dX8_toldPut_7 : decode cX8_toldPut 7 = .ok (.invokevirtual 133, 3) := by decide +kernel
theorem dX8_toldPut_10 : decode cX8_toldPut 10 = .ok (.istore_n 2, 1) := by decide +kernel
theorem dX8_toldPut_11 : decode cX8_toldPut 11 = .ok (.aload_n 0, 1) := by decide +kernel
theorem dX8_toldPut_12 : decode cX8_toldPut 12 = .ok (.iconst 0, 1) := by decide +kernel
theorem dX8_toldPut_13 : decode cX8_toldPut 13 = .ok (.aload_n 0, 1) := by decide +kernel
theorem dX8_toldPut_14 : decode cX8_toldPut 14 = .ok (.getfield 130, 3) := by decide +kernel
theorem dX8_toldPut_17 : decode cX8_toldPut 17 = .ok (.iconst 1, 1) := by decide +kernel
theorem dX8_toldPut_18 : decode cX8_toldPut 18 = .ok (.isub, 1) := by decide +kernel
theorem dX8_toldPut_19 : decode cX8_toldPut 19 = .ok (.invokevirtual 133, 3) := by decide +kernel
theorem dX8_toldPut_22 : decode cX8_toldPut 22 = .ok (.istore_n 3, 1) := by decide +kernel
theorem dX8_toldPut_23 : decode cX8_toldPut 23 = .ok (.aload_n 0, 1) := by decide +kernel
theorem dX8_toldPut_24 : decode cX8_toldPut 24 = .ok (.iconst 0, 1) := by decide +kernel
theorem dX8_toldPut_25 : decode cX8_toldPut 25 = .ok (.aload_n 0, 1) := by decide +kernel
theorem dX8_toldPut_26 : decode cX8_toldPut 26 = .ok (.getfield 48, 3) := by decide +kernel
theorem dX8_toldPut_29 : decode cX8_toldPut 29 = .ok (.iload_n 3, 1) := by decide +kernel
theorem dX8_toldPut_30 : decode cX8_toldPut 30 = .ok (.iaload, 1) := by decide +kernel
theorem dX8_toldPut_31 : decode cX8_toldPut 31 = .ok (.iconst 1, 1) := by decide +kernel
theorem dX8_toldPut_32 : decode cX8_toldPut 32 = .ok (.isub, 1) := by decide +kernel
theorem dX8_toldPut_33 : decode cX8_toldPut 33 = .ok (.invokevirtual 133, 3) := by decide +kernel
theorem dX8_toldPut_36 : decode cX8_toldPut 36 = .ok (.istore 4, 2) := by decide +kernel
theorem dX8_toldPut_38 : decode cX8_toldPut 38 = .ok (.aload_n 0, 1) := by decide +kernel
theorem dX8_toldPut_39 : decode cX8_toldPut 39 = .ok (.iconst 1, 1) := by decide +kernel
theorem dX8_toldPut_40 : decode cX8_toldPut 40 = .ok (.aload_n 0, 1) := by decide +kernel
theorem dX8_toldPut_41 : decode cX8_toldPut 41 = .ok (.getfield 48, 3) := by decide +kernel
theorem dX8_toldPut_44 : decode cX8_toldPut 44 = .ok (.iload_n 3, 1) := by decide +kernel
theorem dX8_toldPut_45 : decode cX8_toldPut 45 = .ok (.iaload, 1) := by decide +kernel
theorem dX8_toldPut_46 : decode cX8_toldPut 46 = .ok (.iload 4, 2) := by decide +kernel
theorem dX8_toldPut_48 : decode cX8_toldPut 48 = .ok (.isub, 1) := by decide +kernel
theorem dX8_toldPut_49 : decode cX8_toldPut 49 = .ok (.invokevirtual 133, 3) := by decide +kernel
theorem dX8_toldPut_52 : decode cX8_toldPut 52 = .ok (.istore 5, 2) := by decide +kernel
theorem dX8_toldPut_54 : decode cX8_toldPut 54 = .ok (.aload_n 0, 1) := by decide +kernel
theorem dX8_toldPut_55 : decode cX8_toldPut 55 = .ok (.iconst 0, 1) := by decide +kernel
theorem dX8_toldPut_56 : decode cX8_toldPut 56 = .ok (.sipush 128, 3) := by decide +kernel
theorem dX8_toldPut_59 : decode cX8_toldPut 59 = .ok (.iload 5, 2) := by decide +kernel
theorem dX8_toldPut_61 : decode cX8_toldPut 61 = .ok (.isub, 1) := by decide +kernel
theorem dX8_toldPut_62 : decode cX8_toldPut 62 = .ok (.invokevirtual 133, 3) := by decide +kernel
theorem dX8_toldPut_65 : decode cX8_toldPut 65 = .ok (.istore 6, 2) := by decide +kernel
theorem dX8_toldPut_67 : decode cX8_toldPut 67 = .ok (.iload_n 1, 1) := by decide +kernel
theorem dX8_toldPut_68 : decode cX8_toldPut 68 = .ok (.ifCond .eq 43, 3) := by decide +kernel
theorem dX8_toldPut_71 : decode cX8_toldPut 71 = .ok (.aload_n 0, 1) := by decide +kernel
theorem dX8_toldPut_72 : decode cX8_toldPut 72 = .ok (.iload_n 2, 1) := by decide +kernel
theorem dX8_toldPut_73 : decode cX8_toldPut 73 = .ok (.invokevirtual 139, 3) := by decide +kernel
theorem dX8_toldPut_76 : decode cX8_toldPut 76 = .ok (.aload_n 0, 1) := by decide +kernel
theorem dX8_toldPut_77 : decode cX8_toldPut 77 = .ok (.iload_n 3, 1) := by decide +kernel
theorem dX8_toldPut_78 : decode cX8_toldPut 78 = .ok (.iload 4, 2) := by decide +kernel
theorem dX8_toldPut_80 : decode cX8_toldPut 80 = .ok (.iload 5, 2) := by decide +kernel
theorem dX8_toldPut_82 : decode cX8_toldPut 82 = .ok (.iload 6, 2) := by decide +kernel
theorem dX8_toldPut_84 : decode cX8_toldPut 84 = .ok (.invokevirtual 143, 3) := by decide +kernel
theorem dX8_toldPut_87 : decode cX8_toldPut 87 = .ok (.aload_n 0, 1) := by decide +kernel
theorem dX8_toldPut_88 : decode cX8_toldPut 88 = .ok (.bipush 8, 2) := by decide +kernel
theorem dX8_toldPut_90 : decode cX8_toldPut 90 = .ok (.iconst 0, 1) := by decide +kernel
theorem dX8_toldPut_91 : decode cX8_toldPut 91 = .ok (.iconst 0, 1) := by decide +kernel
theorem dX8_toldPut_92 : decode cX8_toldPut 92 = .ok (.invokevirtual 146, 3) := by decide +kernel
theorem dX8_toldPut_95 : decode cX8_toldPut 95 = .ok (.aload_n 0, 1) := by decide +kernel
theorem dX8_toldPut_96 : decode cX8_toldPut 96 = .ok (.iconst (-1), 1) := by decide +kernel
theorem dX8_toldPut_97 : decode cX8_toldPut 97 = .ok (.invokevirtual 149, 3) := by decide +kernel
theorem dX8_toldPut_100 : decode cX8_toldPut 100 = .ok (.bipush 12, 2) := by decide +kernel
theorem dX8_toldPut_102 : decode cX8_toldPut 102 = .ok (.if_icmp .gt 9, 3) := by decide +kernel
theorem dX8_toldPut_105 : decode cX8_toldPut 105 = .ok (.aload_n 0, 1) := by decide +kernel
theorem dX8_toldPut_106 : decode cX8_toldPut 106 = .ok (.iload_n 2, 1) := by decide +kernel
theorem dX8_toldPut_107 : decode cX8_toldPut 107 = .ok (.iconst (-1), 1) := by decide +kernel
theorem dX8_toldPut_108 : decode cX8_toldPut 108 = .ok (.invokevirtual 152, 3) := by decide +kernel
theorem dX8_toldPut_111 : decode cX8_toldPut 111 = .ok (.return_, 1) := by decide +kernel
theorem dX8_toldFade_0 : decode cX8_toldFade 0 = .ok (.aload_n 0, 1) := by decide +kernel
theorem dX8_toldFade_1 : decode cX8_toldFade 1 = .ok (.invokevirtual 127, 3) := by decide +kernel
theorem dX8_toldFade_4 : decode cX8_toldFade 4 = .ok (.aload_n 0, 1) := by decide +kernel
theorem dX8_toldFade_5 : decode cX8_toldFade 5 = .ok (.iconst 0, 1) := by decide +kernel
theorem dX8_toldFade_6 : decode cX8_toldFade 6 = .ok (.iconst 3, 1) := by decide +kernel
theorem dX8_toldFade_7 : decode cX8_toldFade 7 = .ok (.invokevirtual 133, 3) := by decide +kernel
theorem dX8_toldFade_10 : decode cX8_toldFade 10 = .ok (.istore_n 3, 1) := by decide +kernel
theorem dX8_toldFade_11 : decode cX8_toldFade 11 = .ok (.aload_n 0, 1) := by decide +kernel
theorem dX8_toldFade_12 : decode cX8_toldFade 12 = .ok (.iconst 0, 1) := by decide +kernel
theorem dX8_toldFade_13 : decode cX8_toldFade 13 = .ok (.bipush 11, 2) := by decide +kernel
theorem dX8_toldFade_15 : decode cX8_toldFade 15 = .ok (.invokevirtual 133, 3) := by decide +kernel
theorem dX8_toldFade_18 : decode cX8_toldFade 18 = .ok (.istore 4, 2) := by decide +kernel
theorem dX8_toldFade_20 : decode cX8_toldFade 20 = .ok (.aload_n 0, 1) := by decide +kernel
theorem dX8_toldFade_21 : decode cX8_toldFade 21 = .ok (.iconst 0, 1) := by decide +kernel
theorem dX8_toldFade_22 : decode cX8_toldFade 22 = .ok (.iload_n 2, 1) := by decide +kernel
theorem dX8_toldFade_23 : decode cX8_toldFade 23 = .ok (.ifCond .eq 8, 3) := by decide +kernel
theorem dX8_toldFade_26 : decode cX8_toldFade 26 = .ok (.bipush 16, 2) := by decide +kernel
theorem dX8_toldFade_28 : decode cX8_toldFade 28 = .ok (.goto 5, 3) := by decide +kernel
theorem dX8_toldFade_31 : decode cX8_toldFade 31 = .ok (.bipush 64, 2) := by decide +kernel
theorem dX8_toldFade_33 : decode cX8_toldFade 33 = .ok (.invokevirtual 133, 3) := by decide +kernel
theorem dX8_toldFade_36 : decode cX8_toldFade 36 = .ok (.istore 5, 2) := by decide +kernel
theorem dX8_toldFade_38 : decode cX8_toldFade 38 = .ok (.iload_n 2, 1) := by decide +kernel
theorem dX8_toldFade_39 : decode cX8_toldFade 39 = .ok (.ifCond .eq 7, 3) := by decide +kernel
theorem dX8_toldFade_42 : decode cX8_toldFade 42 = .ok (.iconst 0, 1) := by decide +kernel
theorem dX8_toldFade_43 : decode cX8_toldFade 43 = .ok (.goto 10, 3) := by decide +kernel
theorem dX8_toldFade_46 : decode cX8_toldFade 46 = .ok (.aload_n 0, 1) := by decide +kernel
theorem dX8_toldFade_47 : decode cX8_toldFade 47 = .ok (.iconst 0, 1) := by decide +kernel
theorem dX8_toldFade_48 : decode cX8_toldFade 48 = .ok (.bipush 64, 2) := by decide +kernel
theorem dX8_toldFade_50 : decode cX8_toldFade 50 = .ok (.invokevirtual 133, 3) := by decide +kernel
theorem dX8_toldFade_53 : decode cX8_toldFade 53 = .ok (.istore 6, 2) := by decide +kernel
theorem dX8_toldFade_55 : decode cX8_toldFade 55 = .ok (.iload_n 1, 1) := by decide +kernel
theorem dX8_toldFade_56 : decode cX8_toldFade 56 = .ok (.ifCond .eq 27, 3) := by decide +kernel
theorem dX8_toldFade_59 : decode cX8_toldFade 59 = .ok (.aload_n 0, 1) := by decide +kernel
theorem dX8_toldFade_60 : decode cX8_toldFade 60 = .ok (.iload_n 3, 1) := by decide +kernel
theorem dX8_toldFade_61 : decode cX8_toldFade 61 = .ok (.iload 4, 2) := by decide +kernel
theorem dX8_toldFade_63 : decode cX8_toldFade 63 = .ok (.invokevirtual 156, 3) := by decide +kernel
theorem dX8_toldFade_66 : decode cX8_toldFade 66 = .ok (.ifCond .eq 17, 3) := by decide +kernel
theorem dX8_toldFade_69 : decode cX8_toldFade 69 = .ok (.iload_n 2, 1) := by decide +kernel
theorem dX8_toldFade_70 : decode cX8_toldFade 70 = .ok (.ifCond .eq 13, 3) := by decide +kernel
theorem dX8_toldFade_73 : decode cX8_toldFade 73 = .ok (.aload_n 0, 1) := by decide +kernel
theorem dX8_toldFade_74 : decode cX8_toldFade 74 = .ok (.iload_n 3, 1) := by decide +kernel
theorem dX8_toldFade_75 : decode cX8_toldFade 75 = .ok (.iload 4, 2) := by decide +kernel
theorem dX8_toldFade_77 : decode cX8_toldFade 77 = .ok (.iconst 4, 1) := by decide +kernel
theorem dX8_toldFade_78 : decode cX8_toldFade 78 = .ok (.iload 5, 2) := by decide +kernel
theorem dX8_toldFade_80 : decode cX8_toldFade 80 = .ok (.invokevirtual 82, 3) := by decide +kernel
theorem dX8_toldFade_83 : decode cX8_toldFade 83 = .ok (.iload_n 1, 1) := by decide +kernel
theorem dX8_toldFade_84 : decode cX8_toldFade 84 = .ok (.ifCond .eq 54, 3) := by decide +kernel
theorem dX8_toldFade_87 : decode cX8_toldFade 87 = .ok (.aload_n 0, 1) := by decide +kernel
theorem dX8_toldFade_88 : decode cX8_toldFade 88 = .ok (.iload_n 3, 1) := by decide +kernel
theorem dX8_toldFade_89 : decode cX8_toldFade 89 = .ok (.iload 4, 2) := by decide +kernel
theorem dX8_toldFade_91 : decode cX8_toldFade 91 = .ok (.invokevirtual 156, 3) := by decide +kernel
theorem dX8_toldFade_94 : decode cX8_toldFade 94 = .ok (.ifCond .eq 44, 3) := by decide +kernel
theorem dX8_toldFade_97 : decode cX8_toldFade 97 = .ok (.iload_n 2, 1) := by decide +kernel
theorem dX8_toldFade_98 : decode cX8_toldFade 98 = .ok (.ifCond .ne 40, 3) := by decide +kernel
theorem dX8_toldFade_101 : decode cX8_toldFade 101 = .ok (.iload 5, 2) := by decide +kernel
theorem dX8_toldFade_103 : decode cX8_toldFade 103 = .ok (.iload 6, 2) := by decide +kernel
theorem dX8_toldFade_105 : decode cX8_toldFade 105 = .ok (.iadd, 1) := by decide +kernel
theorem dX8_toldFade_106 : decode cX8_toldFade 106 = .ok (.aload_n 0, 1) := by decide +kernel
theorem dX8_toldFade_107 : decode cX8_toldFade 107 = .ok (.iload_n 3, 1) := by decide +kernel
theorem dX8_toldFade_108 : decode cX8_toldFade 108 = .ok (.iload 4, 2) := by decide +kernel
theorem dX8_toldFade_110 : decode cX8_toldFade 110 = .ok (.iconst 2, 1) := by decide +kernel
theorem dX8_toldFade_111 : decode cX8_toldFade 111 = .ok (.invokevirtual 74, 3) := by decide +kernel
theorem dX8_toldFade_114 : decode cX8_toldFade 114 = .ok (.if_icmp .gt 24, 3) := by decide +kernel
theorem dX8_toldFade_117 : decode cX8_toldFade 117 = .ok (.aload_n 0, 1) := by decide +kernel
theorem dX8_toldFade_118 : decode cX8_toldFade 118 = .ok (.iload_n 3, 1) := by decide +kernel
theorem dX8_toldFade_119 : decode cX8_toldFade 119 = .ok (.iload 4, 2) := by decide +kernel
theorem dX8_toldFade_121 : decode cX8_toldFade 121 = .ok (.iconst 5, 1) := by decide +kernel
theorem dX8_toldFade_122 : decode cX8_toldFade 122 = .ok (.iload 5, 2) := by decide +kernel
theorem dX8_toldFade_124 : decode cX8_toldFade 124 = .ok (.invokevirtual 82, 3) := by decide +kernel
theorem dX8_toldFade_127 : decode cX8_toldFade 127 = .ok (.aload_n 0, 1) := by decide +kernel
theorem dX8_toldFade_128 : decode cX8_toldFade 128 = .ok (.iload_n 3, 1) := by decide +kernel
theorem dX8_toldFade_129 : decode cX8_toldFade 129 = .ok (.iload 4, 2) := by decide +kernel
theorem dX8_toldFade_131 : decode cX8_toldFade 131 = .ok (.bipush 6, 2) := by decide +kernel
theorem dX8_toldFade_133 : decode cX8_toldFade 133 = .ok (.iload 6, 2) := by decide +kernel
theorem dX8_toldFade_135 : decode cX8_toldFade 135 = .ok (.invokevirtual 82, 3) := by decide +kernel
theorem dX8_toldFade_138 : decode cX8_toldFade 138 = .ok (.return_, 1) := by decide +kernel
theorem dX8_toldShift_0 : decode cX8_toldShift 0 = .ok (.aload_n 0, 1) := by decide +kernel
theorem dX8_toldShift_1 : decode cX8_toldShift 1 = .ok (.invokevirtual 127, 3) := by decide +kernel
theorem dX8_toldShift_4 : decode cX8_toldShift 4 = .ok (.aload_n 0, 1) := by decide +kernel
theorem dX8_toldShift_5 : decode cX8_toldShift 5 = .ok (.iconst 0, 1) := by decide +kernel
theorem dX8_toldShift_6 : decode cX8_toldShift 6 = .ok (.iconst 3, 1) := by decide +kernel
theorem dX8_toldShift_7 : decode cX8_toldShift 7 = .ok (.invokevirtual 133, 3) := by decide +kernel
theorem dX8_toldShift_10 : decode cX8_toldShift 10 = .ok (.istore_n 2, 1) := by decide +kernel
theorem dX8_toldShift_11 : decode cX8_toldShift 11 = .ok (.aload_n 0, 1) := by decide +kernel
theorem dX8_toldShift_12 : decode cX8_toldShift 12 = .ok (.getfield 121, 3) := by decide +kernel
theorem dX8_toldShift_15 : decode cX8_toldShift 15 = .ok (.ifCond .ge 24, 3) := by decide +kernel
theorem dX8_toldShift_18 : decode cX8_toldShift 18 = .ok (.aload_n 0, 1) := by decide +kernel
theorem dX8_toldShift_19 : decode cX8_toldShift 19 = .ok (.getfield 114, 3) := by decide +kernel
theorem dX8_toldShift_22 : decode cX8_toldShift 22 = .ok (.iconst 3, 1) := by decide +kernel
theorem dX8_toldShift_23 : decode cX8_toldShift 23 = .ok (.if_icmp .ne 16, 3) := by decide +kernel
theorem dX8_toldShift_26 : decode cX8_toldShift 26 = .ok (.aload_n 0, 1) := by decide +kernel
theorem dX8_toldShift_27 : decode cX8_toldShift 27 = .ok (.getfield 107, 3) := by decide +kernel
theorem dX8_toldShift_30 : decode cX8_toldShift 30 = .ok (.bipush 45, 2) := by decide +kernel
theorem dX8_toldShift_32 : decode cX8_toldShift 32 = .ok (.if_icmp .ne 7, 3) := by decide +kernel
theorem dX8_toldShift_35 : decode cX8_toldShift 35 = .ok (.iconst 1, 1) := by decide +kernel
theorem dX8_toldShift_36 : decode cX8_toldShift 36 = .ok (.goto 4, 3) := by decide +kernel
theorem dX8_toldShift_39 : decode cX8_toldShift 39 = .ok (.iconst 0, 1) := by decide +kernel
theorem dX8_toldShift_40 : decode cX8_toldShift 40 = .ok (.istore_n 3, 1) := by decide +kernel
theorem dX8_toldShift_41 : decode cX8_toldShift 41 = .ok (.iload_n 3, 1) := by decide +kernel
theorem dX8_toldShift_42 : decode cX8_toldShift 42 = .ok (.ifCond .eq 7, 3) := by decide +kernel
theorem dX8_toldShift_45 : decode cX8_toldShift 45 = .ok (.aload_n 0, 1) := by decide +kernel
theorem dX8_toldShift_46 : decode cX8_toldShift 46 = .ok (.invokevirtual 127, 3) := by decide +kernel
theorem dX8_toldShift_49 : decode cX8_toldShift 49 = .ok (.aload_n 0, 1) := by decide +kernel
theorem dX8_toldShift_50 : decode cX8_toldShift 50 = .ok (.iconst 0, 1) := by decide +kernel
theorem dX8_toldShift_51 : decode cX8_toldShift 51 = .ok (.bipush 16, 2) := by decide +kernel
theorem dX8_toldShift_53 : decode cX8_toldShift 53 = .ok (.invokevirtual 133, 3) := by decide +kernel
theorem dX8_toldShift_56 : decode cX8_toldShift 56 = .ok (.istore 4, 2) := by decide +kernel
theorem dX8_toldShift_58 : decode cX8_toldShift 58 = .ok (.iload_n 1, 1) := by decide +kernel
theorem dX8_toldShift_59 : decode cX8_toldShift 59 = .ok (.ifCond .eq 27, 3) := by decide +kernel
theorem dX8_toldShift_62 : decode cX8_toldShift 62 = .ok (.aload_n 0, 1) := by decide +kernel
theorem dX8_toldShift_63 : decode cX8_toldShift 63 = .ok (.getfield 17, 3) := by decide +kernel
theorem dX8_toldShift_66 : decode cX8_toldShift 66 = .ok (.bipush 86, 2) := by decide +kernel
theorem dX8_toldShift_68 : decode cX8_toldShift 68 = .ok (.iload_n 2, 1) := by decide +kernel
theorem dX8_toldShift_69 : decode cX8_toldShift 69 = .ok (.imul, 1) := by decide +kernel
theorem dX8_toldShift_70 : decode cX8_toldShift 70 = .ok (.bipush 85, 2) := by decide +kernel
theorem dX8_toldShift_72 : decode cX8_toldShift 72 = .ok (.iadd, 1) := by decide +kernel
theorem dX8_toldShift_73 : decode cX8_toldShift 73 = .ok (.iload_n 3, 1) := by decide +kernel
theorem dX8_toldShift_74 : decode cX8_toldShift 74 = .ok (.ifCond .eq 9, 3) := by decide +kernel
theorem dX8_toldShift_77 : decode cX8_toldShift 77 = .ok (.iload 4, 2) := by decide +kernel
theorem dX8_toldShift_79 : decode cX8_toldShift 79 = .ok (.ineg, 1) := by decide +kernel
theorem dX8_toldShift_80 : decode cX8_toldShift 80 = .ok (.goto 5, 3) := by decide +kernel
theorem dX8_toldShift_83 : decode cX8_toldShift 83 = .ok (.iload 4, 2) := by decide +kernel
theorem dX8_toldShift_85 : decode cX8_toldShift 85 = .ok (.iastore, 1) := by decide +kernel
theorem dX8_toldShift_86 : decode cX8_toldShift 86 = .ok (.return_, 1) := by decide +kernel
theorem dX8_toldShut_0 : decode cX8_toldShut 0 = .ok (.aload_n 0, 1) := by decide +kernel
theorem dX8_toldShut_1 : decode cX8_toldShut 1 = .ok (.invokevirtual 127, 3) := by decide +kernel
theorem dX8_toldShut_4 : decode cX8_toldShut 4 = .ok (.aload_n 0, 1) := by decide +kernel
theorem dX8_toldShut_5 : decode cX8_toldShut 5 = .ok (.iconst 0, 1) := by decide +kernel
theorem dX8_toldShut_6 : decode cX8_toldShut 6 = .ok (.iconst 3, 1) := by decide +kernel
theorem dX8_toldShut_7 : decode cX8_toldShut 7 = .ok (.invokevirtual 133, 3) := by decide +kernel
theorem dX8_toldShut_10 : decode cX8_toldShut 10 = .ok (.istore_n 2, 1) := by decide +kernel
theorem dX8_toldShut_11 : decode cX8_toldShut 11 = .ok (.iload_n 1, 1) := by decide +kernel
theorem dX8_toldShut_12 : decode cX8_toldShut 12 = .ok (.ifCond .eq 10, 3) := by decide +kernel
theorem dX8_toldShut_15 : decode cX8_toldShut 15 = .ok (.aload_n 0, 1) := by decide +kernel
theorem dX8_toldShut_16 : decode cX8_toldShut 16 = .ok (.getfield 20, 3) := by decide +kernel
theorem dX8_toldShut_19 : decode cX8_toldShut 19 = .ok (.iload_n 2, 1) := by decide +kernel
theorem dX8_toldShut_20 : decode cX8_toldShut 20 = .ok (.iconst 1, 1) := by decide +kernel
theorem dX8_toldShut_21 : decode cX8_toldShut 21 = .ok (.iastore, 1) := by decide +kernel
theorem dX8_toldShut_22 : decode cX8_toldShut 22 = .ok (.return_, 1) := by decide +kernel
theorem dX8_toldHouse_0 : decode cX8_toldHouse 0 = .ok (.aload_n 0, 1) := by decide +kernel
theorem dX8_toldHouse_1 : decode cX8_toldHouse 1 = .ok (.invokevirtual 127, 3) := by decide +kernel
theorem dX8_toldHouse_4 : decode cX8_toldHouse 4 = .ok (.aload_n 0, 1) := by decide +kernel
theorem dX8_toldHouse_5 : decode cX8_toldHouse 5 = .ok (.iconst 0, 1) := by decide +kernel
theorem dX8_toldHouse_6 : decode cX8_toldHouse 6 = .ok (.putfield 130, 3) := by decide +kernel
theorem dX8_toldHouse_9 : decode cX8_toldHouse 9 = .ok (.iload_n 1, 1) := by decide +kernel
theorem dX8_toldHouse_10 : decode cX8_toldHouse 10 = .ok (.ifCond .eq 50, 3) := by decide +kernel
theorem dX8_toldHouse_13 : decode cX8_toldHouse 13 = .ok (.aload_n 0, 1) := by decide +kernel
theorem dX8_toldHouse_14 : decode cX8_toldHouse 14 = .ok (.iconst 0, 1) := by decide +kernel
theorem dX8_toldHouse_15 : decode cX8_toldHouse 15 = .ok (.putfield 159, 3) := by decide +kernel
theorem dX8_toldHouse_18 : decode cX8_toldHouse 18 = .ok (.iconst 0, 1) := by decide +kernel
theorem dX8_toldHouse_19 : decode cX8_toldHouse 19 = .ok (.istore_n 2, 1) := by decide +kernel
theorem dX8_toldHouse_20 : decode cX8_toldHouse 20 = .ok (.iload_n 2, 1) := by decide +kernel
theorem dX8_toldHouse_21 : decode cX8_toldHouse 21 = .ok (.sipush 344, 3) := by decide +kernel
theorem dX8_toldHouse_24 : decode cX8_toldHouse 24 = .ok (.if_icmp .ge 16, 3) := by decide +kernel
theorem dX8_toldHouse_27 : decode cX8_toldHouse 27 = .ok (.aload_n 0, 1) := by decide +kernel
theorem dX8_toldHouse_28 : decode cX8_toldHouse 28 = .ok (.getfield 17, 3) := by decide +kernel
theorem dX8_toldHouse_31 : decode cX8_toldHouse 31 = .ok (.iload_n 2, 1) := by decide +kernel
theorem dX8_toldHouse_32 : decode cX8_toldHouse 32 = .ok (.iconst 0, 1) := by decide +kernel
theorem dX8_toldHouse_33 : decode cX8_toldHouse 33 = .ok (.iastore, 1) := by decide +kernel
theorem dX8_toldHouse_34 : decode cX8_toldHouse 34 = .ok (.iinc 2 1, 3) := by decide +kernel
theorem dX8_toldHouse_37 : decode cX8_toldHouse 37 = .ok (.goto (-17), 3) := by decide +kernel
theorem dX8_toldHouse_40 : decode cX8_toldHouse 40 = .ok (.iconst 0, 1) := by decide +kernel
theorem dX8_toldHouse_41 : decode cX8_toldHouse 41 = .ok (.istore_n 2, 1) := by decide +kernel
theorem dX8_toldHouse_42 : decode cX8_toldHouse 42 = .ok (.iload_n 2, 1) := by decide +kernel
theorem dX8_toldHouse_43 : decode cX8_toldHouse 43 = .ok (.iconst 4, 1) := by decide +kernel
theorem dX8_toldHouse_44 : decode cX8_toldHouse 44 = .ok (.if_icmp .ge 16, 3) := by decide +kernel
theorem dX8_toldHouse_47 : decode cX8_toldHouse 47 = .ok (.aload_n 0, 1) := by decide +kernel
theorem dX8_toldHouse_48 : decode cX8_toldHouse 48 = .ok (.getfield 20, 3) := by decide +kernel
theorem dX8_toldHouse_51 : decode cX8_toldHouse 51 = .ok (.iload_n 2, 1) := by decide +kernel
theorem dX8_toldHouse_52 : decode cX8_toldHouse 52 = .ok (.iconst 0, 1) := by decide +kernel
theorem dX8_toldHouse_53 : decode cX8_toldHouse 53 = .ok (.iastore, 1) := by decide +kernel
theorem dX8_toldHouse_54 : decode cX8_toldHouse 54 = .ok (.iinc 2 1, 3) := by decide +kernel
theorem dX8_toldHouse_57 : decode cX8_toldHouse 57 = .ok (.goto (-15), 3) := by decide +kernel
theorem dX8_toldHouse_60 : decode cX8_toldHouse 60 = .ok (.return_, 1) := by decide +kernel
theorem dX8_isWord_0 : decode cX8_isWord 0 = .ok (.iload 4, 2) := by decide +kernel
theorem dX8_isWord_2 : decode cX8_isWord 2 = .ok (.ifCond .ne 7, 3) := by decide +kernel
theorem dX8_isWord_5 : decode cX8_isWord 5 = .ok (.iconst 3, 1) := by decide +kernel
theorem dX8_isWord_6 : decode cX8_isWord 6 = .ok (.goto 13, 3) := by decide +kernel
theorem dX8_isWord_9 : decode cX8_isWord 9 = .ok (.iload 5, 2) := by decide +kernel
theorem dX8_isWord_11 : decode cX8_isWord 11 = .ok (.ifCond .ne 7, 3) := by decide +kernel
theorem dX8_isWord_14 : decode cX8_isWord 14 = .ok (.iconst 4, 1) := by decide +kernel
theorem dX8_isWord_15 : decode cX8_isWord 15 = .ok (.goto 4, 3) := by decide +kernel
theorem dX8_isWord_18 : decode cX8_isWord 18 = .ok (.iconst 5, 1) := by decide +kernel
theorem dX8_isWord_19 : decode cX8_isWord 19 = .ok (.istore 6, 2) := by decide +kernel
theorem dX8_isWord_21 : decode cX8_isWord 21 = .ok (.aload_n 0, 1) := by decide +kernel
theorem dX8_isWord_22 : decode cX8_isWord 22 = .ok (.getfield 114, 3) := by decide +kernel
theorem dX8_isWord_25 : decode cX8_isWord 25 = .ok (.iconst 1, 1) := by decide +kernel
theorem dX8_isWord_26 : decode cX8_isWord 26 = .ok (.if_icmp .ne 17, 3) := by decide +kernel
theorem dX8_isWord_29 : decode cX8_isWord 29 = .ok (.aload_n 0, 1) := by decide +kernel
theorem dX8_isWord_30 : decode cX8_isWord 30 = .ok (.getfield 98, 3) := by decide +kernel
theorem dX8_isWord_33 : decode cX8_isWord 33 = .ok (.aload_n 0, 1) := by decide +kernel
theorem dX8_isWord_34 : decode cX8_isWord 34 = .ok (.getfield 104, 3) := by decide +kernel
theorem dX8_isWord_37 : decode cX8_isWord 37 = .ok (.isub, 1) := by decide +kernel
theorem dX8_isWord_38 : decode cX8_isWord 38 = .ok (.iload 6, 2) := by decide +kernel
theorem dX8_isWord_40 : decode cX8_isWord 40 = .ok (.if_icmp .eq 5, 3) := by decide +kernel
theorem dX8_isWord_43 : decode cX8_isWord 43 = .ok (.iconst 0, 1) := by decide +kernel
theorem dX8_isWord_44 : decode cX8_isWord 44 = .ok (.ireturn, 1) := by decide +kernel
theorem dX8_isWord_45 : decode cX8_isWord 45 = .ok (.aload_n 0, 1) := by decide +kernel
theorem dX8_isWord_46 : decode cX8_isWord 46 = .ok (.aload_n 0, 1) := by decide +kernel
theorem dX8_isWord_47 : decode cX8_isWord 47 = .ok (.getfield 104, 3) := by decide +kernel
theorem dX8_isWord_50 : decode cX8_isWord 50 = .ok (.invokevirtual 101, 3) := by decide +kernel
theorem dX8_isWord_53 : decode cX8_isWord 53 = .ok (.iload_n 1, 1) := by decide +kernel
theorem dX8_isWord_54 : decode cX8_isWord 54 = .ok (.if_icmp .ne 77, 3) := by decide +kernel
theorem dX8_isWord_57 : decode cX8_isWord 57 = .ok (.aload_n 0, 1) := by decide +kernel
theorem dX8_isWord_58 : decode cX8_isWord 58 = .ok (.aload_n 0, 1) := by decide +kernel
theorem dX8_isWord_59 : decode cX8_isWord 59 = .ok (.getfield 104, 3) := by decide +kernel
theorem dX8_isWord_62 : decode cX8_isWord 62 = .ok (.iconst 1, 1) := by decide +kernel
theorem dX8_isWord_63 : decode cX8_isWord 63 = .ok (.iadd, 1) := by decide +kernel
theorem dX8_isWord_64 : decode cX8_isWord 64 = .ok (.invokevirtual 101, 3) := by decide +kernel
theorem dX8_isWord_67 : decode cX8_isWord 67 = .ok (.iload_n 2, 1) := by decide +kernel
theorem dX8_isWord_68 : decode cX8_isWord 68 = .ok (.if_icmp .ne 63, 3) := by decide +kernel
theorem dX8_isWord_71 : decode cX8_isWord 71 = .ok (.aload_n 0, 1) := by decide +kernel
theorem dX8_isWord_72 : decode cX8_isWord 72 = .ok (.aload_n 0, 1) := by decide +kernel
theorem dX8_isWord_73 : decode cX8_isWord 73 = .ok (.getfield 104, 3) := by decide +kernel
theorem dX8_isWord_76 : decode cX8_isWord 76 = .ok (.iconst 2, 1) := by decide +kernel
theorem dX8_isWord_77 : decode cX8_isWord 77 = .ok (.iadd, 1) := by decide +kernel
theorem dX8_isWord_78 : decode cX8_isWord 78 = .ok (.invokevirtual 101, 3) := by decide +kernel
theorem dX8_isWord_81 : decode cX8_isWord 81 = .ok (.iload_n 3, 1) := by decide +kernel
theorem dX8_isWord_82 : decode cX8_isWord 82 = .ok (.if_icmp .ne 49, 3) := by decide +kernel
theorem dX8_isWord_85 : decode cX8_isWord 85 = .ok (.iload 6, 2) := by decide +kernel
theorem dX8_isWord_87 : decode cX8_isWord 87 = .ok (.iconst 4, 1) := by decide +kernel
theorem dX8_isWord_88 : decode cX8_isWord 88 = .ok (.if_icmp .lt 18, 3) := by decide +kernel
theorem dX8_isWord_91 : decode cX8_isWord 91 = .ok (.aload_n 0, 1) := by decide +kernel
theorem dX8_isWord_92 : decode cX8_isWord 92 = .ok (.aload_n 0, 1) := by decide +kernel
theorem dX8_isWord_93 : decode cX8_isWord 93 = .ok (.getfield 104, 3) := by decide +kernel
theorem dX8_isWord_96 : decode cX8_isWord 96 = .ok (.iconst 3, 1) := by decide +kernel
theorem dX8_isWord_97 : decode cX8_isWord 97 = .ok (.iadd, 1) := by decide +kernel
theorem dX8_isWord_98 : decode cX8_isWord 98 = .ok (.invokevirtual 101, 3) := by decide +kernel
theorem dX8_isWord_101 : decode cX8_isWord 101 = .ok (.iload 4, 2) := by decide +kernel
theorem dX8_isWord_103 : decode cX8_isWord 103 = .ok (.if_icmp .ne 28, 3) := by decide +kernel
theorem dX8_isWord_106 : decode cX8_isWord 106 = .ok (.iload 6, 2) := by decide +kernel
theorem dX8_isWord_108 : decode cX8_isWord 108 = .ok (.iconst 5, 1) := by decide +kernel
theorem dX8_isWord_109 : decode cX8_isWord 109 = .ok (.if_icmp .lt 18, 3) := by decide +kernel
theorem dX8_isWord_112 : decode cX8_isWord 112 = .ok (.aload_n 0, 1) := by decide +kernel
theorem dX8_isWord_113 : decode cX8_isWord 113 = .ok (.aload_n 0, 1) := by decide +kernel
theorem dX8_isWord_114 : decode cX8_isWord 114 = .ok (.getfield 104, 3) := by decide +kernel
theorem dX8_isWord_117 : decode cX8_isWord 117 = .ok (.iconst 4, 1) := by decide +kernel
theorem dX8_isWord_118 : decode cX8_isWord 118 = .ok (.iadd, 1) := by decide +kernel
theorem dX8_isWord_119 : decode cX8_isWord 119 = .ok (.invokevirtual 101, 3) := by decide +kernel
theorem dX8_isWord_122 : decode cX8_isWord 122 = .ok (.iload 5, 2) := by decide +kernel
theorem dX8_isWord_124 : decode cX8_isWord 124 = .ok (.if_icmp .ne 7, 3) := by decide +kernel
theorem dX8_isWord_127 : decode cX8_isWord 127 = .ok (.iconst 1, 1) := by decide +kernel
theorem dX8_isWord_128 : decode cX8_isWord 128 = .ok (.goto 4, 3) := by decide +kernel
theorem dX8_isWord_131 : decode cX8_isWord 131 = .ok (.iconst 0, 1) := by decide +kernel
theorem dX8_isWord_132 : decode cX8_isWord 132 = .ok (.ireturn, 1) := by decide +kernel
theorem dX8_clause_0 : decode cX8_clause 0 = .ok (.aload_n 0, 1) := by decide +kernel
theorem dX8_clause_1 : decode cX8_clause 1 = .ok (.bipush 104, 2) := by decide +kernel
theorem dX8_clause_3 : decode cX8_clause 3 = .ok (.bipush 111, 2) := by decide +kernel
theorem dX8_clause_5 : decode cX8_clause 5 = .ok (.bipush 117, 2) := by decide +kernel
theorem dX8_clause_7 : decode cX8_clause 7 = .ok (.bipush 115, 2) := by decide +kernel
theorem dX8_clause_9 : decode cX8_clause 9 = .ok (.bipush 101, 2) := by decide +kernel
theorem dX8_clause_11 : decode cX8_clause 11 = .ok (.invokevirtual 161, 3) := by decide +kernel
theorem dX8_clause_14 : decode cX8_clause 14 = .ok (.ifCond .eq 11, 3) := by decide +kernel
theorem dX8_clause_17 : decode cX8_clause 17 = .ok (.aload_n 0, 1) := by decide +kernel
theorem dX8_clause_18 : decode cX8_clause 18 = .ok (.iload_n 1, 1) := by decide +kernel
theorem dX8_clause_19 : decode cX8_clause 19 = .ok (.invokevirtual 165, 3) := by decide +kernel
theorem dX8_clause_22 : decode cX8_clause 22 = .ok (.goto 153, 3) := by decide +kernel
theorem dX8_clause_25 : decode cX8_clause 25 = .ok (.aload_n 0, 1) := by decide +kernel
theorem dX8_clause_26 : decode cX8_clause 26 = .ok (.bipush 116, 2) := by decide +kernel
theorem dX8_clause_28 : decode cX8_clause 28 = .ok (.bipush 111, 2) := by decide +kernel
theorem dX8_clause_30 : decode cX8_clause 30 = .ok (.bipush 110, 2) := by decide +kernel
theorem dX8_clause_32 : decode cX8_clause 32 = .ok (.bipush 101, 2) := by decide +kernel
theorem dX8_clause_34 : decode cX8_clause 34 = .ok (.iconst 0, 1) := by decide +kernel
theorem dX8_clause_35 : decode cX8_clause 35 = .ok (.invokevirtual 161, 3) := by decide +kernel
theorem dX8_clause_38 : decode cX8_clause 38 = .ok (.ifCond .eq 11, 3) := by decide +kernel
theorem dX8_clause_41 : decode cX8_clause 41 = .ok (.aload_n 0, 1) := by decide +kernel
theorem dX8_clause_42 : decode cX8_clause 42 = .ok (.iload_n 1, 1) := by decide +kernel
theorem dX8_clause_43 : decode cX8_clause 43 = .ok (.invokevirtual 169, 3) := by decide +kernel
theorem dX8_clause_46 : decode cX8_clause 46 = .ok (.goto 129, 3) := by decide +kernel
theorem dX8_clause_49 : decode cX8_clause 49 = .ok (.aload_n 0, 1) := by decide +kernel
theorem dX8_clause_50 : decode cX8_clause 50 = .ok (.bipush 112, 2) := by decide +kernel
theorem dX8_clause_52 : decode cX8_clause 52 = .ok (.bipush 117, 2) := by decide +kernel
theorem dX8_clause_54 : decode cX8_clause 54 = .ok (.bipush 116, 2) := by decide +kernel
theorem dX8_clause_56 : decode cX8_clause 56 = .ok (.iconst 0, 1) := by decide +kernel
theorem dX8_clause_57 : decode cX8_clause 57 = .ok (.iconst 0, 1) := by decide +kernel
theorem dX8_clause_58 : decode cX8_clause 58 = .ok (.invokevirtual 161, 3) := by decide +kernel
theorem dX8_clause_61 : decode cX8_clause 61 = .ok (.ifCond .eq 11, 3) := by decide +kernel
theorem dX8_clause_64 : decode cX8_clause 64 = .ok (.aload_n 0, 1) := by decide +kernel
theorem dX8_clause_65 : decode cX8_clause 65 = .ok (.iload_n 1, 1) := by decide +kernel
theorem dX8_clause_66 : decode cX8_clause 66 = .ok (.invokevirtual 172, 3) := by decide +kernel
theorem dX8_clause_69 : decode cX8_clause 69 = .ok (.goto 106, 3) := by decide +kernel
theorem dX8_clause_72 : decode cX8_clause 72 = .ok (.aload_n 0, 1) := by decide +kernel
theorem dX8_clause_73 : decode cX8_clause 73 = .ok (.bipush 102, 2) := by decide +kernel
theorem dX8_clause_75 : decode cX8_clause 75 = .ok (.bipush 97, 2) := by decide +kernel
theorem dX8_clause_77 : decode cX8_clause 77 = .ok (.bipush 100, 2) := by decide +kernel
theorem dX8_clause_79 : decode cX8_clause 79 = .ok (.bipush 101, 2) := by decide +kernel
theorem dX8_clause_81 : decode cX8_clause 81 = .ok (.iconst 0, 1) := by decide +kernel
theorem dX8_clause_82 : decode cX8_clause 82 = .ok (.invokevirtual 161, 3) := by decide +kernel
theorem dX8_clause_85 : decode cX8_clause 85 = .ok (.ifCond .eq 12, 3) := by decide +kernel
theorem dX8_clause_88 : decode cX8_clause 88 = .ok (.aload_n 0, 1) := by decide +kernel
theorem dX8_clause_89 : decode cX8_clause 89 = .ok (.iload_n 1, 1) := by decide +kernel
theorem dX8_clause_90 : decode cX8_clause 90 = .ok (.iconst 0, 1) := by decide +kernel
theorem dX8_clause_91 : decode cX8_clause 91 = .ok (.invokevirtual 175, 3) := by decide +kernel
theorem dX8_clause_94 : decode cX8_clause 94 = .ok (.goto 81, 3) := by decide +kernel
theorem dX8_clause_97 : decode cX8_clause 97 = .ok (.aload_n 0, 1) := by decide +kernel
theorem dX8_clause_98 : decode cX8_clause 98 = .ok (.bipush 103, 2) := by decide +kernel
theorem dX8_clause_100 : decode cX8_clause 100 = .ok (.bipush 97, 2) := by decide +kernel
theorem dX8_clause_102 : decode cX8_clause 102 = .ok (.bipush 105, 2) := by decide +kernel
theorem dX8_clause_104 : decode cX8_clause 104 = .ok (.bipush 110, 2) := by decide +kernel
theorem dX8_clause_106 : decode cX8_clause 106 = .ok (.iconst 0, 1) := by decide +kernel
theorem dX8_clause_107 : decode cX8_clause 107 = .ok (.invokevirtual 161, 3) := by decide +kernel
theorem dX8_clause_110 : decode cX8_clause 110 = .ok (.ifCond .eq 12, 3) := by decide +kernel
theorem dX8_clause_113 : decode cX8_clause 113 = .ok (.aload_n 0, 1) := by decide +kernel
theorem dX8_clause_114 : decode cX8_clause 114 = .ok (.iload_n 1, 1) := by decide +kernel
theorem dX8_clause_115 : decode cX8_clause 115 = .ok (.iconst 1, 1) := by decide +kernel
theorem dX8_clause_116 : decode cX8_clause 116 = .ok (.invokevirtual 175, 3) := by decide +kernel
theorem dX8_clause_119 : decode cX8_clause 119 = .ok (.goto 56, 3) := by decide +kernel
theorem dX8_clause_122 : decode cX8_clause 122 = .ok (.aload_n 0, 1) := by decide +kernel
theorem dX8_clause_123 : decode cX8_clause 123 = .ok (.bipush 115, 2) := by decide +kernel
theorem dX8_clause_125 : decode cX8_clause 125 = .ok (.bipush 104, 2) := by decide +kernel
theorem dX8_clause_127 : decode cX8_clause 127 = .ok (.bipush 105, 2) := by decide +kernel
theorem dX8_clause_129 : decode cX8_clause 129 = .ok (.bipush 102, 2) := by decide +kernel
theorem dX8_clause_131 : decode cX8_clause 131 = .ok (.bipush 116, 2) := by decide +kernel
theorem dX8_clause_133 : decode cX8_clause 133 = .ok (.invokevirtual 161, 3) := by decide +kernel
theorem dX8_clause_136 : decode cX8_clause 136 = .ok (.ifCond .eq 11, 3) := by decide +kernel
theorem dX8_clause_139 : decode cX8_clause 139 = .ok (.aload_n 0, 1) := by decide +kernel
theorem dX8_clause_140 : decode cX8_clause 140 = .ok (.iload_n 1, 1) := by decide +kernel
theorem dX8_clause_141 : decode cX8_clause 141 = .ok (.invokevirtual 179, 3) := by decide +kernel
theorem dX8_clause_144 : decode cX8_clause 144 = .ok (.goto 31, 3) := by decide +kernel
theorem dX8_clause_147 : decode cX8_clause 147 = .ok (.aload_n 0, 1) := by decide +kernel
theorem dX8_clause_148 : decode cX8_clause 148 = .ok (.bipush 115, 2) := by decide +kernel
theorem dX8_clause_150 : decode cX8_clause 150 = .ok (.bipush 104, 2) := by decide +kernel
theorem dX8_clause_152 : decode cX8_clause 152 = .ok (.bipush 117, 2) := by decide +kernel
theorem dX8_clause_154 : decode cX8_clause 154 = .ok (.bipush 116, 2) := by decide +kernel
theorem dX8_clause_156 : decode cX8_clause 156 = .ok (.iconst 0, 1) := by decide +kernel
theorem dX8_clause_157 : decode cX8_clause 157 = .ok (.invokevirtual 161, 3) := by decide +kernel
theorem dX8_clause_160 : decode cX8_clause 160 = .ok (.ifCond .eq 11, 3) := by decide +kernel
theorem dX8_clause_163 : decode cX8_clause 163 = .ok (.aload_n 0, 1) := by decide +kernel
theorem dX8_clause_164 : decode cX8_clause 164 = .ok (.iload_n 1, 1) := by decide +kernel
theorem dX8_clause_165 : decode cX8_clause 165 = .ok (.invokevirtual 182, 3) := by decide +kernel
theorem dX8_clause_168 : decode cX8_clause 168 = .ok (.goto 7, 3) := by decide +kernel
theorem dX8_clause_171 : decode cX8_clause 171 = .ok (.aload_n 0, 1) := by decide +kernel
theorem dX8_clause_172 : decode cX8_clause 172 = .ok (.invokevirtual 124, 3) := by decide +kernel
theorem dX8_clause_175 : decode cX8_clause 175 = .ok (.return_, 1) := by decide +kernel
theorem dX8_reads_0 : decode cX8_reads 0 = .ok (.aload_n 0, 1) := by decide +kernel
theorem dX8_reads_1 : decode cX8_reads 1 = .ok (.aload_n 0, 1) := by decide +kernel
theorem dX8_reads_2 : decode cX8_reads 2 = .ok (.getfield 159, 3) := by decide +kernel
theorem dX8_reads_5 : decode cX8_reads 5 = .ok (.putfield 130, 3) := by decide +kernel
theorem dX8_reads_8 : decode cX8_reads 8 = .ok (.iconst 0, 1) := by decide +kernel
theorem dX8_reads_9 : decode cX8_reads 9 = .ok (.istore_n 2, 1) := by decide +kernel
theorem dX8_reads_10 : decode cX8_reads 10 = .ok (.iload_n 2, 1) := by decide +kernel
theorem dX8_reads_11 : decode cX8_reads 11 = .ok (.bipush 6, 2) := by decide +kernel
theorem dX8_reads_13 : decode cX8_reads 13 = .ok (.if_icmp .ge 21, 3) := by decide +kernel
theorem dX8_reads_16 : decode cX8_reads 16 = .ok (.aload_n 0, 1) := by decide +kernel
theorem dX8_reads_17 : decode cX8_reads 17 = .ok (.getfield 48, 3) := by decide +kernel
theorem dX8_reads_20 : decode cX8_reads 20 = .ok (.iload_n 2, 1) := by decide +kernel
theorem dX8_reads_21 : decode cX8_reads 21 = .ok (.aload_n 0, 1) := by decide +kernel
theorem dX8_reads_22 : decode cX8_reads 22 = .ok (.getfield 13, 3) := by decide +kernel
theorem dX8_reads_25 : decode cX8_reads 25 = .ok (.iload_n 2, 1) := by decide +kernel
theorem dX8_reads_26 : decode cX8_reads 26 = .ok (.iaload, 1) := by decide +kernel
theorem dX8_reads_27 : decode cX8_reads 27 = .ok (.iastore, 1) := by decide +kernel
theorem dX8_reads_28 : decode cX8_reads 28 = .ok (.iinc 2 1, 3) := by decide +kernel
theorem dX8_reads_31 : decode cX8_reads 31 = .ok (.goto (-21), 3) := by decide +kernel
theorem dX8_reads_34 : decode cX8_reads 34 = .ok (.aload_n 0, 1) := by decide +kernel
theorem dX8_reads_35 : decode cX8_reads 35 = .ok (.iconst (-1), 1) := by decide +kernel
theorem dX8_reads_36 : decode cX8_reads 36 = .ok (.putfield 121, 3) := by decide +kernel
theorem dX8_reads_39 : decode cX8_reads 39 = .ok (.aload_n 0, 1) := by decide +kernel
theorem dX8_reads_40 : decode cX8_reads 40 = .ok (.iconst 0, 1) := by decide +kernel
theorem dX8_reads_41 : decode cX8_reads 41 = .ok (.putfield 98, 3) := by decide +kernel
theorem dX8_reads_44 : decode cX8_reads 44 = .ok (.aload_n 0, 1) := by decide +kernel
theorem dX8_reads_45 : decode cX8_reads 45 = .ok (.invokevirtual 127, 3) := by decide +kernel
theorem dX8_reads_48 : decode cX8_reads 48 = .ok (.iconst 0, 1) := by decide +kernel
theorem dX8_reads_49 : decode cX8_reads 49 = .ok (.istore_n 2, 1) := by decide +kernel
theorem dX8_reads_50 : decode cX8_reads 50 = .ok (.iconst 1, 1) := by decide +kernel
theorem dX8_reads_51 : decode cX8_reads 51 = .ok (.istore_n 3, 1) := by decide +kernel
theorem dX8_reads_52 : decode cX8_reads 52 = .ok (.iload_n 3, 1) := by decide +kernel
theorem dX8_reads_53 : decode cX8_reads 53 = .ok (.ifCond .eq 86, 3) := by decide +kernel
theorem dX8_reads_56 : decode cX8_reads 56 = .ok (.aload_n 0, 1) := by decide +kernel
theorem dX8_reads_57 : decode cX8_reads 57 = .ok (.getfield 121, 3) := by decide +kernel
