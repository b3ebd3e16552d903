theorem dX0_init_0 : decode cX0_init 0 = .ok (.aload_n 0, 1) := by decide +kernel
theorem dX0_init_1 : decode cX0_init 1 = .ok (.invokespecial 3, 3) := by decide +kernel
theorem dX0_init_4 : decode cX0_init 4 = .ok (.aload_n 0, 1) := by decide +kernel
theorem dX0_init_5 : decode cX0_init 5 = .ok (.new 9, 3) := by decide +kernel
theorem dX0_init_8 : decode cX0_init 8 = .ok (.dup, 1) := by decide +kernel
theorem dX0_init_9 : decode cX0_init 9 = .ok (.invokespecial 11, 3) := by decide +kernel
theorem dX0_init_12 : decode cX0_init 12 = .ok (.putfield 12, 3) := by decide +kernel
theorem dX0_init_15 : decode cX0_init 15 = .ok (.return_, 1) := by decide +kernel
theorem dX0_join_0 : decode cX0_join 0 = .ok (.aload_n 0, 1) := by decide +kernel
theorem dX0_join_1 : decode cX0_join 1 = .ok (.getfield 12, 3) := by decide +kernel
theorem dX0_join_4 : decode cX0_join 4 = .ok (.aload_n 1, 1) := by decide +kernel
theorem dX0_join_5 : decode cX0_join 5 = .ok (.aload_n 1, 1) := by decide +kernel
theorem dX0_join_6 : decode cX0_join 6 = .ok (.getfield 18, 3) := by decide +kernel
theorem dX0_join_9 : decode cX0_join 9 = .ok (.invokevirtual 24, 3) := by decide +kernel
theorem dX0_join_12 : decode cX0_join 12 = .ok (.aload_n 1, 1) := by decide +kernel
theorem dX0_join_13 : decode cX0_join 13 = .ok (.dup, 1) := by decide +kernel
theorem dX0_join_14 : decode cX0_join 14 = .ok (.getfield 28, 3) := by decide +kernel
theorem dX0_join_17 : decode cX0_join 17 = .ok (.iconst 1, 1) := by decide +kernel
theorem dX0_join_18 : decode cX0_join 18 = .ok (.iload_n 2, 1) := by decide +kernel
theorem dX0_join_19 : decode cX0_join 19 = .ok (.ishl, 1) := by decide +kernel
theorem dX0_join_20 : decode cX0_join 20 = .ok (.ior, 1) := by decide +kernel
theorem dX0_join_21 : decode cX0_join 21 = .ok (.putfield 28, 3) := by decide +kernel
theorem dX0_join_24 : decode cX0_join 24 = .ok (.aload_n 1, 1) := by decide +kernel
theorem dX0_join_25 : decode cX0_join 25 = .ok (.dup, 1) := by decide +kernel
theorem dX0_join_26 : decode cX0_join 26 = .ok (.getfield 18, 3) := by decide +kernel
theorem dX0_join_29 : decode cX0_join 29 = .ok (.aload_n 0, 1) := by decide +kernel
theorem dX0_join_30 : decode cX0_join 30 = .ok (.getfield 12, 3) := by decide +kernel
theorem dX0_join_33 : decode cX0_join 33 = .ok (.aload_n 1, 1) := by decide +kernel
theorem dX0_join_34 : decode cX0_join 34 = .ok (.iload_n 2, 1) := by decide +kernel
theorem dX0_join_35 : decode cX0_join 35 = .ok (.invokevirtual 31, 3) := by decide +kernel
theorem dX0_join_38 : decode cX0_join 38 = .ok (.ior, 1) := by decide +kernel
theorem dX0_join_39 : decode cX0_join 39 = .ok (.putfield 18, 3) := by decide +kernel
theorem dX0_join_42 : decode cX0_join 42 = .ok (.return_, 1) := by decide +kernel
theorem dX0_leave_0 : decode cX0_leave 0 = .ok (.aload_n 1, 1) := by decide +kernel
theorem dX0_leave_1 : decode cX0_leave 1 = .ok (.dup, 1) := by decide +kernel
theorem dX0_leave_2 : decode cX0_leave 2 = .ok (.getfield 28, 3) := by decide +kernel
theorem dX0_leave_5 : decode cX0_leave 5 = .ok (.iconst 1, 1) := by decide +kernel
theorem dX0_leave_6 : decode cX0_leave 6 = .ok (.iload_n 2, 1) := by decide +kernel
theorem dX0_leave_7 : decode cX0_leave 7 = .ok (.ishl, 1) := by decide +kernel
theorem dX0_leave_8 : decode cX0_leave 8 = .ok (.iconst (-1), 1) := by decide +kernel
theorem dX0_leave_9 : decode cX0_leave 9 = .ok (.ixor, 1) := by decide +kernel
theorem dX0_leave_10 : decode cX0_leave 10 = .ok (.iand, 1) := by decide +kernel
theorem dX0_leave_11 : decode cX0_leave 11 = .ok (.putfield 28, 3) := by decide +kernel
theorem dX0_leave_14 : decode cX0_leave 14 = .ok (.aload_n 1, 1) := by decide +kernel
theorem dX0_leave_15 : decode cX0_leave 15 = .ok (.invokevirtual 35, 3) := by decide +kernel
theorem dX0_leave_18 : decode cX0_leave 18 = .ok (.return_, 1) := by decide +kernel
theorem dX0_mark_0 : decode cX0_mark 0 = .ok (.aload_n 1, 1) := by decide +kernel
theorem dX0_mark_1 : decode cX0_mark 1 = .ok (.iload_n 2, 1) := by decide +kernel
theorem dX0_mark_2 : decode cX0_mark 2 = .ok (.invokevirtual 38, 3) := by decide +kernel
theorem dX0_mark_5 : decode cX0_mark 5 = .ok (.aload_n 1, 1) := by decide +kernel
theorem dX0_mark_6 : decode cX0_mark 6 = .ok (.getfield 42, 3) := by decide +kernel
theorem dX0_mark_9 : decode cX0_mark 9 = .ok (.ifCond .eq 19, 3) := by decide +kernel
theorem dX0_mark_12 : decode cX0_mark 12 = .ok (.aload_n 1, 1) := by decide +kernel
theorem dX0_mark_13 : decode cX0_mark 13 = .ok (.getfield 45, 3) := by decide +kernel
theorem dX0_mark_16 : decode cX0_mark 16 = .ok (.aload_n 1, 1) := by decide +kernel
theorem dX0_mark_17 : decode cX0_mark 17 = .ok (.getfield 42, 3) := by decide +kernel
theorem dX0_mark_20 : decode cX0_mark 20 = .ok (.if_icmp .lt 8, 3) := by decide +kernel
theorem dX0_mark_23 : decode cX0_mark 23 = .ok (.aload_n 0, 1) := by decide +kernel
theorem dX0_mark_24 : decode cX0_mark 24 = .ok (.aload_n 1, 1) := by decide +kernel
theorem dX0_mark_25 : decode cX0_mark 25 = .ok (.invokevirtual 48, 3) := by decide +kernel
theorem dX0_mark_28 : decode cX0_mark 28 = .ok (.return_, 1) := by decide +kernel
theorem dX0_rearrange_0 : decode cX0_rearrange 0 = .ok (.aload_n 0, 1) := by decide +kernel
theorem dX0_rearrange_1 : decode cX0_rearrange 1 = .ok (.aload_n 1, 1) := by decide +kernel
theorem dX0_rearrange_2 : decode cX0_rearrange 2 = .ok (.invokevirtual 52, 3) := by decide +kernel
theorem dX0_rearrange_5 : decode cX0_rearrange 5 = .ok (.istore_n 2, 1) := by decide +kernel
theorem dX0_rearrange_6 : decode cX0_rearrange 6 = .ok (.aload_n 1, 1) := by decide +kernel
theorem dX0_rearrange_7 : decode cX0_rearrange 7 = .ok (.iload_n 2, 1) := by decide +kernel
theorem dX0_rearrange_8 : decode cX0_rearrange 8 = .ok (.invokevirtual 56, 3) := by decide +kernel
theorem dX0_rearrange_11 : decode cX0_rearrange 11 = .ok (.aload_n 1, 1) := by decide +kernel
theorem dX0_rearrange_12 : decode cX0_rearrange 12 = .ok (.aload_n 1, 1) := by decide +kernel
theorem dX0_rearrange_13 : decode cX0_rearrange 13 = .ok (.getfield 18, 3) := by decide +kernel
theorem dX0_rearrange_16 : decode cX0_rearrange 16 = .ok (.invokevirtual 56, 3) := by decide +kernel
theorem dX0_rearrange_19 : decode cX0_rearrange 19 = .ok (.if_icmp .ge 8, 3) := by decide +kernel
theorem dX0_rearrange_22 : decode cX0_rearrange 22 = .ok (.aload_n 1, 1) := by decide +kernel
theorem dX0_rearrange_23 : decode cX0_rearrange 23 = .ok (.iload_n 2, 1) := by decide +kernel
theorem dX0_rearrange_24 : decode cX0_rearrange 24 = .ok (.putfield 18, 3) := by decide +kernel
theorem dX0_rearrange_27 : decode cX0_rearrange 27 = .ok (.aload_n 1, 1) := by decide +kernel
theorem dX0_rearrange_28 : decode cX0_rearrange 28 = .ok (.iconst 0, 1) := by decide +kernel
theorem dX0_rearrange_29 : decode cX0_rearrange 29 = .ok (.putfield 45, 3) := by decide +kernel
theorem dX0_rearrange_32 : decode cX0_rearrange 32 = .ok (.return_, 1) := by decide +kernel
theorem dX0_anew_0 : decode cX0_anew 0 = .ok (.iconst 0, 1) := by decide +kernel
theorem dX0_anew_1 : decode cX0_anew 1 = .ok (.istore_n 2, 1) := by decide +kernel
theorem dX0_anew_2 : decode cX0_anew 2 = .ok (.iconst 0, 1) := by decide +kernel
theorem dX0_anew_3 : decode cX0_anew 3 = .ok (.istore_n 3, 1) := by decide +kernel
theorem dX0_anew_4 : decode cX0_anew 4 = .ok (.iload_n 3, 1) := by decide +kernel
theorem dX0_anew_5 : decode cX0_anew 5 = .ok (.aload_n 1, 1) := by decide +kernel
theorem dX0_anew_6 : decode cX0_anew 6 = .ok (.getfield 60, 3) := by decide +kernel
theorem dX0_anew_9 : decode cX0_anew 9 = .ok (.if_icmp .ge 58, 3) := by decide +kernel
theorem dX0_anew_12 : decode cX0_anew 12 = .ok (.aload_n 0, 1) := by decide +kernel
theorem dX0_anew_13 : decode cX0_anew 13 = .ok (.getfield 12, 3) := by decide +kernel
theorem dX0_anew_16 : decode cX0_anew 16 = .ok (.aload_n 1, 1) := by decide +kernel
theorem dX0_anew_17 : decode cX0_anew 17 = .ok (.iload_n 2, 1) := by decide +kernel
theorem dX0_anew_18 : decode cX0_anew 18 = .ok (.invokevirtual 24, 3) := by decide +kernel
theorem dX0_anew_21 : decode cX0_anew 21 = .ok (.aload_n 0, 1) := by decide +kernel
theorem dX0_anew_22 : decode cX0_anew 22 = .ok (.aload_n 1, 1) := by decide +kernel
theorem dX0_anew_23 : decode cX0_anew 23 = .ok (.aload_n 1, 1) := by decide +kernel
theorem dX0_anew_24 : decode cX0_anew 24 = .ok (.getfield 28, 3) := by decide +kernel
theorem dX0_anew_27 : decode cX0_anew 27 = .ok (.aload_n 1, 1) := by decide +kernel
theorem dX0_anew_28 : decode cX0_anew 28 = .ok (.iload_n 2, 1) := by decide +kernel
theorem dX0_anew_29 : decode cX0_anew 29 = .ok (.invokevirtual 63, 3) := by decide +kernel
theorem dX0_anew_32 : decode cX0_anew 32 = .ok (.iconst (-1), 1) := by decide +kernel
theorem dX0_anew_33 : decode cX0_anew 33 = .ok (.ixor, 1) := by decide +kernel
theorem dX0_anew_34 : decode cX0_anew 34 = .ok (.iand, 1) := by decide +kernel
theorem dX0_anew_35 : decode cX0_anew 35 = .ok (.invokevirtual 66, 3) := by decide +kernel
theorem dX0_anew_38 : decode cX0_anew 38 = .ok (.istore 4, 2) := by decide +kernel
theorem dX0_anew_40 : decode cX0_anew 40 = .ok (.iload 4, 2) := by decide +kernel
theorem dX0_anew_42 : decode cX0_anew 42 = .ok (.ifCond .ge 6, 3) := by decide +kernel
theorem dX0_anew_45 : decode cX0_anew 45 = .ok (.goto 22, 3) := by decide +kernel
theorem dX0_anew_48 : decode cX0_anew 48 = .ok (.iload_n 2, 1) := by decide +kernel
theorem dX0_anew_49 : decode cX0_anew 49 = .ok (.aload_n 0, 1) := by decide +kernel
theorem dX0_anew_50 : decode cX0_anew 50 = .ok (.getfield 12, 3) := by decide +kernel
theorem dX0_anew_53 : decode cX0_anew 53 = .ok (.aload_n 1, 1) := by decide +kernel
theorem dX0_anew_54 : decode cX0_anew 54 = .ok (.iload 4, 2) := by decide +kernel
theorem dX0_anew_56 : decode cX0_anew 56 = .ok (.invokevirtual 31, 3) := by decide +kernel
theorem dX0_anew_59 : decode cX0_anew 59 = .ok (.ior, 1) := by decide +kernel
theorem dX0_anew_60 : decode cX0_anew 60 = .ok (.istore_n 2, 1) := by decide +kernel
theorem dX0_anew_61 : decode cX0_anew 61 = .ok (.iinc 3 1, 3) := by decide +kernel
theorem dX0_anew_64 : decode cX0_anew 64 = .ok (.goto (-60), 3) := by decide +kernel
theorem dX0_anew_67 : decode cX0_anew 67 = .ok (.iload_n 2, 1) := by decide +kernel
theorem dX0_anew_68 : decode cX0_anew 68 = .ok (.ireturn, 1) := by decide +kernel
theorem dX0_nearest_0 : decode cX0_nearest 0 = .ok (.bipush (-9), 2) := by decide +kernel
theorem dX0_nearest_2 : decode cX0_nearest 2 = .ok (.istore_n 3, 1) := by decide +kernel
theorem dX0_nearest_3 : decode cX0_nearest 3 = .ok (.iconst 0, 1) := by decide +kernel
theorem dX0_nearest_4 : decode cX0_nearest 4 = .ok (.istore 4, 2) := by decide +kernel
theorem dX0_nearest_6 : decode cX0_nearest 6 = .ok (.iload 4, 2) := by decide +kernel
theorem dX0_nearest_8 : decode cX0_nearest 8 = .ok (.aload_n 1, 1) := by decide +kernel
theorem dX0_nearest_9 : decode cX0_nearest 9 = .ok (.getfield 60, 3) := by decide +kernel
theorem dX0_nearest_12 : decode cX0_nearest 12 = .ok (.if_icmp .ge 57, 3) := by decide +kernel
theorem dX0_nearest_15 : decode cX0_nearest 15 = .ok (.iload_n 2, 1) := by decide +kernel
theorem dX0_nearest_16 : decode cX0_nearest 16 = .ok (.iload 4, 2) := by decide +kernel
theorem dX0_nearest_18 : decode cX0_nearest 18 = .ok (.invokestatic 69, 3) := by decide +kernel
theorem dX0_nearest_21 : decode cX0_nearest 21 = .ok (.ifCond .eq 42, 3) := by decide +kernel
theorem dX0_nearest_24 : decode cX0_nearest 24 = .ok (.aload_n 0, 1) := by decide +kernel
theorem dX0_nearest_25 : decode cX0_nearest 25 = .ok (.getfield 12, 3) := by decide +kernel
theorem dX0_nearest_28 : decode cX0_nearest 28 = .ok (.iload 4, 2) := by decide +kernel
theorem dX0_nearest_30 : decode cX0_nearest 30 = .ok (.invokevirtual 73, 3) := by decide +kernel
theorem dX0_nearest_33 : decode cX0_nearest 33 = .ok (.ifCond .eq 30, 3) := by decide +kernel
theorem dX0_nearest_36 : decode cX0_nearest 36 = .ok (.iload_n 3, 1) := by decide +kernel
theorem dX0_nearest_37 : decode cX0_nearest 37 = .ok (.ifCond .lt 23, 3) := by decide +kernel
theorem dX0_nearest_40 : decode cX0_nearest 40 = .ok (.aload_n 0, 1) := by decide +kernel
theorem dX0_nearest_41 : decode cX0_nearest 41 = .ok (.getfield 12, 3) := by decide +kernel
theorem dX0_nearest_44 : decode cX0_nearest 44 = .ok (.iload 4, 2) := by decide +kernel
theorem dX0_nearest_46 : decode cX0_nearest 46 = .ok (.invokevirtual 77, 3) := by decide +kernel
theorem dX0_nearest_49 : decode cX0_nearest 49 = .ok (.aload_n 0, 1) := by decide +kernel
theorem dX0_nearest_50 : decode cX0_nearest 50 = .ok (.getfield 12, 3) := by decide +kernel
theorem dX0_nearest_53 : decode cX0_nearest 53 = .ok (.iload_n 3, 1) := by decide +kernel
theorem dX0_nearest_54 : decode cX0_nearest 54 = .ok (.invokevirtual 77, 3) := by decide +kernel
theorem dX0_nearest_57 : decode cX0_nearest 57 = .ok (.if_icmp .ge 6, 3) := by decide +kernel
theorem dX0_nearest_60 : decode cX0_nearest 60 = .ok (.iload 4, 2) := by decide +kernel
theorem dX0_nearest_62 : decode cX0_nearest 62 = .ok (.istore_n 3, 1) := by decide +kernel
theorem dX0_nearest_63 : decode cX0_nearest 63 = .ok (.iinc 4 1, 3) := by decide +kernel
theorem dX0_nearest_66 : decode cX0_nearest 66 = .ok (.goto (-60), 3) := by decide +kernel
theorem dX0_nearest_69 : decode cX0_nearest 69 = .ok (.iload_n 3, 1) := by decide +kernel
theorem dX0_nearest_70 : decode cX0_nearest 70 = .ok (.ireturn, 1) := by decide +kernel
theorem dX0_cut_0 : decode cX0_cut 0 = .ok (.aload_n 1, 1) := by decide +kernel
theorem dX0_cut_1 : decode cX0_cut 1 = .ok (.dup, 1) := by decide +kernel
theorem dX0_cut_2 : decode cX0_cut 2 = .ok (.getfield 80, 3) := by decide +kernel
theorem dX0_cut_5 : decode cX0_cut 5 = .ok (.iconst 1, 1) := by decide +kernel
theorem dX0_cut_6 : decode cX0_cut 6 = .ok (.iload_n 2, 1) := by decide +kernel
theorem dX0_cut_7 : decode cX0_cut 7 = .ok (.ishl, 1) := by decide +kernel
theorem dX0_cut_8 : decode cX0_cut 8 = .ok (.ior, 1) := by decide +kernel
theorem dX0_cut_9 : decode cX0_cut 9 = .ok (.putfield 80, 3) := by decide +kernel
theorem dX0_cut_12 : decode cX0_cut 12 = .ok (.aload_n 1, 1) := by decide +kernel
theorem dX0_cut_13 : decode cX0_cut 13 = .ok (.getfield 18, 3) := by decide +kernel
theorem dX0_cut_16 : decode cX0_cut 16 = .ok (.iload_n 2, 1) := by decide +kernel
theorem dX0_cut_17 : decode cX0_cut 17 = .ok (.invokestatic 69, 3) := by decide +kernel
theorem dX0_cut_20 : decode cX0_cut 20 = .ok (.ifCond .ne 5, 3) := by decide +kernel
theorem dX0_cut_23 : decode cX0_cut 23 = .ok (.iconst 0, 1) := by decide +kernel
theorem dX0_cut_24 : decode cX0_cut 24 = .ok (.ireturn, 1) := by decide +kernel
theorem dX0_cut_25 : decode cX0_cut 25 = .ok (.aload_n 1, 1) := by decide +kernel
theorem dX0_cut_26 : decode cX0_cut 26 = .ok (.getfield 28, 3) := by decide +kernel
theorem dX0_cut_29 : decode cX0_cut 29 = .ok (.invokestatic 83, 3) := by decide +kernel
theorem dX0_cut_32 : decode cX0_cut 32 = .ok (.istore_n 3, 1) := by decide +kernel
theorem dX0_cut_33 : decode cX0_cut 33 = .ok (.aload_n 1, 1) := by decide +kernel
theorem dX0_cut_34 : decode cX0_cut 34 = .ok (.aload_n 1, 1) := by decide +kernel
theorem dX0_cut_35 : decode cX0_cut 35 = .ok (.getfield 18, 3) := by decide +kernel
theorem dX0_cut_38 : decode cX0_cut 38 = .ok (.iconst 1, 1) := by decide +kernel
theorem dX0_cut_39 : decode cX0_cut 39 = .ok (.iload_n 2, 1) := by decide +kernel
theorem dX0_cut_40 : decode cX0_cut 40 = .ok (.ishl, 1) := by decide +kernel
theorem dX0_cut_41 : decode cX0_cut 41 = .ok (.iconst (-1), 1) := by decide +kernel
theorem dX0_cut_42 : decode cX0_cut 42 = .ok (.ixor, 1) := by decide +kernel
theorem dX0_cut_43 : decode cX0_cut 43 = .ok (.iand, 1) := by decide +kernel
theorem dX0_cut_44 : decode cX0_cut 44 = .ok (.invokestatic 88, 3) := by decide +kernel
theorem dX0_cut_47 : decode cX0_cut 47 = .ok (.aload_n 0, 1) := by decide +kernel
theorem dX0_cut_48 : decode cX0_cut 48 = .ok (.aload_n 1, 1) := by decide +kernel
theorem dX0_cut_49 : decode cX0_cut 49 = .ok (.invokevirtual 91, 3) := by decide +kernel
theorem dX0_cut_52 : decode cX0_cut 52 = .ok (.aload_n 1, 1) := by decide +kernel
theorem dX0_cut_53 : decode cX0_cut 53 = .ok (.invokevirtual 35, 3) := by decide +kernel
theorem dX0_cut_56 : decode cX0_cut 56 = .ok (.iload_n 3, 1) := by decide +kernel
theorem dX0_cut_57 : decode cX0_cut 57 = .ok (.aload_n 1, 1) := by decide +kernel
theorem dX0_cut_58 : decode cX0_cut 58 = .ok (.getfield 28, 3) := by decide +kernel
theorem dX0_cut_61 : decode cX0_cut 61 = .ok (.invokestatic 83, 3) := by decide +kernel
theorem dX0_cut_64 : decode cX0_cut 64 = .ok (.isub, 1) := by decide +kernel
theorem dX0_cut_65 : decode cX0_cut 65 = .ok (.ireturn, 1) := by decide +kernel
theorem dX0_keepHanging_0 : decode cX0_keepHanging 0 = .ok (.aload_n 0, 1) := by decide +kernel
theorem dX0_keepHanging_1 : decode cX0_keepHanging 1 = .ok (.iload_n 1, 1) := by decide +kernel
theorem dX0_keepHanging_2 : decode cX0_keepHanging 2 = .ok (.invokevirtual 94, 3) := by decide +kernel
theorem dX0_keepHanging_5 : decode cX0_keepHanging 5 = .ok (.istore_n 2, 1) := by decide +kernel
theorem dX0_keepHanging_6 : decode cX0_keepHanging 6 = .ok (.aload_n 0, 1) := by decide +kernel
theorem dX0_keepHanging_7 : decode cX0_keepHanging 7 = .ok (.iconst 0, 1) := by decide +kernel
theorem dX0_keepHanging_8 : decode cX0_keepHanging 8 = .ok (.putfield 18, 3) := by decide +kernel
theorem dX0_keepHanging_11 : decode cX0_keepHanging 11 = .ok (.iconst 0, 1) := by decide +kernel
theorem dX0_keepHanging_12 : decode cX0_keepHanging 12 = .ok (.istore_n 3, 1) := by decide +kernel
theorem dX0_keepHanging_13 : decode cX0_keepHanging 13 = .ok (.iload_n 3, 1) := by decide +kernel
theorem dX0_keepHanging_14 : decode cX0_keepHanging 14 = .ok (.aload_n 0, 1) := by decide +kernel
theorem dX0_keepHanging_15 : decode cX0_keepHanging 15 = .ok (.getfield 97, 3) := by decide +kernel
theorem dX0_keepHanging_18 : decode cX0_keepHanging 18 = .ok (.if_icmp .ge 39, 3) := by decide +kernel
theorem dX0_keepHanging_21 : decode cX0_keepHanging 21 = .ok (.iload_n 1, 1) := by decide +kernel
theorem dX0_keepHanging_22 : decode cX0_keepHanging 22 = .ok (.iload_n 3, 1) := by decide +kernel
theorem dX0_keepHanging_23 : decode cX0_keepHanging 23 = .ok (.invokestatic 69, 3) := by decide +kernel
theorem dX0_keepHanging_26 : decode cX0_keepHanging 26 = .ok (.ifCond .eq 25, 3) := by decide +kernel
theorem dX0_keepHanging_29 : decode cX0_keepHanging 29 = .ok (.aload_n 0, 1) := by decide +kernel
theorem dX0_keepHanging_30 : decode cX0_keepHanging 30 = .ok (.iload_n 3, 1) := by decide +kernel
theorem dX0_keepHanging_31 : decode cX0_keepHanging 31 = .ok (.invokevirtual 100, 3) := by decide +kernel
theorem dX0_keepHanging_34 : decode cX0_keepHanging 34 = .ok (.iload_n 2, 1) := by decide +kernel
theorem dX0_keepHanging_35 : decode cX0_keepHanging 35 = .ok (.iand, 1) := by decide +kernel
theorem dX0_keepHanging_36 : decode cX0_keepHanging 36 = .ok (.ifCond .eq 15, 3) := by decide +kernel
theorem dX0_keepHanging_39 : decode cX0_keepHanging 39 = .ok (.aload_n 0, 1) := by decide +kernel
theorem dX0_keepHanging_40 : decode cX0_keepHanging 40 = .ok (.dup, 1) := by decide +kernel
theorem dX0_keepHanging_41 : decode cX0_keepHanging 41 = .ok (.getfield 18, 3) := by decide +kernel
theorem dX0_keepHanging_44 : decode cX0_keepHanging 44 = .ok (.iconst 1, 1) := by decide +kernel
theorem dX0_keepHanging_45 : decode cX0_keepHanging 45 = .ok (.iload_n 3, 1) := by decide +kernel
theorem dX0_keepHanging_46 : decode cX0_keepHanging 46 = .ok (.ishl, 1) := by decide +kernel
theorem dX0_keepHanging_47 : decode cX0_keepHanging 47 = .ok (.ior, 1) := by decide +kernel
theorem dX0_keepHanging_48 : decode cX0_keepHanging 48 = .ok (.putfield 18, 3) := by decide +kernel
theorem dX0_keepHanging_51 : decode cX0_keepHanging 51 = .ok (.iinc 3 1, 3) := by decide +kernel
theorem dX0_keepHanging_54 : decode cX0_keepHanging 54 = .ok (.goto (-41), 3) := by decide +kernel
theorem dX0_keepHanging_57 : decode cX0_keepHanging 57 = .ok (.return_, 1) := by decide +kernel
theorem dX0_joinAgain_0 : decode cX0_joinAgain 0 = .ok (.iconst 0, 1) := by decide +kernel
theorem dX0_joinAgain_1 : decode cX0_joinAgain 1 = .ok (.istore_n 2, 1) := by decide +kernel
theorem dX0_joinAgain_2 : decode cX0_joinAgain 2 = .ok (.iload_n 2, 1) := by decide +kernel
theorem dX0_joinAgain_3 : decode cX0_joinAgain 3 = .ok (.aload_n 1, 1) := by decide +kernel
theorem dX0_joinAgain_4 : decode cX0_joinAgain 4 = .ok (.getfield 60, 3) := by decide +kernel
theorem dX0_joinAgain_7 : decode cX0_joinAgain 7 = .ok (.if_icmp .ge 72, 3) := by decide +kernel
theorem dX0_joinAgain_10 : decode cX0_joinAgain 10 = .ok (.aload_n 1, 1) := by decide +kernel
theorem dX0_joinAgain_11 : decode cX0_joinAgain 11 = .ok (.iload_n 2, 1) := by decide +kernel
theorem dX0_joinAgain_12 : decode cX0_joinAgain 12 = .ok (.invokevirtual 103, 3) := by decide +kernel
theorem dX0_joinAgain_15 : decode cX0_joinAgain 15 = .ok (.ifCond .eq 58, 3) := by decide +kernel
theorem dX0_joinAgain_18 : decode cX0_joinAgain 18 = .ok (.aload_n 0, 1) := by decide +kernel
theorem dX0_joinAgain_19 : decode cX0_joinAgain 19 = .ok (.getfield 12, 3) := by decide +kernel
theorem dX0_joinAgain_22 : decode cX0_joinAgain 22 = .ok (.aload_n 1, 1) := by decide +kernel
theorem dX0_joinAgain_23 : decode cX0_joinAgain 23 = .ok (.aload_n 1, 1) := by decide +kernel
theorem dX0_joinAgain_24 : decode cX0_joinAgain 24 = .ok (.getfield 18, 3) := by decide +kernel
theorem dX0_joinAgain_27 : decode cX0_joinAgain 27 = .ok (.invokevirtual 24, 3) := by decide +kernel
theorem dX0_joinAgain_30 : decode cX0_joinAgain 30 = .ok (.aload_n 1, 1) := by decide +kernel
theorem dX0_joinAgain_31 : decode cX0_joinAgain 31 = .ok (.dup, 1) := by decide +kernel
theorem dX0_joinAgain_32 : decode cX0_joinAgain 32 = .ok (.getfield 18, 3) := by decide +kernel
theorem dX0_joinAgain_35 : decode cX0_joinAgain 35 = .ok (.aload_n 0, 1) := by decide +kernel
theorem dX0_joinAgain_36 : decode cX0_joinAgain 36 = .ok (.getfield 12, 3) := by decide +kernel
theorem dX0_joinAgain_39 : decode cX0_joinAgain 39 = .ok (.aload_n 1, 1) := by decide +kernel
theorem dX0_joinAgain_40 : decode cX0_joinAgain 40 = .ok (.iload_n 2, 1) := by decide +kernel
theorem dX0_joinAgain_41 : decode cX0_joinAgain 41 = .ok (.invokevirtual 31, 3) := by decide +kernel
theorem dX0_joinAgain_44 : decode cX0_joinAgain 44 = .ok (.ior, 1) := by decide +kernel
theorem dX0_joinAgain_45 : decode cX0_joinAgain 45 = .ok (.putfield 18, 3) := by decide +kernel
theorem dX0_joinAgain_48 : decode cX0_joinAgain 48 = .ok (.aload_n 0, 1) := by decide +kernel
theorem dX0_joinAgain_49 : decode cX0_joinAgain 49 = .ok (.getfield 12, 3) := by decide +kernel
theorem dX0_joinAgain_52 : decode cX0_joinAgain 52 = .ok (.iload_n 2, 1) := by decide +kernel
theorem dX0_joinAgain_53 : decode cX0_joinAgain 53 = .ok (.invokevirtual 73, 3) := by decide +kernel
theorem dX0_joinAgain_56 : decode cX0_joinAgain 56 = .ok (.ifCond .ne 17, 3) := by decide +kernel
theorem dX0_joinAgain_59 : decode cX0_joinAgain 59 = .ok (.aload_n 1, 1) := by decide +kernel
theorem dX0_joinAgain_60 : decode cX0_joinAgain 60 = .ok (.dup, 1) := by decide +kernel
theorem dX0_joinAgain_61 : decode cX0_joinAgain 61 = .ok (.getfield 28, 3) := by decide +kernel
theorem dX0_joinAgain_64 : decode cX0_joinAgain 64 = .ok (.iconst 1, 1) := by decide +kernel
theorem dX0_joinAgain_65 : decode cX0_joinAgain 65 = .ok (.iload_n 2, 1) := by decide +kernel
theorem dX0_joinAgain_66 : decode cX0_joinAgain 66 = .ok (.ishl, 1) := by decide +kernel
theorem dX0_joinAgain_67 : decode cX0_joinAgain 67 = .ok (.iconst (-1), 1) := by decide +kernel
theorem dX0_joinAgain_68 : decode cX0_joinAgain 68 = .ok (.ixor, 1) := by decide +kernel
theorem dX0_joinAgain_69 : decode cX0_joinAgain 69 = .ok (.iand, 1) := by decide +kernel
theorem dX0_joinAgain_70 : decode cX0_joinAgain 70 = .ok (.putfield 28, 3) := by decide +kernel
theorem dX0_joinAgain_73 : decode cX0_joinAgain 73 = .ok (.iinc 2 1, 3) := by decide +kernel
theorem dX0_joinAgain_76 : decode cX0_joinAgain 76 = .ok (.goto (-74), 3) := by decide +kernel
theorem dX0_joinAgain_79 : decode cX0_joinAgain 79 = .ok (.return_, 1) := by decide +kernel
theorem dX1_of_0 : decode cX1_of 0 = .ok (.aload_n 0, 1) := by decide +kernel
theorem dX1_of_1 : decode cX1_of 1 = .ok (.getfield 9, 3) := by decide +kernel
theorem dX1_of_4 : decode cX1_of 4 = .ok (.iconst 1, 1) := by decide +kernel
theorem dX1_of_5 : decode cX1_of 5 = .ok (.aload_n 0, 1) := by decide +kernel
theorem dX1_of_6 : decode cX1_of 6 = .ok (.getfield 15, 3) := by decide +kernel
theorem dX1_of_9 : decode cX1_of 9 = .ok (.ishl, 1) := by decide +kernel
theorem dX1_of_10 : decode cX1_of 10 = .ok (.ior, 1) := by decide +kernel
theorem dX1_of_11 : decode cX1_of 11 = .ok (.istore_n 1, 1) := by decide +kernel
theorem dX1_of_12 : decode cX1_of 12 = .ok (.aload_n 0, 1) := by decide +kernel
theorem dX1_of_13 : decode cX1_of 13 = .ok (.getfield 18, 3) := by decide +kernel
theorem dX1_of_16 : decode cX1_of 16 = .ok (.istore_n 2, 1) := by decide +kernel
theorem dX1_of_17 : decode cX1_of 17 = .ok (.iload_n 1, 1) := by decide +kernel
theorem dX1_of_18 : decode cX1_of 18 = .ok (.istore_n 3, 1) := by decide +kernel
theorem dX1_of_19 : decode cX1_of 19 = .ok (.iload_n 3, 1) := by decide +kernel
theorem dX1_of_20 : decode cX1_of 20 = .ok (.iconst 1, 1) := by decide +kernel
theorem dX1_of_21 : decode cX1_of 21 = .ok (.aload_n 0, 1) := by decide +kernel
theorem dX1_of_22 : decode cX1_of 22 = .ok (.getfield 21, 3) := by decide +kernel
theorem dX1_of_25 : decode cX1_of 25 = .ok (.ishl, 1) := by decide +kernel
theorem dX1_of_26 : decode cX1_of 26 = .ok (.if_icmp .ge 46, 3) := by decide +kernel
theorem dX1_of_29 : decode cX1_of 29 = .ok (.iload_n 3, 1) := by decide +kernel
theorem dX1_of_30 : decode cX1_of 30 = .ok (.iload_n 1, 1) := by decide +kernel
theorem dX1_of_31 : decode cX1_of 31 = .ok (.iand, 1) := by decide +kernel
theorem dX1_of_32 : decode cX1_of 32 = .ok (.iload_n 1, 1) := by decide +kernel
theorem dX1_of_33 : decode cX1_of 33 = .ok (.if_icmp .ne 33, 3) := by decide +kernel
theorem dX1_of_36 : decode cX1_of 36 = .ok (.aload_n 0, 1) := by decide +kernel
theorem dX1_of_37 : decode cX1_of 37 = .ok (.iload_n 3, 1) := by decide +kernel
theorem dX1_of_38 : decode cX1_of 38 = .ok (.invokestatic 24, 3) := by decide +kernel
theorem dX1_of_41 : decode cX1_of 41 = .ok (.istore 4, 2) := by decide +kernel
theorem dX1_of_43 : decode cX1_of 43 = .ok (.aload_n 0, 1) := by decide +kernel
theorem dX1_of_44 : decode cX1_of 44 = .ok (.iload 4, 2) := by decide +kernel
theorem dX1_of_46 : decode cX1_of 46 = .ok (.invokevirtual 30, 3) := by decide +kernel
theorem dX1_of_49 : decode cX1_of 49 = .ok (.iload_n 3, 1) := by decide +kernel
theorem dX1_of_50 : decode cX1_of 50 = .ok (.if_icmp .ne 16, 3) := by decide +kernel
theorem dX1_of_53 : decode cX1_of 53 = .ok (.aload_n 0, 1) := by decide +kernel
theorem dX1_of_54 : decode cX1_of 54 = .ok (.iload 4, 2) := by decide +kernel
theorem dX1_of_56 : decode cX1_of 56 = .ok (.iload_n 2, 1) := by decide +kernel
theorem dX1_of_57 : decode cX1_of 57 = .ok (.invokestatic 34, 3) := by decide +kernel
theorem dX1_of_60 : decode cX1_of 60 = .ok (.ifCond .eq 6, 3) := by decide +kernel
theorem dX1_of_63 : decode cX1_of 63 = .ok (.iload 4, 2) := by decide +kernel
theorem dX1_of_65 : decode cX1_of 65 = .ok (.istore_n 2, 1) := by decide +kernel
theorem dX1_of_66 : decode cX1_of 66 = .ok (.iinc 3 1, 3) := by decide +kernel
theorem dX1_of_69 : decode cX1_of 69 = .ok (.goto (-50), 3) := by decide +kernel
theorem dX1_of_72 : decode cX1_of 72 = .ok (.iload_n 2, 1) := by decide +kernel
theorem dX1_of_73 : decode cX1_of 73 = .ok (.ireturn, 1) := by decide +kernel
theorem dX1_isLess_0 : decode cX1_isLess 0 = .ok (.aload_n 0, 1) := by decide +kernel
theorem dX1_isLess_1 : decode cX1_isLess 1 = .ok (.iload_n 1, 1) := by decide +kernel
theorem dX1_isLess_2 : decode cX1_isLess 2 = .ok (.invokevirtual 38, 3) := by decide +kernel
theorem dX1_isLess_5 : decode cX1_isLess 5 = .ok (.aload_n 0, 1) := by decide +kernel
theorem dX1_isLess_6 : decode cX1_isLess 6 = .ok (.iload_n 2, 1) := by decide +kernel
theorem dX1_isLess_7 : decode cX1_isLess 7 = .ok (.invokevirtual 38, 3) := by decide +kernel
theorem dX1_isLess_10 : decode cX1_isLess 10 = .ok (.isub, 1) := by decide +kernel
theorem dX1_isLess_11 : decode cX1_isLess 11 = .ok (.istore_n 3, 1) := by decide +kernel
theorem dX1_isLess_12 : decode cX1_isLess 12 = .ok (.iload_n 3, 1) := by decide +kernel
theorem dX1_isLess_13 : decode cX1_isLess 13 = .ok (.ifCond .lt 12, 3) := by decide +kernel
theorem dX1_isLess_16 : decode cX1_isLess 16 = .ok (.iload_n 3, 1) := by decide +kernel
theorem dX1_isLess_17 : decode cX1_isLess 17 = .ok (.ifCond .ne 12, 3) := by decide +kernel
theorem dX1_isLess_20 : decode cX1_isLess 20 = .ok (.iload_n 1, 1) := by decide +kernel
theorem dX1_isLess_21 : decode cX1_isLess 21 = .ok (.iload_n 2, 1) := by decide +kernel
theorem dX1_isLess_22 : decode cX1_isLess 22 = .ok (.if_icmp .ge 7, 3) := by decide +kernel
theorem dX1_isLess_25 : decode cX1_isLess 25 = .ok (.iconst 1, 1) := by decide +kernel
theorem dX1_isLess_26 : decode cX1_isLess 26 = .ok (.goto 4, 3) := by decide +kernel
theorem dX1_isLess_29 : decode cX1_isLess 29 = .ok (.iconst 0, 1) := by decide +kernel
theorem dX1_isLess_30 : decode cX1_isLess 30 = .ok (.ireturn, 1) := by decide +kernel
theorem dX1_grow_0 : decode cX1_grow 0 = .ok (.iconst 0, 1) := by decide +kernel
theorem dX1_grow_1 : decode cX1_grow 1 = .ok (.istore_n 2, 1) := by decide +kernel
theorem dX1_grow_2 : decode cX1_grow 2 = .ok (.iconst 1, 1) := by decide +kernel
theorem dX1_grow_3 : decode cX1_grow 3 = .ok (.aload_n 0, 1) := by decide +kernel
theorem dX1_grow_4 : decode cX1_grow 4 = .ok (.getfield 15, 3) := by decide +kernel
theorem dX1_grow_7 : decode cX1_grow 7 = .ok (.ishl, 1) := by decide +kernel
theorem dX1_grow_8 : decode cX1_grow 8 = .ok (.istore_n 3, 1) := by decide +kernel
theorem dX1_grow_9 : decode cX1_grow 9 = .ok (.iconst 1, 1) := by decide +kernel
theorem dX1_grow_10 : decode cX1_grow 10 = .ok (.istore 4, 2) := by decide +kernel
theorem dX1_grow_12 : decode cX1_grow 12 = .ok (.iload 4, 2) := by decide +kernel
theorem dX1_grow_14 : decode cX1_grow 14 = .ok (.aload_n 0, 1) := by decide +kernel
theorem dX1_grow_15 : decode cX1_grow 15 = .ok (.getfield 21, 3) := by decide +kernel
theorem dX1_grow_18 : decode cX1_grow 18 = .ok (.if_icmp .ge 45, 3) := by decide +kernel
theorem dX1_grow_21 : decode cX1_grow 21 = .ok (.aload_n 0, 1) := by decide +kernel
theorem dX1_grow_22 : decode cX1_grow 22 = .ok (.iload_n 3, 1) := by decide +kernel
theorem dX1_grow_23 : decode cX1_grow 23 = .ok (.iload_n 1, 1) := by decide +kernel
theorem dX1_grow_24 : decode cX1_grow 24 = .ok (.iload_n 3, 1) := by decide +kernel
theorem dX1_grow_25 : decode cX1_grow 25 = .ok (.iconst (-1), 1) := by decide +kernel
theorem dX1_grow_26 : decode cX1_grow 26 = .ok (.ixor, 1) := by decide +kernel
theorem dX1_grow_27 : decode cX1_grow 27 = .ok (.iand, 1) := by decide +kernel
theorem dX1_grow_28 : decode cX1_grow 28 = .ok (.invokestatic 41, 3) := by decide +kernel
theorem dX1_grow_31 : decode cX1_grow 31 = .ok (.istore 5, 2) := by decide +kernel
theorem dX1_grow_33 : decode cX1_grow 33 = .ok (.iload 5, 2) := by decide +kernel
theorem dX1_grow_35 : decode cX1_grow 35 = .ok (.ifCond .ge 6, 3) := by decide +kernel
theorem dX1_grow_38 : decode cX1_grow 38 = .ok (.goto 25, 3) := by decide +kernel
theorem dX1_grow_41 : decode cX1_grow 41 = .ok (.iload_n 2, 1) := by decide +kernel
theorem dX1_grow_42 : decode cX1_grow 42 = .ok (.iconst 1, 1) := by decide +kernel
theorem dX1_grow_43 : decode cX1_grow 43 = .ok (.iload 5, 2) := by decide +kernel
theorem dX1_grow_45 : decode cX1_grow 45 = .ok (.ishl, 1) := by decide +kernel
theorem dX1_grow_46 : decode cX1_grow 46 = .ok (.ior, 1) := by decide +kernel
theorem dX1_grow_47 : decode cX1_grow 47 = .ok (.istore_n 2, 1) := by decide +kernel
theorem dX1_grow_48 : decode cX1_grow 48 = .ok (.iload_n 3, 1) := by decide +kernel
theorem dX1_grow_49 : decode cX1_grow 49 = .ok (.aload_n 0, 1) := by decide +kernel
theorem dX1_grow_50 : decode cX1_grow 50 = .ok (.iload 5, 2) := by decide +kernel
theorem dX1_grow_52 : decode cX1_grow 52 = .ok (.invokevirtual 45, 3) := by decide +kernel
theorem dX1_grow_55 : decode cX1_grow 55 = .ok (.ior, 1) := by decide +kernel
theorem dX1_grow_56 : decode cX1_grow 56 = .ok (.istore_n 3, 1) := by decide +kernel
theorem dX1_grow_57 : decode cX1_grow 57 = .ok (.iinc 4 1, 3) := by decide +kernel
theorem dX1_grow_60 : decode cX1_grow 60 = .ok (.goto (-48), 3) := by decide +kernel
theorem dX1_grow_63 : decode cX1_grow 63 = .ok (.iload_n 2, 1) := by decide +kernel
theorem dX1_grow_64 : decode cX1_grow 64 = .ok (.ireturn, 1) := by decide +kernel
theorem dX1_cheapestOn_0 : decode cX1_cheapestOn 0 = .ok (.bipush (-9), 2) := by decide +kernel
theorem dX1_cheapestOn_2 : decode cX1_cheapestOn 2 = .ok (.istore_n 3, 1) := by decide +kernel
theorem dX1_cheapestOn_3 : decode cX1_cheapestOn 3 = .ok (.aload_n 0, 1) := by decide +kernel
theorem dX1_cheapestOn_4 : decode cX1_cheapestOn 4 = .ok (.invokevirtual 48, 3) := by decide +kernel
theorem dX1_cheapestOn_7 : decode cX1_cheapestOn 7 = .ok (.istore 4, 2) := by decide +kernel
theorem dX1_cheapestOn_9 : decode cX1_cheapestOn 9 = .ok (.iconst 0, 1) := by decide +kernel
theorem dX1_cheapestOn_10 : decode cX1_cheapestOn 10 = .ok (.istore 5, 2) := by decide +kernel
theorem dX1_cheapestOn_12 : decode cX1_cheapestOn 12 = .ok (.iload 5, 2) := by decide +kernel
theorem dX1_cheapestOn_14 : decode cX1_cheapestOn 14 = .ok (.aload_n 0, 1) := by decide +kernel
theorem dX1_cheapestOn_15 : decode cX1_cheapestOn 15 = .ok (.getfield 52, 3) := by decide +kernel
theorem dX1_cheapestOn_18 : decode cX1_cheapestOn 18 = .ok (.if_icmp .ge 76, 3) := by decide +kernel
theorem dX1_cheapestOn_21 : decode cX1_cheapestOn 21 = .ok (.aload_n 0, 1) := by decide +kernel
theorem dX1_cheapestOn_22 : decode cX1_cheapestOn 22 = .ok (.iload 5, 2) := by decide +kernel
theorem dX1_cheapestOn_24 : decode cX1_cheapestOn 24 = .ok (.invokevirtual 45, 3) := by decide +kernel
theorem dX1_cheapestOn_27 : decode cX1_cheapestOn 27 = .ok (.istore 6, 2) := by decide +kernel
theorem dX1_cheapestOn_29 : decode cX1_cheapestOn 29 = .ok (.iload 4, 2) := by decide +kernel
theorem dX1_cheapestOn_31 : decode cX1_cheapestOn 31 = .ok (.iload 5, 2) := by decide +kernel
theorem dX1_cheapestOn_33 : decode cX1_cheapestOn 33 = .ok (.invokestatic 55, 3) := by decide +kernel
theorem dX1_cheapestOn_36 : decode cX1_cheapestOn 36 = .ok (.ifCond .eq 21, 3) := by decide +kernel
theorem dX1_cheapestOn_39 : decode cX1_cheapestOn 39 = .ok (.iload 6, 2) := by decide +kernel
theorem dX1_cheapestOn_41 : decode cX1_cheapestOn 41 = .ok (.iload_n 1, 1) := by decide +kernel
theorem dX1_cheapestOn_42 : decode cX1_cheapestOn 42 = .ok (.iand, 1) := by decide +kernel
theorem dX1_cheapestOn_43 : decode cX1_cheapestOn 43 = .ok (.ifCond .eq 14, 3) := by decide +kernel
theorem dX1_cheapestOn_46 : decode cX1_cheapestOn 46 = .ok (.iload 6, 2) := by decide +kernel
theorem dX1_cheapestOn_48 : decode cX1_cheapestOn 48 = .ok (.iload_n 2, 1) := by decide +kernel
theorem dX1_cheapestOn_49 : decode cX1_cheapestOn 49 = .ok (.iand, 1) := by decide +kernel
theorem dX1_cheapestOn_50 : decode cX1_cheapestOn 50 = .ok (.ifCond .eq 7, 3) := by decide +kernel
theorem dX1_cheapestOn_53 : decode cX1_cheapestOn 53 = .ok (.iconst 1, 1) := by decide +kernel
theorem dX1_cheapestOn_54 : decode cX1_cheapestOn 54 = .ok (.goto 4, 3) := by decide +kernel
theorem dX1_cheapestOn_57 : decode cX1_cheapestOn 57 = .ok (.iconst 0, 1) := by decide +kernel
theorem dX1_cheapestOn_58 : decode cX1_cheapestOn 58 = .ok (.istore 7, 2) := by decide +kernel
theorem dX1_cheapestOn_60 : decode cX1_cheapestOn 60 = .ok (.iload 7, 2) := by decide +kernel
theorem dX1_cheapestOn_62 : decode cX1_cheapestOn 62 = .ok (.ifCond .eq 26, 3) := by decide +kernel
theorem dX1_cheapestOn_65 : decode cX1_cheapestOn 65 = .ok (.iload_n 3, 1) := by decide +kernel
theorem dX1_cheapestOn_66 : decode cX1_cheapestOn 66 = .ok (.ifCond .lt 19, 3) := by decide +kernel
theorem dX1_cheapestOn_69 : decode cX1_cheapestOn 69 = .ok (.aload_n 0, 1) := by decide +kernel
theorem dX1_cheapestOn_70 : decode cX1_cheapestOn 70 = .ok (.getfield 59, 3) := by decide +kernel
theorem dX1_cheapestOn_73 : decode cX1_cheapestOn 73 = .ok (.iload 5, 2) := by decide +kernel
theorem dX1_cheapestOn_75 : decode cX1_cheapestOn 75 = .ok (.iaload, 1) := by decide +kernel
theorem dX1_cheapestOn_76 : decode cX1_cheapestOn 76 = .ok (.aload_n 0, 1) := by decide +kernel
theorem dX1_cheapestOn_77 : decode cX1_cheapestOn 77 = .ok (.getfield 59, 3) := by decide +kernel
theorem dX1_cheapestOn_80 : decode cX1_cheapestOn 80 = .ok (.iload_n 3, 1) := by decide +kernel
theorem dX1_cheapestOn_81 : decode cX1_cheapestOn 81 = .ok (.iaload, 1) := by decide +kernel
theorem dX1_cheapestOn_82 : decode cX1_cheapestOn 82 = .ok (.if_icmp .ge 6, 3) := by decide +kernel
theorem dX1_cheapestOn_85 : decode cX1_cheapestOn 85 = .ok (.iload 5, 2) := by decide +kernel
theorem dX1_cheapestOn_87 : decode cX1_cheapestOn 87 = .ok (.istore_n 3, 1) := by decide +kernel
theorem dX1_cheapestOn_88 : decode cX1_cheapestOn 88 = .ok (.iinc 5 1, 3) := by decide +kernel
theorem dX1_cheapestOn_91 : decode cX1_cheapestOn 91 = .ok (.goto (-79), 3) := by decide +kernel
theorem dX1_cheapestOn_94 : decode cX1_cheapestOn 94 = .ok (.iload_n 3, 1) := by decide +kernel
theorem dX1_cheapestOn_95 : decode cX1_cheapestOn 95 = .ok (.ireturn, 1) := by decide +kernel
theorem dX2_init_0 : decode cX2_init 0 = .ok (.aload_n 0, 1) := by decide +kernel
theorem dX2_init_1 : decode cX2_init 1 = .ok (.invokespecial 3, 3) := by decide +kernel
theorem dX2_init_4 : decode cX2_init 4 = .ok (.aload_n 0, 1) := by decide +kernel
theorem dX2_init_5 : decode cX2_init 5 = .ok (.bipush 6, 2) := by decide +kernel
theorem dX2_init_7 : decode cX2_init 7 = .ok (.anewarray 9, 3) := by decide +kernel
theorem dX2_init_10 : decode cX2_init 10 = .ok (.putfield 11, 3) := by decide +kernel
theorem dX2_init_13 : decode cX2_init 13 = .ok (.iconst 0, 1) := by decide +kernel
theorem dX2_init_14 : decode cX2_init 14 = .ok (.istore_n 1, 1) := by decide +kernel
theorem dX2_init_15 : decode cX2_init 15 = .ok (.iload_n 1, 1) := by decide +kernel
theorem dX2_init_16 : decode cX2_init 16 = .ok (.bipush 6, 2) := by decide +kernel
theorem dX2_init_18 : decode cX2_init 18 = .ok (.if_icmp .ge 22, 3) := by decide +kernel
theorem dX2_init_21 : decode cX2_init 21 = .ok (.aload_n 0, 1) := by decide +kernel
theorem dX2_init_22 : decode cX2_init 22 = .ok (.getfield 11, 3) := by decide +kernel
theorem dX2_init_25 : decode cX2_init 25 = .ok (.iload_n 1, 1) := by decide +kernel
theorem dX2_init_26 : decode cX2_init 26 = .ok (.new 9, 3) := by decide +kernel
theorem dX2_init_29 : decode cX2_init 29 = .ok (.dup, 1) := by decide +kernel
theorem dX2_init_30 : decode cX2_init 30 = .ok (.invokespecial 17, 3) := by decide +kernel
theorem dX2_init_33 : decode cX2_init 33 = .ok (.aastore, 1) := by decide +kernel
theorem dX2_init_34 : decode cX2_init 34 = .ok (.iinc 1 1, 3) := by decide +kernel
theorem dX2_init_37 : decode cX2_init 37 = .ok (.goto (-22), 3) := by decide +kernel
theorem dX2_init_40 : decode cX2_init 40 = .ok (.return_, 1) := by decide +kernel
theorem dX2_remember_0 : decode cX2_remember 0 = .ok (.aload_n 0, 1) := by decide +kernel
theorem dX2_remember_1 : decode cX2_remember 1 = .ok (.getfield 11, 3) := by decide +kernel
theorem dX2_remember_4 : decode cX2_remember 4 = .ok (.aload_n 0, 1) := by decide +kernel
theorem dX2_remember_5 : decode cX2_remember 5 = .ok (.getfield 18, 3) := by decide +kernel
theorem dX2_remember_8 : decode cX2_remember 8 = .ok (.aaload, 1) := by decide +kernel
theorem dX2_remember_9 : decode cX2_remember 9 = .ok (.aload_n 1, 1) := by decide +kernel
theorem dX2_remember_10 : decode cX2_remember 10 = .ok (.invokevirtual 22, 3) := by decide +kernel
theorem dX2_remember_13 : decode cX2_remember 13 = .ok (.aload_n 0, 1) := by decide +kernel
theorem dX2_remember_14 : decode cX2_remember 14 = .ok (.aload_n 0, 1) := by decide +kernel
theorem dX2_remember_15 : decode cX2_remember 15 = .ok (.getfield 18, 3) := by decide +kernel
theorem dX2_remember_18 : decode cX2_remember 18 = .ok (.iconst 1, 1) := by decide +kernel
theorem dX2_remember_19 : decode cX2_remember 19 = .ok (.iadd, 1) := by decide +kernel
theorem dX2_remember_20 : decode cX2_remember 20 = .ok (.bipush 6, 2) := by decide +kernel
theorem dX2_remember_22 : decode cX2_remember 22 = .ok (.irem, 1) := by decide +kernel
theorem dX2_remember_23 : decode cX2_remember 23 = .ok (.putfield 18, 3) := by decide +kernel
theorem dX2_remember_26 : decode cX2_remember 26 = .ok (.aload_n 0, 1) := by decide +kernel
theorem dX2_remember_27 : decode cX2_remember 27 = .ok (.aload_n 0, 1) := by decide +kernel
theorem dX2_remember_28 : decode cX2_remember 28 = .ok (.getfield 26, 3) := by decide +kernel
theorem dX2_remember_31 : decode cX2_remember 31 = .ok (.iconst 1, 1) := by decide +kernel
theorem dX2_remember_32 : decode cX2_remember 32 = .ok (.iadd, 1) := by decide +kernel
theorem dX2_remember_33 : decode cX2_remember 33 = .ok (.bipush 6, 2) := by decide +kernel
theorem dX2_remember_35 : decode cX2_remember 35 = .ok (.invokestatic 29, 3) := by decide +kernel
theorem dX2_remember_38 : decode cX2_remember 38 = .ok (.putfield 26, 3) := by decide +kernel
theorem dX2_remember_41 : decode cX2_remember 41 = .ok (.return_, 1) := by decide +kernel
theorem dX2_recall_0 : decode cX2_recall 0 = .ok (.aload_n 0, 1) := by decide +kernel
theorem dX2_recall_1 : decode cX2_recall 1 = .ok (.getfield 26, 3) := by decide +kernel
theorem dX2_recall_4 : decode cX2_recall 4 = .ok (.ifCond .ne 5, 3) := by decide +kernel
theorem dX2_recall_7 : decode cX2_recall 7 = .ok (.iconst 0, 1) := by decide +kernel
theorem dX2_recall_8 : decode cX2_recall 8 = .ok (.ireturn, 1) := by decide +kernel
theorem dX2_recall_9 : decode cX2_recall 9 = .ok (.aload_n 0, 1) := by decide +kernel
theorem dX2_recall_10 : decode cX2_recall 10 = .ok (.aload_n 0, 1) := by decide +kernel
theorem dX2_recall_11 : decode cX2_recall 11 = .ok (.getfield 18, 3) := by decide +kernel
theorem dX2_recall_14 : decode cX2_recall 14 = .ok (.bipush 6, 2) := by decide +kernel
theorem dX2_recall_16 : decode cX2_recall 16 = .ok (.iadd, 1) := by decide +kernel
theorem dX2_recall_17 : decode cX2_recall 17 = .ok (.iconst 1, 1) := by decide +kernel
theorem dX2_recall_18 : decode cX2_recall 18 = .ok (.isub, 1) := by decide +kernel
theorem dX2_recall_19 : decode cX2_recall 19 = .ok (.bipush 6, 2) := by decide +kernel
theorem dX2_recall_21 : decode cX2_recall 21 = .ok (.irem, 1) := by decide +kernel
theorem dX2_recall_22 : decode cX2_recall 22 = .ok (.putfield 18, 3) := by decide +kernel
theorem dX2_recall_25 : decode cX2_recall 25 = .ok (.aload_n 0, 1) := by decide +kernel
theorem dX2_recall_26 : decode cX2_recall 26 = .ok (.dup, 1) := by decide +kernel
theorem dX2_recall_27 : decode cX2_recall 27 = .ok (.getfield 26, 3) := by decide +kernel
theorem dX2_recall_30 : decode cX2_recall 30 = .ok (.iconst 1, 1) := by decide +kernel
theorem dX2_recall_31 : decode cX2_recall 31 = .ok (.isub, 1) := by decide +kernel
theorem dX2_recall_32 : decode cX2_recall 32 = .ok (.putfield 26, 3) := by decide +kernel
theorem dX2_recall_35 : decode cX2_recall 35 = .ok (.aload_n 1, 1) := by decide +kernel
theorem dX2_recall_36 : decode cX2_recall 36 = .ok (.aload_n 0, 1) := by decide +kernel
theorem dX2_recall_37 : decode cX2_recall 37 = .ok (.getfield 11, 3) := by decide +kernel
theorem dX2_recall_40 : decode cX2_recall 40 = .ok (.aload_n 0, 1) := by decide +kernel
theorem dX2_recall_41 : decode cX2_recall 41 = .ok (.getfield 18, 3) := by decide +kernel
theorem dX2_recall_44 : decode cX2_recall 44 = .ok (.aaload, 1) := by decide +kernel
theorem dX2_recall_45 : decode cX2_recall 45 = .ok (.invokevirtual 22, 3) := by decide +kernel
theorem dX2_recall_48 : decode cX2_recall 48 = .ok (.iconst 1, 1) := by decide +kernel
theorem dX2_recall_49 : decode cX2_recall 49 = .ok (.ireturn, 1) := by decide +kernel
theorem dX2_drop_0 : decode cX2_drop 0 = .ok (.aload_n 0, 1) := by decide +kernel
theorem dX2_drop_1 : decode cX2_drop 1 = .ok (.iconst 0, 1) := by decide +kernel
theorem dX2_drop_2 : decode cX2_drop 2 = .ok (.putfield 26, 3) := by decide +kernel
theorem dX2_drop_5 : decode cX2_drop 5 = .ok (.return_, 1) := by decide +kernel
theorem dX3_init_0 : decode cX3_init 0 = .ok (.aload_n 0, 1) := by decide +kernel
theorem dX3_init_1 : decode cX3_init 1 = .ok (.invokespecial 3, 3) := by decide +kernel
theorem dX3_init_4 : decode cX3_init 4 = .ok (.aload_n 0, 1) := by decide +kernel
theorem dX3_init_5 : decode cX3_init 5 = .ok (.bipush 6, 2) := by decide +kernel
theorem dX3_init_7 : decode cX3_init 7 = .ok (.newarray .int, 2) := by decide +kernel
theorem dX3_init_9 : decode cX3_init 9 = .ok (.putfield 9, 3) := by decide +kernel
theorem dX3_init_12 : decode cX3_init 12 = .ok (.aload_n 0, 1) := by decide +kernel
theorem dX3_init_13 : decode cX3_init 13 = .ok (.bipush 6, 2) := by decide +kernel
theorem dX3_init_15 : decode cX3_init 15 = .ok (.newarray .int, 2) := by decide +kernel
theorem dX3_init_17 : decode cX3_init 17 = .ok (.putfield 15, 3) := by decide +kernel
theorem dX3_init_20 : decode cX3_init 20 = .ok (.return_, 1) := by decide +kernel
theorem dX3_add_0 : decode cX3_add 0 = .ok (.aload_n 0, 1) := by decide +kernel
theorem dX3_add_1 : decode cX3_add 1 = .ok (.getfield 18, 3) := by decide +kernel
theorem dX3_add_4 : decode cX3_add 4 = .ok (.bipush 6, 2) := by decide +kernel
theorem dX3_add_6 : decode cX3_add 6 = .ok (.if_icmp .lt 5, 3) := by decide +kernel
theorem dX3_add_9 : decode cX3_add 9 = .ok (.iconst 0, 1) := by decide +kernel
theorem dX3_add_10 : decode cX3_add 10 = .ok (.ireturn, 1) := by decide +kernel
theorem dX3_add_11 : decode cX3_add 11 = .ok (.aload_n 0, 1) := by decide +kernel
theorem dX3_add_12 : decode cX3_add 12 = .ok (.getfield 9, 3) := by decide +kernel
theorem dX3_add_15 : decode cX3_add 15 = .ok (.aload_n 0, 1) := by decide +kernel
theorem dX3_add_16 : decode cX3_add 16 = .ok (.getfield 18, 3) := by decide +kernel
theorem dX3_add_19 : decode cX3_add 19 = .ok (.iload_n 1, 1) := by decide +kernel
theorem dX3_add_20 : decode cX3_add 20 = .ok (.iastore, 1) := by decide +kernel
theorem dX3_add_21 : decode cX3_add 21 = .ok (.aload_n 0, 1) := by decide +kernel
theorem dX3_add_22 : decode cX3_add 22 = .ok (.getfield 15, 3) := by decide +kernel
theorem dX3_add_25 : decode cX3_add 25 = .ok (.aload_n 0, 1) := by decide +kernel
theorem dX3_add_26 : decode cX3_add 26 = .ok (.getfield 18, 3) := by decide +kernel
theorem dX3_add_29 : decode cX3_add 29 = .ok (.iload_n 2, 1) := by decide +kernel
theorem dX3_add_30 : decode cX3_add 30 = .ok (.iastore, 1) := by decide +kernel
theorem dX3_add_31 : decode cX3_add 31 = .ok (.aload_n 0, 1) := by decide +kernel
theorem dX3_add_32 : decode cX3_add 32 = .ok (.dup, 1) := by decide +kernel
theorem dX3_add_33 : decode cX3_add 33 = .ok (.getfield 18, 3) := by decide +kernel
theorem dX3_add_36 : decode cX3_add 36 = .ok (.iconst 1, 1) := by decide +kernel
theorem dX3_add_37 : decode cX3_add 37 = .ok (.iadd, 1) := by decide +kernel
theorem dX3_add_38 : decode cX3_add 38 = .ok (.putfield 18, 3) := by decide +kernel
theorem dX3_add_41 : decode cX3_add 41 = .ok (.iconst 1, 1) := by decide +kernel
theorem dX3_add_42 : decode cX3_add 42 = .ok (.ireturn, 1) := by decide +kernel
theorem dX3_empty_0 : decode cX3_empty 0 = .ok (.aload_n 0, 1) := by decide +kernel
theorem dX3_empty_1 : decode cX3_empty 1 = .ok (.getfield 18, 3) := by decide +kernel
theorem dX3_empty_4 : decode cX3_empty 4 = .ok (.istore_n 1, 1) := by decide +kernel
theorem dX3_empty_5 : decode cX3_empty 5 = .ok (.aload_n 0, 1) := by decide +kernel
theorem dX3_empty_6 : decode cX3_empty 6 = .ok (.iconst 0, 1) := by decide +kernel
theorem dX3_empty_7 : decode cX3_empty 7 = .ok (.putfield 18, 3) := by decide +kernel
theorem dX3_empty_10 : decode cX3_empty 10 = .ok (.iload_n 1, 1) := by decide +kernel
theorem dX3_empty_11 : decode cX3_empty 11 = .ok (.ireturn, 1) := by decide +kernel
theorem dX3_fit_0 : decode cX3_fit 0 = .ok (.iconst 0, 1) := by decide +kernel
theorem dX3_fit_1 : decode cX3_fit 1 = .ok (.istore_n 3, 1) := by decide +kernel
theorem dX3_fit_2 : decode cX3_fit 2 = .ok (.iload_n 3, 1) := by decide +kernel
theorem dX3_fit_3 : decode cX3_fit 3 = .ok (.aload_n 0, 1) := by decide +kernel
theorem dX3_fit_4 : decode cX3_fit 4 = .ok (.getfield 18, 3) := by decide +kernel
theorem dX3_fit_7 : decode cX3_fit 7 = .ok (.if_icmp .ge 34, 3) := by decide +kernel
theorem dX3_fit_10 : decode cX3_fit 10 = .ok (.aload_n 0, 1) := by decide +kernel
theorem dX3_fit_11 : decode cX3_fit 11 = .ok (.getfield 15, 3) := by decide +kernel
theorem dX3_fit_14 : decode cX3_fit 14 = .ok (.iload_n 3, 1) := by decide +kernel
theorem dX3_fit_15 : decode cX3_fit 15 = .ok (.iaload, 1) := by decide +kernel
theorem dX3_fit_16 : decode cX3_fit 16 = .ok (.aload_n 0, 1) := by decide +kernel
theorem dX3_fit_17 : decode cX3_fit 17 = .ok (.getfield 9, 3) := by decide +kernel
theorem dX3_fit_20 : decode cX3_fit 20 = .ok (.iload_n 3, 1) := by decide +kernel
theorem dX3_fit_21 : decode cX3_fit 21 = .ok (.iaload, 1) := by decide +kernel
theorem dX3_fit_22 : decode cX3_fit 22 = .ok (.ifCond .ne 7, 3) := by decide +kernel
theorem dX3_fit_25 : decode cX3_fit 25 = .ok (.iload_n 1, 1) := by decide +kernel
theorem dX3_fit_26 : decode cX3_fit 26 = .ok (.goto 4, 3) := by decide +kernel
theorem dX3_fit_29 : decode cX3_fit 29 = .ok (.iload_n 2, 1) := by decide +kernel
theorem dX3_fit_30 : decode cX3_fit 30 = .ok (.if_icmp .eq 5, 3) := by decide +kernel
theorem dX3_fit_33 : decode cX3_fit 33 = .ok (.iconst 0, 1) := by decide +kernel
theorem dX3_fit_34 : decode cX3_fit 34 = .ok (.ireturn, 1) := by decide +kernel
theorem dX3_fit_35 : decode cX3_fit 35 = .ok (.iinc 3 1, 3) := by decide +kernel
theorem dX3_fit_38 : decode cX3_fit 38 = .ok (.goto (-36), 3) := by decide +kernel
theorem dX3_fit_41 : decode cX3_fit 41 = .ok (.iconst 1, 1) := by decide +kernel
theorem dX3_fit_42 : decode cX3_fit 42 = .ok (.ireturn, 1) := by decide +kernel
theorem dX4_init_0 : decode cX4_init 0 = .ok (.aload_n 0, 1) := by decide +kernel
theorem dX4_init_1 : decode cX4_init 1 = .ok (.invokespecial 3, 3) := by decide +kernel
theorem dX4_init_4 : decode cX4_init 4 = .ok (.aload_n 0, 1) := by decide +kernel
theorem dX4_init_5 : decode cX4_init 5 = .ok (.iconst 2, 1) := by decide +kernel
theorem dX4_init_6 : decode cX4_init 6 = .ok (.putfield 9, 3) := by decide +kernel
theorem dX4_init_9 : decode cX4_init 9 = .ok (.aload_n 0, 1) := by decide +kernel
theorem dX4_init_10 : decode cX4_init 10 = .ok (.bipush 12, 2) := by decide +kernel
theorem dX4_init_12 : decode cX4_init 12 = .ok (.newarray .int, 2) := by decide +kernel
theorem dX4_init_14 : decode cX4_init 14 = .ok (.putfield 15, 3) := by decide +kernel
theorem dX4_init_17 : decode cX4_init 17 = .ok (.aload_n 0, 1) := by decide +kernel
theorem dX4_init_18 : decode cX4_init 18 = .ok (.bipush 12, 2) := by decide +kernel
theorem dX4_init_20 : decode cX4_init 20 = .ok (.newarray .int, 2) := by decide +kernel
theorem dX4_init_22 : decode cX4_init 22 = .ok (.putfield 19, 3) := by decide +kernel
theorem dX4_init_25 : decode cX4_init 25 = .ok (.aload_n 0, 1) := by decide +kernel
theorem dX4_init_26 : decode cX4_init 26 = .ok (.bipush 12, 2) := by decide +kernel
theorem dX4_init_28 : decode cX4_init 28 = .ok (.newarray .int, 2) := by decide +kernel
theorem dX4_init_30 : decode cX4_init 30 = .ok (.putfield 22, 3) := by decide +kernel
theorem dX4_init_33 : decode cX4_init 33 = .ok (.aload_n 0, 1) := by decide +kernel
theorem dX4_init_34 : decode cX4_init 34 = .ok (.bipush 7, 2) := by decide +kernel
theorem dX4_init_36 : decode cX4_init 36 = .ok (.newarray .int, 2) := by decide +kernel
theorem dX4_init_38 : decode cX4_init 38 = .ok (.putfield 25, 3) := by decide +kernel
theorem dX4_init_41 : decode cX4_init 41 = .ok (.return_, 1) := by decide +kernel
theorem dX4_beAsAtFirst_0 : decode cX4_beAsAtFirst 0 = .ok (.aload_n 0, 1) := by decide +kernel
theorem dX4_beAsAtFirst_1 : decode cX4_beAsAtFirst 1 = .ok (.iconst 2, 1) := by decide +kernel
theorem dX4_beAsAtFirst_2 : decode cX4_beAsAtFirst 2 = .ok (.putfield 9, 3) := by decide +kernel
theorem dX4_beAsAtFirst_5 : decode cX4_beAsAtFirst 5 = .ok (.aload_n 0, 1) := by decide +kernel
theorem dX4_beAsAtFirst_6 : decode cX4_beAsAtFirst 6 = .ok (.iconst 0, 1) := by decide +kernel
theorem dX4_beAsAtFirst_7 : decode cX4_beAsAtFirst 7 = .ok (.putfield 28, 3) := by decide +kernel
theorem dX4_beAsAtFirst_10 : decode cX4_beAsAtFirst 10 = .ok (.aload_n 0, 1) := by decide +kernel
theorem dX4_beAsAtFirst_11 : decode cX4_beAsAtFirst 11 = .ok (.iconst 0, 1) := by decide +kernel
theorem dX4_beAsAtFirst_12 : decode cX4_beAsAtFirst 12 = .ok (.putfield 31, 3) := by decide +kernel
theorem dX4_beAsAtFirst_15 : decode cX4_beAsAtFirst 15 = .ok (.aload_n 0, 1) := by decide +kernel
theorem dX4_beAsAtFirst_16 : decode cX4_beAsAtFirst 16 = .ok (.iconst 0, 1) := by decide +kernel
theorem dX4_beAsAtFirst_17 : decode cX4_beAsAtFirst 17 = .ok (.putfield 34, 3) := by decide +kernel
theorem dX4_beAsAtFirst_20 : decode cX4_beAsAtFirst 20 = .ok (.aload_n 0, 1) := by decide +kernel
theorem dX4_beAsAtFirst_21 : decode cX4_beAsAtFirst 21 = .ok (.iconst 0, 1) := by decide +kernel
theorem dX4_beAsAtFirst_22 : decode cX4_beAsAtFirst 22 = .ok (.putfield 37, 3) := by decide +kernel
theorem dX4_beAsAtFirst_25 : decode cX4_beAsAtFirst 25 = .ok (.aload_n 0, 1) := by decide +kernel
theorem dX4_beAsAtFirst_26 : decode cX4_beAsAtFirst 26 = .ok (.iconst 0, 1) := by decide +kernel
theorem dX4_beAsAtFirst_27 : decode cX4_beAsAtFirst 27 = .ok (.putfield 40, 3) := by decide +kernel
theorem dX4_beAsAtFirst_30 : decode cX4_beAsAtFirst 30 = .ok (.aload_n 0, 1) := by decide +kernel
theorem dX4_beAsAtFirst_31 : decode cX4_beAsAtFirst 31 = .ok (.iconst 0, 1) := by decide +kernel
theorem dX4_beAsAtFirst_32 : decode cX4_beAsAtFirst 32 = .ok (.putfield 43, 3) := by decide +kernel
theorem dX4_beAsAtFirst_35 : decode cX4_beAsAtFirst 35 = .ok (.aload_n 0, 1) := by decide +kernel
theorem dX4_beAsAtFirst_36 : decode cX4_beAsAtFirst 36 = .ok (.iconst 0, 1) := by decide +kernel
theorem dX4_beAsAtFirst_37 : decode cX4_beAsAtFirst 37 = .ok (.putfield 46, 3) := by decide +kernel
theorem dX4_beAsAtFirst_40 : decode cX4_beAsAtFirst 40 = .ok (.return_, 1) := by decide +kernel
theorem dX4_become_0 : decode cX4_become 0 = .ok (.aload_n 0, 1) := by decide +kernel
theorem dX4_become_1 : decode cX4_become 1 = .ok (.aload_n 1, 1) := by decide +kernel
theorem dX4_become_2 : decode cX4_become 2 = .ok (.getfield 9, 3) := by decide +kernel
theorem dX4_become_5 : decode cX4_become 5 = .ok (.putfield 9, 3) := by decide +kernel
theorem dX4_become_8 : decode cX4_become 8 = .ok (.aload_n 0, 1) := by decide +kernel
theorem dX4_become_9 : decode cX4_become 9 = .ok (.aload_n 1, 1) := by decide +kernel
theorem dX4_become_10 : decode cX4_become 10 = .ok (.getfield 28, 3) := by decide +kernel
theorem dX4_become_13 : decode cX4_become 13 = .ok (.putfield 28, 3) := by decide +kernel
theorem dX4_become_16 : decode cX4_become 16 = .ok (.aload_n 0, 1) := by decide +kernel
theorem dX4_become_17 : decode cX4_become 17 = .ok (.aload_n 1, 1) := by decide +kernel
theorem dX4_become_18 : decode cX4_become 18 = .ok (.getfield 31, 3) := by decide +kernel
theorem dX4_become_21 : decode cX4_become 21 = .ok (.putfield 31, 3) := by decide +kernel
theorem dX4_become_24 : decode cX4_become 24 = .ok (.aload_n 0, 1) := by decide +kernel
theorem dX4_become_25 : decode cX4_become 25 = .ok (.aload_n 1, 1) := by decide +kernel
theorem dX4_become_26 : decode cX4_become 26 = .ok (.getfield 34, 3) := by decide +kernel
theorem dX4_become_29 : decode cX4_become 29 = .ok (.putfield 34, 3) := by decide +kernel
theorem dX4_become_32 : decode cX4_become 32 = .ok (.aload_n 1, 1) := by decide +kernel
theorem dX4_become_33 : decode cX4_become 33 = .ok (.getfield 15, 3) := by decide +kernel
theorem dX4_become_36 : decode cX4_become 36 = .ok (.iconst 0, 1) := by decide +kernel
theorem dX4_become_37 : decode cX4_become 37 = .ok (.aload_n 0, 1) := by decide +kernel
theorem dX4_become_38 : decode cX4_become 38 = .ok (.getfield 15, 3) := by decide +kernel
theorem dX4_become_41 : decode cX4_become 41 = .ok (.iconst 0, 1) := by decide +kernel
theorem dX4_become_42 : decode cX4_become 42 = .ok (.bipush 12, 2) := by decide +kernel
theorem dX4_become_44 : decode cX4_become 44 = .ok (.invokestatic 49, 3) := by decide +kernel
theorem dX4_become_47 : decode cX4_become 47 = .ok (.aload_n 1, 1) := by decide +kernel
theorem dX4_become_48 : decode cX4_become 48 = .ok (.getfield 19, 3) := by decide +kernel
theorem dX4_become_51 : decode cX4_become 51 = .ok (.iconst 0, 1) := by decide +kernel
theorem dX4_become_52 : decode cX4_become 52 = .ok (.aload_n 0, 1) := by decide +kernel
theorem dX4_become_53 : decode cX4_become 53 = .ok (.getfield 19, 3) := by decide +kernel
theorem dX4_become_56 : decode cX4_become 56 = .ok (.iconst 0, 1) := by decide +kernel
theorem dX4_become_57 : decode cX4_become 57 = .ok (.bipush 12, 2) := by decide +kernel
theorem dX4_become_59 : decode cX4_become 59 = .ok (.invokestatic 49, 3) := by decide +kernel
theorem dX4_become_62 : decode cX4_become 62 = .ok (.aload_n 1, 1) := by decide +kernel
theorem dX4_become_63 : decode cX4_become 63 = .ok (.getfield 22, 3) := by decide +kernel
theorem dX4_become_66 : decode cX4_become 66 = .ok (.iconst 0, 1) := by decide +kernel
theorem dX4_become_67 : decode cX4_become 67 = .ok (.aload_n 0, 1) := by decide +kernel
theorem dX4_become_68 : decode cX4_become 68 = .ok (.getfield 22, 3) := by decide +kernel
theorem dX4_become_71 : decode cX4_become 71 = .ok (.iconst 0, 1) := by decide +kernel
theorem dX4_become_72 : decode cX4_become 72 = .ok (.bipush 12, 2) := by decide +kernel
theorem dX4_become_74 : decode cX4_become 74 = .ok (.invokestatic 49, 3) := by decide +kernel
theorem dX4_become_77 : decode cX4_become 77 = .ok (.aload_n 0, 1) := by decide +kernel
theorem dX4_become_78 : decode cX4_become 78 = .ok (.aload_n 1, 1) := by decide +kernel
theorem dX4_become_79 : decode cX4_become 79 = .ok (.getfield 37, 3) := by decide +kernel
theorem dX4_become_82 : decode cX4_become 82 = .ok (.putfield 37, 3) := by decide +kernel
theorem dX4_become_85 : decode cX4_become 85 = .ok (.aload_n 0, 1) := by decide +kernel
theorem dX4_become_86 : decode cX4_become 86 = .ok (.aload_n 1, 1) := by decide +kernel
theorem dX4_become_87 : decode cX4_become 87 = .ok (.getfield 40, 3) := by decide +kernel
theorem dX4_become_90 : decode cX4_become 90 = .ok (.putfield 40, 3) := by decide +kernel
theorem dX4_become_93 : decode cX4_become 93 = .ok (.aload_n 0, 1) := by decide +kernel
theorem dX4_become_94 : decode cX4_become 94 = .ok (.aload_n 1, 1) := by decide +kernel
theorem dX4_become_95 : decode cX4_become 95 = .ok (.getfield 43, 3) := by decide +kernel
theorem dX4_become_98 : decode cX4_become 98 = .ok (.putfield 43, 3) := by decide +kernel
theorem dX4_become_101 : decode cX4_become 101 = .ok (.aload_n 0, 1) := by decide +kernel
theorem dX4_become_102 : decode cX4_become 102 = .ok (.aload_n 1, 1) := by decide +kernel
theorem dX4_become_103 : decode cX4_become 103 = .ok (.getfield 46, 3) := by decide +kernel
theorem dX4_become_106 : decode cX4_become 106 = .ok (.putfield 46, 3) := by decide +kernel
theorem dX4_become_109 : decode cX4_become 109 = .ok (.aload_n 1, 1) := by decide +kernel
theorem dX4_become_110 : decode cX4_become 110 = .ok (.getfield 25, 3) := by decide +kernel
theorem dX4_become_113 : decode cX4_become 113 = .ok (.iconst 0, 1) := by decide +kernel
theorem dX4_become_114 : decode cX4_become 114 = .ok (.aload_n 0, 1) := by decide +kernel
theorem dX4_become_115 : decode cX4_become 115 = .ok (.getfield 25, 3) := by decide +kernel
theorem dX4_become_118 : decode cX4_become 118 = .ok (.iconst 0, 1) := by decide +kernel
theorem dX4_become_119 : decode cX4_become 119 = .ok (.bipush 7, 2) := by decide +kernel
theorem dX4_become_121 : decode cX4_become 121 = .ok (.invokestatic 49, 3) := by decide +kernel
theorem dX4_become_124 : decode cX4_become 124 = .ok (.return_, 1) := by decide +kernel
theorem dX4_hasNode_0 : decode cX4_hasNode 0 = .ok (.iload_n 1, 1) := by decide +kernel
theorem dX4_hasNode_1 : decode cX4_hasNode 1 = .ok (.ifCond .lt 15, 3) := by decide +kernel
theorem dX4_hasNode_4 : decode cX4_hasNode 4 = .ok (.iload_n 1, 1) := by decide +kernel
theorem dX4_hasNode_5 : decode cX4_hasNode 5 = .ok (.aload_n 0, 1) := by decide +kernel
theorem dX4_hasNode_6 : decode cX4_hasNode 6 = .ok (.getfield 9, 3) := by decide +kernel
theorem dX4_hasNode_9 : decode cX4_hasNode 9 = .ok (.if_icmp .ge 7, 3) := by decide +kernel
theorem dX4_hasNode_12 : decode cX4_hasNode 12 = .ok (.iconst 1, 1) := by decide +kernel
theorem dX4_hasNode_13 : decode cX4_hasNode 13 = .ok (.goto 4, 3) := by decide +kernel
theorem dX4_hasNode_16 : decode cX4_hasNode 16 = .ok (.iconst 0, 1) := by decide +kernel
theorem dX4_hasNode_17 : decode cX4_hasNode 17 = .ok (.ireturn, 1) := by decide +kernel
theorem dX4_hasLink_0 : decode cX4_hasLink 0 = .ok (.iload_n 1, 1) := by decide +kernel
theorem dX4_hasLink_1 : decode cX4_hasLink 1 = .ok (.ifCond .lt 15, 3) := by decide +kernel
theorem dX4_hasLink_4 : decode cX4_hasLink 4 = .ok (.iload_n 1, 1) := by decide +kernel
theorem dX4_hasLink_5 : decode cX4_hasLink 5 = .ok (.aload_n 0, 1) := by decide +kernel
theorem dX4_hasLink_6 : decode cX4_hasLink 6 = .ok (.getfield 34, 3) := by decide +kernel
theorem dX4_hasLink_9 : decode cX4_hasLink 9 = .ok (.if_icmp .ge 7, 3) := by decide +kernel
theorem dX4_hasLink_12 : decode cX4_hasLink 12 = .ok (.iconst 1, 1) := by decide +kernel
theorem dX4_hasLink_13 : decode cX4_hasLink 13 = .ok (.goto 4, 3) := by decide +kernel
theorem dX4_hasLink_16 : decode cX4_hasLink 16 = .ok (.iconst 0, 1) := by decide +kernel
theorem dX4_hasLink_17 : decode cX4_hasLink 17 = .ok (.ireturn, 1) := by decide +kernel
theorem dX4_isMember_0 : decode cX4_isMember 0 = .ok (.aload_n 0, 1) := by decide +kernel
theorem dX4_isMember_1 : decode cX4_isMember 1 = .ok (.getfield 37, 3) := by decide +kernel
theorem dX4_isMember_4 : decode cX4_isMember 4 = .ok (.iload_n 1, 1) := by decide +kernel
theorem dX4_isMember_5 : decode cX4_isMember 5 = .ok (.invokestatic 55, 3) := by decide +kernel
theorem dX4_isMember_8 : decode cX4_isMember 8 = .ok (.ireturn, 1) := by decide +kernel
theorem dX4_addLink_0 : decode cX4_addLink 0 = .ok (.aload_n 0, 1) := by decide +kernel
theorem dX4_addLink_1 : decode cX4_addLink 1 = .ok (.getfield 34, 3) := by decide +kernel
theorem dX4_addLink_4 : decode cX4_addLink 4 = .ok (.bipush 12, 2) := by decide +kernel
theorem dX4_addLink_6 : decode cX4_addLink 6 = .ok (.if_icmp .ge 43, 3) := by decide +kernel
theorem dX4_addLink_9 : decode cX4_addLink 9 = .ok (.aload_n 0, 1) := by decide +kernel
theorem dX4_addLink_10 : decode cX4_addLink 10 = .ok (.getfield 15, 3) := by decide +kernel
theorem dX4_addLink_13 : decode cX4_addLink 13 = .ok (.aload_n 0, 1) := by decide +kernel
theorem dX4_addLink_14 : decode cX4_addLink 14 = .ok (.getfield 34, 3) := by decide +kernel
theorem dX4_addLink_17 : decode cX4_addLink 17 = .ok (.iload_n 1, 1) := by decide +kernel
theorem dX4_addLink_18 : decode cX4_addLink 18 = .ok (.iastore, 1) := by decide +kernel
theorem dX4_addLink_19 : decode cX4_addLink 19 = .ok (.aload_n 0, 1) := by decide +kernel
theorem dX4_addLink_20 : decode cX4_addLink 20 = .ok (.getfield 19, 3) := by decide +kernel
theorem dX4_addLink_23 : decode cX4_addLink 23 = .ok (.aload_n 0, 1) := by decide +kernel
theorem dX4_addLink_24 : decode cX4_addLink 24 = .ok (.getfield 34, 3) := by decide +kernel
theorem dX4_addLink_27 : decode cX4_addLink 27 = .ok (.iload_n 2, 1) := by decide +kernel
theorem dX4_addLink_28 : decode cX4_addLink 28 = .ok (.iastore, 1) := by decide +kernel
theorem dX4_addLink_29 : decode cX4_addLink 29 = .ok (.aload_n 0, 1) := by decide +kernel
theorem dX4_addLink_30 : decode cX4_addLink 30 = .ok (.getfield 22, 3) := by decide +kernel
theorem dX4_addLink_33 : decode cX4_addLink 33 = .ok (.aload_n 0, 1) := by decide +kernel
theorem dX4_addLink_34 : decode cX4_addLink 34 = .ok (.getfield 34, 3) := by decide +kernel
theorem dX4_addLink_37 : decode cX4_addLink 37 = .ok (.iload_n 3, 1) := by decide +kernel
theorem dX4_addLink_38 : decode cX4_addLink 38 = .ok (.iastore, 1) := by decide +kernel
theorem dX4_addLink_39 : decode cX4_addLink 39 = .ok (.aload_n 0, 1) := by decide +kernel
theorem dX4_addLink_40 : decode cX4_addLink 40 = .ok (.dup, 1) := by decide +kernel
theorem dX4_addLink_41 : decode cX4_addLink 41 = .ok (.getfield 34, 3) := by decide +kernel
theorem dX4_addLink_44 : decode cX4_addLink 44 = .ok (.iconst 1, 1) := by decide +kernel
theorem dX4_addLink_45 : decode cX4_addLink 45 = .ok (.iadd, 1) := by decide +kernel
theorem dX4_addLink_46 : decode cX4_addLink 46 = .ok (.putfield 34, 3) := by decide +kernel
theorem dX4_addLink_49 : decode cX4_addLink 49 = .ok (.return_, 1) := by decide +kernel
theorem dX4_areLinked_0 : decode cX4_areLinked 0 = .ok (.aload_n 0, 1) := by decide +kernel
theorem dX4_areLinked_1 : decode cX4_areLinked 1 = .ok (.iload_n 1, 1) := by decide +kernel
theorem dX4_areLinked_2 : decode cX4_areLinked 2 = .ok (.invokevirtual 59, 3) := by decide +kernel
theorem dX4_areLinked_5 : decode cX4_areLinked 5 = .ok (.aload_n 0, 1) := by decide +kernel
theorem dX4_areLinked_6 : decode cX4_areLinked 6 = .ok (.iload_n 2, 1) := by decide +kernel
theorem dX4_areLinked_7 : decode cX4_areLinked 7 = .ok (.invokevirtual 59, 3) := by decide +kernel
theorem dX4_areLinked_10 : decode cX4_areLinked 10 = .ok (.iand, 1) := by decide +kernel
theorem dX4_areLinked_11 : decode cX4_areLinked 11 = .ok (.ifCond .eq 7, 3) := by decide +kernel
theorem dX4_areLinked_14 : decode cX4_areLinked 14 = .ok (.iconst 1, 1) := by decide +kernel
theorem dX4_areLinked_15 : decode cX4_areLinked 15 = .ok (.goto 4, 3) := by decide +kernel
theorem dX4_areLinked_18 : decode cX4_areLinked 18 = .ok (.iconst 0, 1) := by decide +kernel
theorem dX4_areLinked_19 : decode cX4_areLinked 19 = .ok (.ireturn, 1) := by decide +kernel
theorem dX4_ends_0 : decode cX4_ends 0 = .ok (.iconst 1, 1) := by decide +kernel
theorem dX4_ends_1 : decode cX4_ends 1 = .ok (.aload_n 0, 1) := by decide +kernel
theorem dX4_ends_2 : decode cX4_ends 2 = .ok (.getfield 15, 3) := by decide +kernel
theorem dX4_ends_5 : decode cX4_ends 5 = .ok (.iload_n 1, 1) := by decide +kernel
theorem dX4_ends_6 : decode cX4_ends 6 = .ok (.iaload, 1) := by decide +kernel
theorem dX4_ends_7 : decode cX4_ends 7 = .ok (.ishl, 1) := by decide +kernel
theorem dX4_ends_8 : decode cX4_ends 8 = .ok (.iconst 1, 1) := by decide +kernel
theorem dX4_ends_9 : decode cX4_ends 9 = .ok (.aload_n 0, 1) := by decide +kernel
theorem dX4_ends_10 : decode cX4_ends 10 = .ok (.getfield 19, 3) := by decide +kernel
theorem dX4_ends_13 : decode cX4_ends 13 = .ok (.iload_n 1, 1) := by decide +kernel
theorem dX4_ends_14 : decode cX4_ends 14 = .ok (.iaload, 1) := by decide +kernel
theorem dX4_ends_15 : decode cX4_ends 15 = .ok (.ishl, 1) := by decide +kernel
theorem dX4_ends_16 : decode cX4_ends 16 = .ok (.ior, 1) := by decide +kernel
theorem dX4_ends_17 : decode cX4_ends 17 = .ok (.ireturn, 1) := by decide +kernel
theorem dX4_linksAt_0 : decode cX4_linksAt 0 = .ok (.iconst 0, 1) := by decide +kernel
theorem dX4_linksAt_1 : decode cX4_linksAt 1 = .ok (.istore_n 2, 1) := by decide +kernel
theorem dX4_linksAt_2 : decode cX4_linksAt 2 = .ok (.iconst 0, 1) := by decide +kernel
theorem dX4_linksAt_3 : decode cX4_linksAt 3 = .ok (.istore_n 3, 1) := by decide +kernel
theorem dX4_linksAt_4 : decode cX4_linksAt 4 = .ok (.iload_n 3, 1) := by decide +kernel
theorem dX4_linksAt_5 : decode cX4_linksAt 5 = .ok (.aload_n 0, 1) := by decide +kernel
theorem dX4_linksAt_6 : decode cX4_linksAt 6 = .ok (.getfield 34, 3) := by decide +kernel
theorem dX4_linksAt_9 : decode cX4_linksAt 9 = .ok (.if_icmp .ge 27, 3) := by decide +kernel
theorem dX4_linksAt_12 : decode cX4_linksAt 12 = .ok (.aload_n 0, 1) := by decide +kernel
theorem dX4_linksAt_13 : decode cX4_linksAt 13 = .ok (.iload_n 3, 1) := by decide +kernel
theorem dX4_linksAt_14 : decode cX4_linksAt 14 = .ok (.invokevirtual 63, 3) := by decide +kernel
theorem dX4_linksAt_17 : decode cX4_linksAt 17 = .ok (.iload_n 1, 1) := by decide +kernel
theorem dX4_linksAt_18 : decode cX4_linksAt 18 = .ok (.invokestatic 55, 3) := by decide +kernel
theorem dX4_linksAt_21 : decode cX4_linksAt 21 = .ok (.ifCond .eq 9, 3) := by decide +kernel
theorem dX4_linksAt_24 : decode cX4_linksAt 24 = .ok (.iload_n 2, 1) := by decide +kernel
theorem dX4_linksAt_25 : decode cX4_linksAt 25 = .ok (.iconst 1, 1) := by decide +kernel
theorem dX4_linksAt_26 : decode cX4_linksAt 26 = .ok (.iload_n 3, 1) := by decide +kernel
theorem dX4_linksAt_27 : decode cX4_linksAt 27 = .ok (.ishl, 1) := by decide +kernel
theorem dX4_linksAt_28 : decode cX4_linksAt 28 = .ok (.ior, 1) := by decide +kernel
theorem dX4_linksAt_29 : decode cX4_linksAt 29 = .ok (.istore_n 2, 1) := by decide +kernel
theorem dX4_linksAt_30 : decode cX4_linksAt 30 = .ok (.iinc 3 1, 3) := by decide +kernel
theorem dX4_linksAt_33 : decode cX4_linksAt 33 = .ok (.goto (-29), 3) := by decide +kernel
theorem dX4_linksAt_36 : decode cX4_linksAt 36 = .ok (.iload_n 2, 1) := by decide +kernel
theorem dX4_linksAt_37 : decode cX4_linksAt 37 = .ok (.ireturn, 1) := by decide +kernel
theorem dX4_upLinks_0 : decode cX4_upLinks 0 = .ok (.iconst 1, 1) := by decide +kernel
theorem dX4_upLinks_1 : decode cX4_upLinks 1 = .ok (.aload_n 0, 1) := by decide +kernel
theorem dX4_upLinks_2 : decode cX4_upLinks 2 = .ok (.getfield 34, 3) := by decide +kernel
theorem dX4_upLinks_5 : decode cX4_upLinks 5 = .ok (.ishl, 1) := by decide +kernel
theorem dX4_upLinks_6 : decode cX4_upLinks 6 = .ok (.iconst 1, 1) := by decide +kernel
theorem dX4_upLinks_7 : decode cX4_upLinks 7 = .ok (.isub, 1) := by decide +kernel
theorem dX4_upLinks_8 : decode cX4_upLinks 8 = .ok (.aload_n 0, 1) := by decide +kernel
theorem dX4_upLinks_9 : decode cX4_upLinks 9 = .ok (.getfield 43, 3) := by decide +kernel
theorem dX4_upLinks_12 : decode cX4_upLinks 12 = .ok (.iconst (-1), 1) := by decide +kernel
theorem dX4_upLinks_13 : decode cX4_upLinks 13 = .ok (.ixor, 1) := by decide +kernel
theorem dX4_upLinks_14 : decode cX4_upLinks 14 = .ok (.iand, 1) := by decide +kernel
theorem dX4_upLinks_15 : decode cX4_upLinks 15 = .ok (.ireturn, 1) := by decide +kernel
theorem dX4_costOf_0 : decode cX4_costOf 0 = .ok (.iconst 0, 1) := by decide +kernel
theorem dX4_costOf_1 : decode cX4_costOf 1 = .ok (.istore_n 2, 1) := by decide +kernel
theorem dX4_costOf_2 : decode cX4_costOf 2 = .ok (.iconst 0, 1) := by decide +kernel
theorem dX4_costOf_3 : decode cX4_costOf 3 = .ok (.istore_n 3, 1) := by decide +kernel
theorem dX4_costOf_4 : decode cX4_costOf 4 = .ok (.iload_n 3, 1) := by decide +kernel
theorem dX4_costOf_5 : decode cX4_costOf 5 = .ok (.aload_n 0, 1) := by decide +kernel
theorem dX4_costOf_6 : decode cX4_costOf 6 = .ok (.getfield 34, 3) := by decide +kernel
theorem dX4_costOf_9 : decode cX4_costOf 9 = .ok (.if_icmp .ge 26, 3) := by decide +kernel
theorem dX4_costOf_12 : decode cX4_costOf 12 = .ok (.iload_n 1, 1) := by decide +kernel
theorem dX4_costOf_13 : decode cX4_costOf 13 = .ok (.iload_n 3, 1) := by decide +kernel
theorem dX4_costOf_14 : decode cX4_costOf 14 = .ok (.invokestatic 55, 3) := by decide +kernel
theorem dX4_costOf_17 : decode cX4_costOf 17 = .ok (.ifCond .eq 12, 3) := by decide +kernel
theorem dX4_costOf_20 : decode cX4_costOf 20 = .ok (.iload_n 2, 1) := by decide +kernel
theorem dX4_costOf_21 : decode cX4_costOf 21 = .ok (.aload_n 0, 1) := by decide +kernel
theorem dX4_costOf_22 : decode cX4_costOf 22 = .ok (.getfield 22, 3) := by decide +kernel
theorem dX4_costOf_25 : decode cX4_costOf 25 = .ok (.iload_n 3, 1) := by decide +kernel
theorem dX4_costOf_26 : decode cX4_costOf 26 = .ok (.iaload, 1) := by decide +kernel
theorem dX4_costOf_27 : decode cX4_costOf 27 = .ok (.iadd, 1) := by decide +kernel
theorem dX4_costOf_28 : decode cX4_costOf 28 = .ok (.istore_n 2, 1) := by decide +kernel
theorem dX4_costOf_29 : decode cX4_costOf 29 = .ok (.iinc 3 1, 3) := by decide +kernel
theorem dX4_costOf_32 : decode cX4_costOf 32 = .ok (.goto (-28), 3) := by decide +kernel
theorem dX4_costOf_35 : decode cX4_costOf 35 = .ok (.iload_n 2, 1) := by decide +kernel
theorem dX4_costOf_36 : decode cX4_costOf 36 = .ok (.ireturn, 1) := by decide +kernel
theorem dX4_nodesOf_0 : decode cX4_nodesOf 0 = .ok (.iconst 1, 1) := by decide +kernel
theorem dX4_nodesOf_1 : decode cX4_nodesOf 1 = .ok (.aload_n 0, 1) := by decide +kernel
theorem dX4_nodesOf_2 : decode cX4_nodesOf 2 = .ok (.getfield 28, 3) := by decide +kernel
theorem dX4_nodesOf_5 : decode cX4_nodesOf 5 = .ok (.ishl, 1) := by decide +kernel
theorem dX4_nodesOf_6 : decode cX4_nodesOf 6 = .ok (.istore_n 2, 1) := by decide +kernel
theorem dX4_nodesOf_7 : decode cX4_nodesOf 7 = .ok (.iconst 0, 1) := by decide +kernel
theorem dX4_nodesOf_8 : decode cX4_nodesOf 8 = .ok (.istore_n 3, 1) := by decide +kernel
theorem dX4_nodesOf_9 : decode cX4_nodesOf 9 = .ok (.iload_n 3, 1) := by decide +kernel
theorem dX4_nodesOf_10 : decode cX4_nodesOf 10 = .ok (.aload_n 0, 1) := by decide +kernel
theorem dX4_nodesOf_11 : decode cX4_nodesOf 11 = .ok (.getfield 34, 3) := by decide +kernel
theorem dX4_nodesOf_14 : decode cX4_nodesOf 14 = .ok (.if_icmp .ge 25, 3) := by decide +kernel
theorem dX4_nodesOf_17 : decode cX4_nodesOf 17 = .ok (.iload_n 1, 1) := by decide +kernel
theorem dX4_nodesOf_18 : decode cX4_nodesOf 18 = .ok (.iload_n 3, 1) := by decide +kernel
theorem dX4_nodesOf_19 : decode cX4_nodesOf 19 = .ok (.invokestatic 55, 3) := by decide +kernel
theorem dX4_nodesOf_22 : decode cX4_nodesOf 22 = .ok (.ifCond .eq 11, 3) := by decide +kernel
theorem dX4_nodesOf_25 : decode cX4_nodesOf 25 = .ok (.iload_n 2, 1) := by decide +kernel
theorem dX4_nodesOf_26 : decode cX4_nodesOf 26 = .ok (.aload_n 0, 1) := by decide +kernel
theorem dX4_nodesOf_27 : decode cX4_nodesOf 27 = .ok (.iload_n 3, 1) := by decide +kernel
theorem dX4_nodesOf_28 : decode cX4_nodesOf 28 = .ok (.invokevirtual 63, 3) := by decide +kernel
theorem dX4_nodesOf_31 : decode cX4_nodesOf 31 = .ok (.ior, 1) := by decide +kernel
theorem dX4_nodesOf_32 : decode cX4_nodesOf 32 = .ok (.istore_n 2, 1) := by decide +kernel
theorem dX4_nodesOf_33 : decode cX4_nodesOf 33 = .ok (.iinc 3 1, 3) := by decide +kernel
theorem dX4_nodesOf_36 : decode cX4_nodesOf 36 = .ok (.goto (-27), 3) := by decide +kernel
theorem dX4_nodesOf_39 : decode cX4_nodesOf 39 = .ok (.iload_n 2, 1) := by decide +kernel
theorem dX4_nodesOf_40 : decode cX4_nodesOf 40 = .ok (.ireturn, 1) := by decide +kernel
theorem dX4_hangingBy_0 : decode cX4_hangingBy 0 = .ok (.iconst 1, 1) := by decide +kernel
theorem dX4_hangingBy_1 : decode cX4_hangingBy 1 = .ok (.aload_n 0, 1) := by decide +kernel
theorem dX4_hangingBy_2 : decode cX4_hangingBy 2 = .ok (.getfield 28, 3) := by decide +kernel
theorem dX4_hangingBy_5 : decode cX4_hangingBy 5 = .ok (.ishl, 1) := by decide +kernel
theorem dX4_hangingBy_6 : decode cX4_hangingBy 6 = .ok (.istore_n 2, 1) := by decide +kernel
theorem dX4_hangingBy_7 : decode cX4_hangingBy 7 = .ok (.iconst 1, 1) := by decide +kernel
theorem dX4_hangingBy_8 : decode cX4_hangingBy 8 = .ok (.istore_n 3, 1) := by decide +kernel
theorem dX4_hangingBy_9 : decode cX4_hangingBy 9 = .ok (.iload_n 3, 1) := by decide +kernel
theorem dX4_hangingBy_10 : decode cX4_hangingBy 10 = .ok (.aload_n 0, 1) := by decide +kernel
theorem dX4_hangingBy_11 : decode cX4_hangingBy 11 = .ok (.getfield 9, 3) := by decide +kernel
theorem dX4_hangingBy_14 : decode cX4_hangingBy 14 = .ok (.if_icmp .ge 56, 3) := by decide +kernel
theorem dX4_hangingBy_17 : decode cX4_hangingBy 17 = .ok (.iconst 0, 1) := by decide +kernel
theorem dX4_hangingBy_18 : decode cX4_hangingBy 18 = .ok (.istore 4, 2) := by decide +kernel
theorem dX4_hangingBy_20 : decode cX4_hangingBy 20 = .ok (.iload 4, 2) := by decide +kernel
theorem dX4_hangingBy_22 : decode cX4_hangingBy 22 = .ok (.aload_n 0, 1) := by decide +kernel
theorem dX4_hangingBy_23 : decode cX4_hangingBy 23 = .ok (.getfield 34, 3) := by decide +kernel
theorem dX4_hangingBy_26 : decode cX4_hangingBy 26 = .ok (.if_icmp .ge 38, 3) := by decide +kernel
theorem dX4_hangingBy_29 : decode cX4_hangingBy 29 = .ok (.iload_n 1, 1) := by decide +kernel
theorem dX4_hangingBy_30 : decode cX4_hangingBy 30 = .ok (.iload 4, 2) := by decide +kernel
theorem dX4_hangingBy_32 : decode cX4_hangingBy 32 = .ok (.invokestatic 55, 3) := by decide +kernel
theorem dX4_hangingBy_35 : decode cX4_hangingBy 35 = .ok (.ifCond .eq 23, 3) := by decide +kernel
theorem dX4_hangingBy_38 : decode cX4_hangingBy 38 = .ok (.iload_n 2, 1) := by decide +kernel
theorem dX4_hangingBy_39 : decode cX4_hangingBy 39 = .ok (.aload_n 0, 1) := by decide +kernel
theorem dX4_hangingBy_40 : decode cX4_hangingBy 40 = .ok (.iload 4, 2) := by decide +kernel
theorem dX4_hangingBy_42 : decode cX4_hangingBy 42 = .ok (.invokevirtual 63, 3) := by decide +kernel
theorem dX4_hangingBy_45 : decode cX4_hangingBy 45 = .ok (.iand, 1) := by decide +kernel
theorem dX4_hangingBy_46 : decode cX4_hangingBy 46 = .ok (.ifCond .eq 12, 3) := by decide +kernel
theorem dX4_hangingBy_49 : decode cX4_hangingBy 49 = .ok (.iload_n 2, 1) := by decide +kernel
theorem dX4_hangingBy_50 : decode cX4_hangingBy 50 = .ok (.aload_n 0, 1) := by decide +kernel
theorem dX4_hangingBy_51 : decode cX4_hangingBy 51 = .ok (.iload 4, 2) := by decide +kernel
theorem dX4_hangingBy_53 : decode cX4_hangingBy 53 = .ok (.invokevirtual 63, 3) := by decide +kernel
theorem dX4_hangingBy_56 : decode cX4_hangingBy 56 = .ok (.ior, 1) := by decide +kernel
theorem dX4_hangingBy_57 : decode cX4_hangingBy 57 = .ok (.istore_n 2, 1) := by decide +kernel
theorem dX4_hangingBy_58 : decode cX4_hangingBy 58 = .ok (.iinc 4 1, 3) := by decide +kernel
theorem dX4_hangingBy_61 : decode cX4_hangingBy 61 = .ok (.goto (-41), 3) := by decide +kernel
theorem dX4_hangingBy_64 : decode cX4_hangingBy 64 = .ok (.iinc 3 1, 3) := by decide +kernel
theorem dX4_hangingBy_67 : decode cX4_hangingBy 67 = .ok (.goto (-58), 3) := by decide +kernel
theorem dX4_hangingBy_70 : decode cX4_hangingBy 70 = .ok (.iload_n 2, 1) := by decide +kernel
theorem dX4_hangingBy_71 : decode cX4_hangingBy 71 = .ok (.ireturn, 1) := by decide +kernel
theorem dX4_membersOff_0 : decode cX4_membersOff 0 = .ok (.aload_n 0, 1) := by decide +kernel
theorem dX4_membersOff_1 : decode cX4_membersOff 1 = .ok (.getfield 37, 3) := by decide +kernel
theorem dX4_membersOff_4 : decode cX4_membersOff 4 = .ok (.aload_n 0, 1) := by decide +kernel
theorem dX4_membersOff_5 : decode cX4_membersOff 5 = .ok (.iload_n 1, 1) := by decide +kernel
theorem dX4_membersOff_6 : decode cX4_membersOff 6 = .ok (.iconst 1, 1) := by decide +kernel
theorem dX4_membersOff_7 : decode cX4_membersOff 7 = .ok (.iload_n 2, 1) := by decide +kernel
theorem dX4_membersOff_8 : decode cX4_membersOff 8 = .ok (.ishl, 1) := by decide +kernel
theorem dX4_membersOff_9 : decode cX4_membersOff 9 = .ok (.iconst (-1), 1) := by decide +kernel
theorem dX4_membersOff_10 : decode cX4_membersOff 10 = .ok (.ixor, 1) := by decide +kernel
theorem dX4_membersOff_11 : decode cX4_membersOff 11 = .ok (.iand, 1) := by decide +kernel
theorem dX4_membersOff_12 : decode cX4_membersOff 12 = .ok (.invokevirtual 66, 3) := by decide +kernel
theorem dX4_membersOff_15 : decode cX4_membersOff 15 = .ok (.iconst (-1), 1) := by decide +kernel
theorem dX4_membersOff_16 : decode cX4_membersOff 16 = .ok (.ixor, 1) := by decide +kernel
theorem dX4_membersOff_17 : decode cX4_membersOff 17 = .ok (.iand, 1) := by decide +kernel
theorem dX4_membersOff_18 : decode cX4_membersOff 18 = .ok (.ireturn, 1) := by decide +kernel
theorem dX4_load_0 : decode cX4_load 0 = .ok (.aload_n 0, 1) := by decide +kernel
theorem dX4_load_1 : decode cX4_load 1 = .ok (.getfield 40, 3) := by decide +kernel
theorem dX4_load_4 : decode cX4_load 4 = .ok (.iload_n 1, 1) := by decide +kernel
theorem dX4_load_5 : decode cX4_load 5 = .ok (.invokestatic 55, 3) := by decide +kernel
theorem dX4_load_8 : decode cX4_load 8 = .ok (.ifCond .eq 18, 3) := by decide +kernel
theorem dX4_load_11 : decode cX4_load 11 = .ok (.aload_n 0, 1) := by decide +kernel
theorem dX4_load_12 : decode cX4_load 12 = .ok (.aload_n 0, 1) := by decide +kernel
theorem dX4_load_13 : decode cX4_load 13 = .ok (.getfield 40, 3) := by decide +kernel
theorem dX4_load_16 : decode cX4_load 16 = .ok (.iload_n 1, 1) := by decide +kernel
theorem dX4_load_17 : decode cX4_load 17 = .ok (.invokevirtual 69, 3) := by decide +kernel
theorem dX4_load_20 : decode cX4_load 20 = .ok (.invokestatic 73, 3) := by decide +kernel
theorem dX4_load_23 : decode cX4_load 23 = .ok (.goto 4, 3) := by decide +kernel
theorem dX4_load_26 : decode cX4_load 26 = .ok (.iconst 0, 1) := by decide +kernel
theorem dX4_load_27 : decode cX4_load 27 = .ok (.ireturn, 1) := by decide +kernel
theorem dX4_busiest_0 : decode cX4_busiest 0 = .ok (.bipush (-9), 2) := by decide +kernel
theorem dX4_busiest_2 : decode cX4_busiest 2 = .ok (.istore_n 1, 1) := by decide +kernel
theorem dX4_busiest_3 : decode cX4_busiest 3 = .ok (.iconst (-1), 1) := by decide +kernel
theorem dX4_busiest_4 : decode cX4_busiest 4 = .ok (.istore_n 2, 1) := by decide +kernel
theorem dX4_busiest_5 : decode cX4_busiest 5 = .ok (.iconst 0, 1) := by decide +kernel
theorem dX4_busiest_6 : decode cX4_busiest 6 = .ok (.istore_n 3, 1) := by decide +kernel
theorem dX4_busiest_7 : decode cX4_busiest 7 = .ok (.iload_n 3, 1) := by decide +kernel
theorem dX4_busiest_8 : decode cX4_busiest 8 = .ok (.aload_n 0, 1) := by decide +kernel
theorem dX4_busiest_9 : decode cX4_busiest 9 = .ok (.getfield 34, 3) := by decide +kernel
theorem dX4_busiest_12 : decode cX4_busiest 12 = .ok (.if_icmp .ge 37, 3) := by decide +kernel
theorem dX4_busiest_15 : decode cX4_busiest 15 = .ok (.aload_n 0, 1) := by decide +kernel
theorem dX4_busiest_16 : decode cX4_busiest 16 = .ok (.getfield 40, 3) := by decide +kernel
theorem dX4_busiest_19 : decode cX4_busiest 19 = .ok (.iload_n 3, 1) := by decide +kernel
theorem dX4_busiest_20 : decode cX4_busiest 20 = .ok (.invokestatic 55, 3) := by decide +kernel
theorem dX4_busiest_23 : decode cX4_busiest 23 = .ok (.ifCond .eq 20, 3) := by decide +kernel
theorem dX4_busiest_26 : decode cX4_busiest 26 = .ok (.aload_n 0, 1) := by decide +kernel
theorem dX4_busiest_27 : decode cX4_busiest 27 = .ok (.iload_n 3, 1) := by decide +kernel
theorem dX4_busiest_28 : decode cX4_busiest 28 = .ok (.invokevirtual 78, 3) := by decide +kernel
theorem dX4_busiest_31 : decode cX4_busiest 31 = .ok (.iload_n 2, 1) := by decide +kernel
theorem dX4_busiest_32 : decode cX4_busiest 32 = .ok (.if_icmp .le 11, 3) := by decide +kernel
theorem dX4_busiest_35 : decode cX4_busiest 35 = .ok (.iload_n 3, 1) := by decide +kernel
theorem dX4_busiest_36 : decode cX4_busiest 36 = .ok (.istore_n 1, 1) := by decide +kernel
theorem dX4_busiest_37 : decode cX4_busiest 37 = .ok (.aload_n 0, 1) := by decide +kernel
theorem dX4_busiest_38 : decode cX4_busiest 38 = .ok (.iload_n 3, 1) := by decide +kernel
theorem dX4_busiest_39 : decode cX4_busiest 39 = .ok (.invokevirtual 78, 3) := by decide +kernel
theorem dX4_busiest_42 : decode cX4_busiest 42 = .ok (.istore_n 2, 1) := by decide +kernel
theorem dX4_busiest_43 : decode cX4_busiest 43 = .ok (.iinc 3 1, 3) := by decide +kernel
theorem dX4_busiest_46 : decode cX4_busiest 46 = .ok (.goto (-39), 3) := by decide +kernel
theorem dX4_busiest_49 : decode cX4_busiest 49 = .ok (.iload_n 1, 1) := by decide +kernel
theorem dX4_busiest_50 : decode cX4_busiest 50 = .ok (.ireturn, 1) := by decide +kernel
theorem dX4_needed_0 : decode cX4_needed 0 = .ok (.iconst 0, 1) := by decide +kernel
theorem dX4_needed_1 : decode cX4_needed 1 = .ok (.istore_n 1, 1) := by decide +kernel
theorem dX4_needed_2 : decode cX4_needed 2 = .ok (.iconst 0, 1) := by decide +kernel
theorem dX4_needed_3 : decode cX4_needed 3 = .ok (.istore_n 2, 1) := by decide +kernel
theorem dX4_needed_4 : decode cX4_needed 4 = .ok (.iload_n 2, 1) := by decide +kernel
theorem dX4_needed_5 : decode cX4_needed 5 = .ok (.aload_n 0, 1) := by decide +kernel
theorem dX4_needed_6 : decode cX4_needed 6 = .ok (.getfield 34, 3) := by decide +kernel
theorem dX4_needed_9 : decode cX4_needed 9 = .ok (.if_icmp .ge 38, 3) := by decide +kernel
theorem dX4_needed_12 : decode cX4_needed 12 = .ok (.aload_n 0, 1) := by decide +kernel
theorem dX4_needed_13 : decode cX4_needed 13 = .ok (.getfield 40, 3) := by decide +kernel
theorem dX4_needed_16 : decode cX4_needed 16 = .ok (.iload_n 2, 1) := by decide +kernel
theorem dX4_needed_17 : decode cX4_needed 17 = .ok (.invokestatic 55, 3) := by decide +kernel
theorem dX4_needed_20 : decode cX4_needed 20 = .ok (.ifCond .eq 21, 3) := by decide +kernel
theorem dX4_needed_23 : decode cX4_needed 23 = .ok (.aload_n 0, 1) := by decide +kernel
theorem dX4_needed_24 : decode cX4_needed 24 = .ok (.aload_n 0, 1) := by decide +kernel
theorem dX4_needed_25 : decode cX4_needed 25 = .ok (.invokevirtual 81, 3) := by decide +kernel
theorem dX4_needed_28 : decode cX4_needed 28 = .ok (.iload_n 2, 1) := by decide +kernel
theorem dX4_needed_29 : decode cX4_needed 29 = .ok (.invokevirtual 69, 3) := by decide +kernel
theorem dX4_needed_32 : decode cX4_needed 32 = .ok (.ifCond .eq 9, 3) := by decide +kernel
theorem dX4_needed_35 : decode cX4_needed 35 = .ok (.iload_n 1, 1) := by decide +kernel
theorem dX4_needed_36 : decode cX4_needed 36 = .ok (.iconst 1, 1) := by decide +kernel
theorem dX4_needed_37 : decode cX4_needed 37 = .ok (.iload_n 2, 1) := by decide +kernel
theorem dX4_needed_38 : decode cX4_needed 38 = .ok (.ishl, 1) := by decide +kernel
theorem dX4_needed_39 : decode cX4_needed 39 = .ok (.ior, 1) := by decide +kernel
theorem dX4_needed_40 : decode cX4_needed 40 = .ok (.istore_n 1, 1) := by decide +kernel
theorem dX4_needed_41 : decode cX4_needed 41 = .ok (.iinc 2 1, 3) := by decide +kernel
theorem dX4_needed_44 : decode cX4_needed 44 = .ok (.goto (-40), 3) := by decide +kernel
theorem dX4_needed_47 : decode cX4_needed 47 = .ok (.iload_n 1, 1) := by decide +kernel
theorem dX4_needed_48 : decode cX4_needed 48 = .ok (.ireturn, 1) := by decide +kernel
theorem dX4_markOf_0 : decode cX4_markOf 0 = .ok (.iconst 0, 1) := by decide +kernel
theorem dX4_markOf_1 : decode cX4_markOf 1 = .ok (.istore_n 2, 1) := by decide +kernel
theorem dX4_markOf_2 : decode cX4_markOf 2 = .ok (.iload_n 2, 1) := by decide +kernel
theorem dX4_markOf_3 : decode cX4_markOf 3 = .ok (.aload_n 0, 1) := by decide +kernel
theorem dX4_markOf_4 : decode cX4_markOf 4 = .ok (.getfield 46, 3) := by decide +kernel
theorem dX4_markOf_7 : decode cX4_markOf 7 = .ok (.if_icmp .ge 21, 3) := by decide +kernel
theorem dX4_markOf_10 : decode cX4_markOf 10 = .ok (.aload_n 0, 1) := by decide +kernel
theorem dX4_markOf_11 : decode cX4_markOf 11 = .ok (.getfield 25, 3) := by decide +kernel
theorem dX4_markOf_14 : decode cX4_markOf 14 = .ok (.iload_n 2, 1) := by decide +kernel
theorem dX4_markOf_15 : decode cX4_markOf 15 = .ok (.iaload, 1) := by decide +kernel
theorem dX4_markOf_16 : decode cX4_markOf 16 = .ok (.iload_n 1, 1) := by decide +kernel
theorem dX4_markOf_17 : decode cX4_markOf 17 = .ok (.if_icmp .ne 5, 3) := by decide +kernel
theorem dX4_markOf_20 : decode cX4_markOf 20 = .ok (.iload_n 2, 1) := by decide +kernel
theorem dX4_markOf_21 : decode cX4_markOf 21 = .ok (.ireturn, 1) := by decide +kernel
theorem dX4_markOf_22 : decode cX4_markOf 22 = .ok (.iinc 2 1, 3) := by decide +kernel
theorem dX4_markOf_25 : decode cX4_markOf 25 = .ok (.goto (-23), 3) := by decide +kernel
theorem dX4_markOf_28 : decode cX4_markOf 28 = .ok (.bipush (-9), 2) := by decide +kernel
theorem dX4_markOf_30 : decode cX4_markOf 30 = .ok (.ireturn, 1) := by decide +kernel
theorem dX4_turnMark_0 : decode cX4_turnMark 0 = .ok (.aload_n 0, 1) := by decide +kernel
theorem dX4_turnMark_1 : decode cX4_turnMark 1 = .ok (.iload_n 1, 1) := by decide +kernel
theorem dX4_turnMark_2 : decode cX4_turnMark 2 = .ok (.invokevirtual 85, 3) := by decide +kernel
theorem dX4_turnMark_5 : decode cX4_turnMark 5 = .ok (.istore_n 2, 1) := by decide +kernel
theorem dX4_turnMark_6 : decode cX4_turnMark 6 = .ok (.iload_n 2, 1) := by decide +kernel
theorem dX4_turnMark_7 : decode cX4_turnMark 7 = .ok (.ifCond .lt 37, 3) := by decide +kernel
theorem dX4_turnMark_10 : decode cX4_turnMark 10 = .ok (.aload_n 0, 1) := by decide +kernel
theorem dX4_turnMark_11 : decode cX4_turnMark 11 = .ok (.dup, 1) := by decide +kernel
theorem dX4_turnMark_12 : decode cX4_turnMark 12 = .ok (.getfield 46, 3) := by decide +kernel
theorem dX4_turnMark_15 : decode cX4_turnMark 15 = .ok (.iconst 1, 1) := by decide +kernel
theorem dX4_turnMark_16 : decode cX4_turnMark 16 = .ok (.isub, 1) := by decide +kernel
theorem dX4_turnMark_17 : decode cX4_turnMark 17 = .ok (.putfield 46, 3) := by decide +kernel
theorem dX4_turnMark_20 : decode cX4_turnMark 20 = .ok (.aload_n 0, 1) := by decide +kernel
theorem dX4_turnMark_21 : decode cX4_turnMark 21 = .ok (.getfield 25, 3) := by decide +kernel
theorem dX4_turnMark_24 : decode cX4_turnMark 24 = .ok (.iload_n 2, 1) := by decide +kernel
theorem dX4_turnMark_25 : decode cX4_turnMark 25 = .ok (.iconst 1, 1) := by decide +kernel
theorem dX4_turnMark_26 : decode cX4_turnMark 26 = .ok (.iadd, 1) := by decide +kernel
theorem dX4_turnMark_27 : decode cX4_turnMark 27 = .ok (.aload_n 0, 1) := by decide +kernel
theorem dX4_turnMark_28 : decode cX4_turnMark 28 = .ok (.getfield 25, 3) := by decide +kernel
theorem dX4_turnMark_31 : decode cX4_turnMark 31 = .ok (.iload_n 2, 1) := by decide +kernel
theorem dX4_turnMark_32 : decode cX4_turnMark 32 = .ok (.aload_n 0, 1) := by decide +kernel
theorem dX4_turnMark_33 : decode cX4_turnMark 33 = .ok (.getfield 46, 3) := by decide +kernel
theorem dX4_turnMark_36 : decode cX4_turnMark 36 = .ok (.iload_n 2, 1) := by decide +kernel
theorem dX4_turnMark_37 : decode cX4_turnMark 37 = .ok (.isub, 1) := by decide +kernel
theorem dX4_turnMark_38 : decode cX4_turnMark 38 = .ok (.invokestatic 49, 3) := by decide +kernel
theorem dX4_turnMark_41 : decode cX4_turnMark 41 = .ok (.goto 32, 3) := by decide +kernel
theorem dX4_turnMark_44 : decode cX4_turnMark 44 = .ok (.aload_n 0, 1) := by decide +kernel
theorem dX4_turnMark_45 : decode cX4_turnMark 45 = .ok (.getfield 46, 3) := by decide +kernel
theorem dX4_turnMark_48 : decode cX4_turnMark 48 = .ok (.bipush 7, 2) := by decide +kernel
theorem dX4_turnMark_50 : decode cX4_turnMark 50 = .ok (.if_icmp .ge 23, 3) := by decide +kernel
theorem dX4_turnMark_53 : decode cX4_turnMark 53 = .ok (.aload_n 0, 1) := by decide +kernel
theorem dX4_turnMark_54 : decode cX4_turnMark 54 = .ok (.getfield 25, 3) := by decide +kernel
theorem dX4_turnMark_57 : decode cX4_turnMark 57 = .ok (.aload_n 0, 1) := by decide +kernel
theorem dX4_turnMark_58 : decode cX4_turnMark 58 = .ok (.getfield 46, 3) := by decide +kernel
theorem dX4_turnMark_61 : decode cX4_turnMark 61 = .ok (.iload_n 1, 1) := by decide +kernel
theorem dX4_turnMark_62 : decode cX4_turnMark 62 = .ok (.iastore, 1) := by decide +kernel
theorem dX4_turnMark_63 : decode cX4_turnMark 63 = .ok (.aload_n 0, 1) := by decide +kernel
theorem dX4_turnMark_64 : decode cX4_turnMark 64 = .ok (.dup, 1) := by decide +kernel
theorem dX4_turnMark_65 : decode cX4_turnMark 65 = .ok (.getfield 46, 3) := by decide +kernel
theorem dX4_turnMark_68 : decode cX4_turnMark 68 = .ok (.iconst 1, 1) := by decide +kernel
theorem dX4_turnMark_69 : decode cX4_turnMark 69 = .ok (.iadd, 1) := by decide +kernel
theorem dX4_turnMark_70 : decode cX4_turnMark 70 = .ok (.putfield 46, 3) := by decide +kernel
theorem dX4_turnMark_73 : decode cX4_turnMark 73 = .ok (.return_, 1) := by decide +kernel
theorem dX4_prune_0 : decode cX4_prune 0 = .ok (.aload_n 0, 1) := by decide +kernel
theorem dX4_prune_1 : decode cX4_prune 1 = .ok (.getfield 37, 3) := by decide +kernel
theorem dX4_prune_4 : decode cX4_prune 4 = .ok (.iconst 1, 1) := by decide +kernel
theorem dX4_prune_5 : decode cX4_prune 5 = .ok (.aload_n 0, 1) := by decide +kernel
theorem dX4_prune_6 : decode cX4_prune 6 = .ok (.getfield 28, 3) := by decide +kernel
theorem dX4_prune_9 : decode cX4_prune 9 = .ok (.ishl, 1) := by decide +kernel
theorem dX4_prune_10 : decode cX4_prune 10 = .ok (.ior, 1) := by decide +kernel
theorem dX4_prune_11 : decode cX4_prune 11 = .ok (.istore_n 1, 1) := by decide +kernel
theorem dX4_prune_12 : decode cX4_prune 12 = .ok (.iconst 0, 1) := by decide +kernel
theorem dX4_prune_13 : decode cX4_prune 13 = .ok (.istore_n 2, 1) := by decide +kernel
theorem dX4_prune_14 : decode cX4_prune 14 = .ok (.iload_n 2, 1) := by decide +kernel
theorem dX4_prune_15 : decode cX4_prune 15 = .ok (.aload_n 0, 1) := by decide +kernel
theorem dX4_prune_16 : decode cX4_prune 16 = .ok (.getfield 9, 3) := by decide +kernel
theorem dX4_prune_19 : decode cX4_prune 19 = .ok (.if_icmp .ge 67, 3) := by decide +kernel
theorem dX4_prune_22 : decode cX4_prune 22 = .ok (.iconst 0, 1) := by decide +kernel
theorem dX4_prune_23 : decode cX4_prune 23 = .ok (.istore_n 3, 1) := by decide +kernel
theorem dX4_prune_24 : decode cX4_prune 24 = .ok (.iload_n 3, 1) := by decide +kernel
theorem dX4_prune_25 : decode cX4_prune 25 = .ok (.aload_n 0, 1) := by decide +kernel
theorem dX4_prune_26 : decode cX4_prune 26 = .ok (.getfield 9, 3) := by decide +kernel
theorem dX4_prune_29 : decode cX4_prune 29 = .ok (.if_icmp .ge 51, 3) := by decide +kernel
theorem dX4_prune_32 : decode cX4_prune 32 = .ok (.aload_n 0, 1) := by decide +kernel
theorem dX4_prune_33 : decode cX4_prune 33 = .ok (.iload_n 3, 1) := by decide +kernel
theorem dX4_prune_34 : decode cX4_prune 34 = .ok (.invokevirtual 59, 3) := by decide +kernel
theorem dX4_prune_37 : decode cX4_prune 37 = .ok (.aload_n 0, 1) := by decide +kernel
theorem dX4_prune_38 : decode cX4_prune 38 = .ok (.getfield 40, 3) := by decide +kernel
theorem dX4_prune_41 : decode cX4_prune 41 = .ok (.iand, 1) := by decide +kernel
theorem dX4_prune_42 : decode cX4_prune 42 = .ok (.istore 4, 2) := by decide +kernel
theorem dX4_prune_44 : decode cX4_prune 44 = .ok (.iload_n 1, 1) := by decide +kernel
theorem dX4_prune_45 : decode cX4_prune 45 = .ok (.iload_n 3, 1) := by decide +kernel
theorem dX4_prune_46 : decode cX4_prune 46 = .ok (.invokestatic 55, 3) := by decide +kernel
theorem dX4_prune_49 : decode cX4_prune 49 = .ok (.ifCond .ne 25, 3) := by decide +kernel
theorem dX4_prune_52 : decode cX4_prune 52 = .ok (.iload 4, 2) := by decide +kernel
theorem dX4_prune_54 : decode cX4_prune 54 = .ok (.invokestatic 73, 3) := by decide +kernel
theorem dX4_prune_57 : decode cX4_prune 57 = .ok (.iconst 1, 1) := by decide +kernel
theorem dX4_prune_58 : decode cX4_prune 58 = .ok (.if_icmp .ne 16, 3) := by decide +kernel
theorem dX4_prune_61 : decode cX4_prune 61 = .ok (.aload_n 0, 1) := by decide +kernel
theorem dX4_prune_62 : decode cX4_prune 62 = .ok (.dup, 1) := by decide +kernel
theorem dX4_prune_63 : decode cX4_prune 63 = .ok (.getfield 40, 3) := by decide +kernel
theorem dX4_prune_66 : decode cX4_prune 66 = .ok (.iload 4, 2) := by decide +kernel
theorem dX4_prune_68 : decode cX4_prune 68 = .ok (.iconst (-1), 1) := by decide +kernel
theorem dX4_prune_69 : decode cX4_prune 69 = .ok (.ixor, 1) := by decide +kernel
theorem dX4_prune_70 : decode cX4_prune 70 = .ok (.iand, 1) := by decide +kernel
theorem dX4_prune_71 : decode cX4_prune 71 = .ok (.putfield 40, 3) := by decide +kernel
theorem dX4_prune_74 : decode cX4_prune 74 = .ok (.iinc 3 1, 3) := by decide +kernel
theorem dX4_prune_77 : decode cX4_prune 77 = .ok (.goto (-53), 3) := by decide +kernel
theorem dX4_prune_80 : decode cX4_prune 80 = .ok (.iinc 2 1, 3) := by decide +kernel
theorem dX4_prune_83 : decode cX4_prune 83 = .ok (.goto (-69), 3) := by decide +kernel
theorem dX4_prune_86 : decode cX4_prune 86 = .ok (.return_, 1) := by decide +kernel
theorem dX5_init_0 : decode cX5_init 0 = .ok (.aload_n 0, 1) := by decide +kernel
theorem dX5_init_1 : decode cX5_init 1 = .ok (.invokespecial 3, 3) := by decide +kernel
theorem dX5_init_4 : decode cX5_init 4 = .ok (.aload_n 0, 1) := by decide +kernel
theorem dX5_init_5 : decode cX5_init 5 = .ok (.bipush 120, 2) := by decide +kernel
theorem dX5_init_7 : decode cX5_init 7 = .ok (.newarray .int, 2) := by decide +kernel
theorem dX5_init_9 : decode cX5_init 9 = .ok (.putfield 9, 3) := by decide +kernel
theorem dX5_init_12 : decode cX5_init 12 = .ok (.return_, 1) := by decide +kernel
theorem dX5_append_0 : decode cX5_append 0 = .ok (.aload_n 0, 1) := by decide +kernel
theorem dX5_append_1 : decode cX5_append 1 = .ok (.getfield 15, 3) := by decide +kernel
theorem dX5_append_4 : decode cX5_append 4 = .ok (.bipush 120, 2) := by decide +kernel
theorem dX5_append_6 : decode cX5_append 6 = .ok (.if_icmp .lt 5, 3) := by decide +kernel
theorem dX5_append_9 : decode cX5_append 9 = .ok (.iconst 0, 1) := by decide +kernel
theorem dX5_append_10 : decode cX5_append 10 = .ok (.ireturn, 1) := by decide +kernel
theorem dX5_append_11 : decode cX5_append 11 = .ok (.aload_n 0, 1) := by decide +kernel
theorem dX5_append_12 : decode cX5_append 12 = .ok (.getfield 9, 3) := by decide +kernel
theorem dX5_append_15 : decode cX5_append 15 = .ok (.aload_n 0, 1) := by decide +kernel
theorem dX5_append_16 : decode cX5_append 16 = .ok (.getfield 15, 3) := by decide +kernel
theorem dX5_append_19 : decode cX5_append 19 = .ok (.iload_n 1, 1) := by decide +kernel
theorem dX5_append_20 : decode cX5_append 20 = .ok (.iastore, 1) := by decide +kernel
theorem dX5_append_21 : decode cX5_append 21 = .ok (.aload_n 0, 1) := by decide +kernel
theorem dX5_append_22 : decode cX5_append 22 = .ok (.dup, 1) := by decide +kernel
theorem dX5_append_23 : decode cX5_append 23 = .ok (.getfield 15, 3) := by decide +kernel
theorem dX5_append_26 : decode cX5_append 26 = .ok (.iconst 1, 1) := by decide +kernel
theorem dX5_append_27 : decode cX5_append 27 = .ok (.iadd, 1) := by decide +kernel
theorem dX5_append_28 : decode cX5_append 28 = .ok (.putfield 15, 3) := by decide +kernel
theorem dX5_append_31 : decode cX5_append 31 = .ok (.iconst 1, 1) := by decide +kernel
theorem dX5_append_32 : decode cX5_append 32 = .ok (.ireturn, 1) := by decide +kernel
theorem dX5_empty_0 : decode cX5_empty 0 = .ok (.aload_n 0, 1) := by decide +kernel
theorem dX5_empty_1 : decode cX5_empty 1 = .ok (.getfield 15, 3) := by decide +kernel
theorem dX5_empty_4 : decode cX5_empty 4 = .ok (.istore_n 1, 1) := by decide +kernel
theorem dX5_empty_5 : decode cX5_empty 5 = .ok (.aload_n 0, 1) := by decide +kernel
theorem dX5_empty_6 : decode cX5_empty 6 = .ok (.iconst 0, 1) := by decide +kernel
theorem dX5_empty_7 : decode cX5_empty 7 = .ok (.putfield 15, 3) := by decide +kernel
theorem dX5_empty_10 : decode cX5_empty 10 = .ok (.iload_n 1, 1) := by decide +kernel
theorem dX5_empty_11 : decode cX5_empty 11 = .ok (.ireturn, 1) := by decide +kernel
theorem dX5_read_0 : decode cX5_read 0 = .ok (.aload_n 1, 1) := by decide +kernel
theorem dX5_read_1 : decode cX5_read 1 = .ok (.invokevirtual 19, 3) := by decide +kernel
theorem dX5_read_4 : decode cX5_read 4 = .ok (.aload_n 0, 1) := by decide +kernel
theorem dX5_read_5 : decode cX5_read 5 = .ok (.iconst 0, 1) := by decide +kernel
theorem dX5_read_6 : decode cX5_read 6 = .ok (.putfield 24, 3) := by decide +kernel
theorem dX5_read_9 : decode cX5_read 9 = .ok (.aload_n 0, 1) := by decide +kernel
theorem dX5_read_10 : decode cX5_read 10 = .ok (.iconst 0, 1) := by decide +kernel
theorem dX5_read_11 : decode cX5_read 11 = .ok (.putfield 28, 3) := by decide +kernel
theorem dX5_read_14 : decode cX5_read 14 = .ok (.aload_n 0, 1) := by decide +kernel
theorem dX5_read_15 : decode cX5_read 15 = .ok (.invokevirtual 31, 3) := by decide +kernel
theorem dX5_read_18 : decode cX5_read 18 = .ok (.iconst 0, 1) := by decide +kernel
theorem dX5_read_19 : decode cX5_read 19 = .ok (.istore_n 2, 1) := by decide +kernel
theorem dX5_read_20 : decode cX5_read 20 = .ok (.aload_n 0, 1) := by decide +kernel
theorem dX5_read_21 : decode cX5_read 21 = .ok (.getfield 34, 3) := by decide +kernel
theorem dX5_read_24 : decode cX5_read 24 = .ok (.ifCond .eq 36, 3) := by decide +kernel
theorem dX5_read_27 : decode cX5_read 27 = .ok (.iload_n 2, 1) := by decide +kernel
theorem dX5_read_28 : decode cX5_read 28 = .ok (.bipush 120, 2) := by decide +kernel
theorem dX5_read_30 : decode cX5_read 30 = .ok (.if_icmp .ge 30, 3) := by decide +kernel
theorem dX5_read_33 : decode cX5_read 33 = .ok (.aload_n 0, 1) := by decide +kernel
theorem dX5_read_34 : decode cX5_read 34 = .ok (.aload_n 1, 1) := by decide +kernel
theorem dX5_read_35 : decode cX5_read 35 = .ok (.iload_n 2, 1) := by decide +kernel
theorem dX5_read_36 : decode cX5_read 36 = .ok (.invokevirtual 37, 3) := by decide +kernel
theorem dX5_read_39 : decode cX5_read 39 = .ok (.ifCond .ne 11, 3) := by decide +kernel
theorem dX5_read_42 : decode cX5_read 42 = .ok (.bipush (-10), 2) := by decide +kernel
theorem dX5_read_44 : decode cX5_read 44 = .ok (.aload_n 0, 1) := by decide +kernel
theorem dX5_read_45 : decode cX5_read 45 = .ok (.getfield 41, 3) := by decide +kernel
theorem dX5_read_48 : decode cX5_read 48 = .ok (.isub, 1) := by decide +kernel
theorem dX5_read_49 : decode cX5_read 49 = .ok (.ireturn, 1) := by decide +kernel
theorem dX5_read_50 : decode cX5_read 50 = .ok (.iinc 2 1, 3) := by decide +kernel
theorem dX5_read_53 : decode cX5_read 53 = .ok (.aload_n 0, 1) := by decide +kernel
theorem dX5_read_54 : decode cX5_read 54 = .ok (.invokevirtual 31, 3) := by decide +kernel
theorem dX5_read_57 : decode cX5_read 57 = .ok (.goto (-37), 3) := by decide +kernel
theorem dX5_read_60 : decode cX5_read 60 = .ok (.iload_n 2, 1) := by decide +kernel
theorem dX5_read_61 : decode cX5_read 61 = .ok (.ireturn, 1) := by decide +kernel
theorem dX5_readItem_0 : decode cX5_readItem 0 = .ok (.iconst 0, 1) := by decide +kernel
theorem dX5_readItem_1 : decode cX5_readItem 1 = .ok (.istore_n 3, 1) := by decide +kernel
theorem dX5_readItem_2 : decode cX5_readItem 2 = .ok (.aload_n 0, 1) := by decide +kernel
theorem dX5_readItem_3 : decode cX5_readItem 3 = .ok (.ldc 44, 2) := by decide +kernel
theorem dX5_readItem_5 : decode cX5_readItem 5 = .ok (.invokevirtual 46, 3) := by decide +kernel
theorem dX5_readItem_8 : decode cX5_readItem 8 = .ok (.ifCond .eq 24, 3) := by decide +kernel
theorem dX5_readItem_11 : decode cX5_readItem 11 = .ok (.iload_n 2, 1) := by decide +kernel
theorem dX5_readItem_12 : decode cX5_readItem 12 = .ok (.ifCond .ne 15, 3) := by decide +kernel
theorem dX5_readItem_15 : decode cX5_readItem 15 = .ok (.aload_n 0, 1) := by decide +kernel
theorem dX5_readItem_16 : decode cX5_readItem 16 = .ok (.aload_n 1, 1) := by decide +kernel
theorem dX5_readItem_17 : decode cX5_readItem 17 = .ok (.invokevirtual 50, 3) := by decide +kernel
theorem dX5_readItem_20 : decode cX5_readItem 20 = .ok (.ifCond .eq 7, 3) := by decide +kernel
theorem dX5_readItem_23 : decode cX5_readItem 23 = .ok (.iconst 1, 1) := by decide +kernel
theorem dX5_readItem_24 : decode cX5_readItem 24 = .ok (.goto 4, 3) := by decide +kernel
theorem dX5_readItem_27 : decode cX5_readItem 27 = .ok (.iconst 0, 1) := by decide +kernel
theorem dX5_readItem_28 : decode cX5_readItem 28 = .ok (.istore_n 3, 1) := by decide +kernel
theorem dX5_readItem_29 : decode cX5_readItem 29 = .ok (.goto 86, 3) := by decide +kernel
theorem dX5_readItem_32 : decode cX5_readItem 32 = .ok (.aload_n 0, 1) := by decide +kernel
theorem dX5_readItem_33 : decode cX5_readItem 33 = .ok (.ldc 54, 2) := by decide +kernel
theorem dX5_readItem_35 : decode cX5_readItem 35 = .ok (.invokevirtual 46, 3) := by decide +kernel
theorem dX5_readItem_38 : decode cX5_readItem 38 = .ok (.ifCond .eq 27, 3) := by decide +kernel
theorem dX5_readItem_41 : decode cX5_readItem 41 = .ok (.aload_n 0, 1) := by decide +kernel
theorem dX5_readItem_42 : decode cX5_readItem 42 = .ok (.getfield 24, 3) := by decide +kernel
theorem dX5_readItem_45 : decode cX5_readItem 45 = .ok (.ifCond .ne 15, 3) := by decide +kernel
theorem dX5_readItem_48 : decode cX5_readItem 48 = .ok (.aload_n 0, 1) := by decide +kernel
theorem dX5_readItem_49 : decode cX5_readItem 49 = .ok (.aload_n 1, 1) := by decide +kernel
theorem dX5_readItem_50 : decode cX5_readItem 50 = .ok (.invokevirtual 56, 3) := by decide +kernel
theorem dX5_readItem_53 : decode cX5_readItem 53 = .ok (.ifCond .eq 7, 3) := by decide +kernel
theorem dX5_readItem_56 : decode cX5_readItem 56 = .ok (.iconst 1, 1) := by decide +kernel
theorem dX5_readItem_57 : decode cX5_readItem 57 = .ok (.goto 4, 3) := by decide +kernel
theorem dX5_readItem_60 : decode cX5_readItem 60 = .ok (.iconst 0, 1) := by decide +kernel
theorem dX5_readItem_61 : decode cX5_readItem 61 = .ok (.istore_n 3, 1) := by decide +kernel
theorem dX5_readItem_62 : decode cX5_readItem 62 = .ok (.goto 53, 3) := by decide +kernel
theorem dX5_readItem_65 : decode cX5_readItem 65 = .ok (.aload_n 0, 1) := by decide +kernel
theorem dX5_readItem_66 : decode cX5_readItem 66 = .ok (.ldc 59, 2) := by decide +kernel
theorem dX5_readItem_68 : decode cX5_readItem 68 = .ok (.invokevirtual 46, 3) := by decide +kernel
theorem dX5_readItem_71 : decode cX5_readItem 71 = .ok (.ifCond .eq 12, 3) := by decide +kernel
theorem dX5_readItem_74 : decode cX5_readItem 74 = .ok (.aload_n 0, 1) := by decide +kernel
theorem dX5_readItem_75 : decode cX5_readItem 75 = .ok (.aload_n 1, 1) := by decide +kernel
theorem dX5_readItem_76 : decode cX5_readItem 76 = .ok (.invokevirtual 61, 3) := by decide +kernel
theorem dX5_readItem_79 : decode cX5_readItem 79 = .ok (.istore_n 3, 1) := by decide +kernel
theorem dX5_readItem_80 : decode cX5_readItem 80 = .ok (.goto 35, 3) := by decide +kernel
theorem dX5_readItem_83 : decode cX5_readItem 83 = .ok (.aload_n 0, 1) := by decide +kernel
theorem dX5_readItem_84 : decode cX5_readItem 84 = .ok (.ldc 64, 2) := by decide +kernel
theorem dX5_readItem_86 : decode cX5_readItem 86 = .ok (.invokevirtual 46, 3) := by decide +kernel
theorem dX5_readItem_89 : decode cX5_readItem 89 = .ok (.ifCond .eq 26, 3) := by decide +kernel
theorem dX5_readItem_92 : decode cX5_readItem 92 = .ok (.aload_n 1, 1) := by decide +kernel
theorem dX5_readItem_93 : decode cX5_readItem 93 = .ok (.getfield 66, 3) := by decide +kernel
theorem dX5_readItem_96 : decode cX5_readItem 96 = .ok (.bipush 12, 2) := by decide +kernel
theorem dX5_readItem_98 : decode cX5_readItem 98 = .ok (.if_icmp .ge 15, 3) := by decide +kernel
theorem dX5_readItem_101 : decode cX5_readItem 101 = .ok (.aload_n 0, 1) := by decide +kernel
theorem dX5_readItem_102 : decode cX5_readItem 102 = .ok (.aload_n 1, 1) := by decide +kernel
theorem dX5_readItem_103 : decode cX5_readItem 103 = .ok (.invokevirtual 69, 3) := by decide +kernel
theorem dX5_readItem_106 : decode cX5_readItem 106 = .ok (.ifCond .eq 7, 3) := by decide +kernel
theorem dX5_readItem_109 : decode cX5_readItem 109 = .ok (.iconst 1, 1) := by decide +kernel
theorem dX5_readItem_110 : decode cX5_readItem 110 = .ok (.goto 4, 3) := by decide +kernel
theorem dX5_readItem_113 : decode cX5_readItem 113 = .ok (.iconst 0, 1) := by decide +kernel
theorem dX5_readItem_114 : decode cX5_readItem 114 = .ok (.istore_n 3, 1) := by decide +kernel
theorem dX5_readItem_115 : decode cX5_readItem 115 = .ok (.iload_n 3, 1) := by decide +kernel
theorem dX5_readItem_116 : decode cX5_readItem 116 = .ok (.ifCond .eq 14, 3) := by decide +kernel
theorem dX5_readItem_119 : decode cX5_readItem 119 = .ok (.aload_n 0, 1) := by decide +kernel
theorem dX5_readItem_120 : decode cX5_readItem 120 = .ok (.invokevirtual 72, 3) := by decide +kernel
theorem dX5_readItem_123 : decode cX5_readItem 123 = .ok (.ifCond .eq 7, 3) := by decide +kernel
theorem dX5_readItem_126 : decode cX5_readItem 126 = .ok (.iconst 1, 1) := by decide +kernel
theorem dX5_readItem_127 : decode cX5_readItem 127 = .ok (.goto 4, 3) := by decide +kernel
theorem dX5_readItem_130 : decode cX5_readItem 130 = .ok (.iconst 0, 1) := by decide +kernel
theorem dX5_readItem_131 : decode cX5_readItem 131 = .ok (.ireturn, 1) := by decide +kernel
theorem dX5_readNodes_0 : decode cX5_readNodes 0 = .ok (.aload_n 0, 1) := by decide +kernel
theorem dX5_readNodes_1 : decode cX5_readNodes 1 = .ok (.iconst 2, 1) := by decide +kernel
theorem dX5_readNodes_2 : decode cX5_readNodes 2 = .ok (.bipush 7, 2) := by decide +kernel
theorem dX5_readNodes_4 : decode cX5_readNodes 4 = .ok (.invokevirtual 76, 3) := by decide +kernel
theorem dX5_readNodes_7 : decode cX5_readNodes 7 = .ok (.ifCond .ne 5, 3) := by decide +kernel
theorem dX5_readNodes_10 : decode cX5_readNodes 10 = .ok (.iconst 0, 1) := by decide +kernel
theorem dX5_readNodes_11 : decode cX5_readNodes 11 = .ok (.ireturn, 1) := by decide +kernel
theorem dX5_readNodes_12 : decode cX5_readNodes 12 = .ok (.aload_n 1, 1) := by decide +kernel
theorem dX5_readNodes_13 : decode cX5_readNodes 13 = .ok (.aload_n 0, 1) := by decide +kernel
theorem dX5_readNodes_14 : decode cX5_readNodes 14 = .ok (.getfield 80, 3) := by decide +kernel
theorem dX5_readNodes_17 : decode cX5_readNodes 17 = .ok (.putfield 83, 3) := by decide +kernel
theorem dX5_readNodes_20 : decode cX5_readNodes 20 = .ok (.iconst 1, 1) := by decide +kernel
theorem dX5_readNodes_21 : decode cX5_readNodes 21 = .ok (.ireturn, 1) := by decide +kernel
theorem dX5_readSource_0 : decode cX5_readSource 0 = .ok (.aload_n 0, 1) := by decide +kernel
theorem dX5_readSource_1 : decode cX5_readSource 1 = .ok (.iconst 0, 1) := by decide +kernel
theorem dX5_readSource_2 : decode cX5_readSource 2 = .ok (.aload_n 1, 1) := by decide +kernel
theorem dX5_readSource_3 : decode cX5_readSource 3 = .ok (.getfield 83, 3) := by decide +kernel
theorem dX5_readSource_6 : decode cX5_readSource 6 = .ok (.iconst 1, 1) := by decide +kernel
theorem dX5_readSource_7 : decode cX5_readSource 7 = .ok (.isub, 1) := by decide +kernel
theorem dX5_readSource_8 : decode cX5_readSource 8 = .ok (.invokevirtual 76, 3) := by decide +kernel
theorem dX5_readSource_11 : decode cX5_readSource 11 = .ok (.ifCond .ne 5, 3) := by decide +kernel
theorem dX5_readSource_14 : decode cX5_readSource 14 = .ok (.iconst 0, 1) := by decide +kernel
theorem dX5_readSource_15 : decode cX5_readSource 15 = .ok (.ireturn, 1) := by decide +kernel
theorem dX5_readSource_16 : decode cX5_readSource 16 = .ok (.aload_n 1, 1) := by decide +kernel
theorem dX5_readSource_17 : decode cX5_readSource 17 = .ok (.aload_n 0, 1) := by decide +kernel
theorem dX5_readSource_18 : decode cX5_readSource 18 = .ok (.getfield 80, 3) := by decide +kernel
theorem dX5_readSource_21 : decode cX5_readSource 21 = .ok (.putfield 85, 3) := by decide +kernel
theorem dX5_readSource_24 : decode cX5_readSource 24 = .ok (.aload_n 0, 1) := by decide +kernel
theorem dX5_readSource_25 : decode cX5_readSource 25 = .ok (.iconst 1, 1) := by decide +kernel
theorem dX5_readSource_26 : decode cX5_readSource 26 = .ok (.putfield 24, 3) := by decide +kernel
theorem dX5_readSource_29 : decode cX5_readSource 29 = .ok (.iconst 1, 1) := by decide +kernel
theorem dX5_readSource_30 : decode cX5_readSource 30 = .ok (.ireturn, 1) := by decide +kernel
theorem dX5_readLimit_0 : decode cX5_readLimit 0 = .ok (.aload_n 0, 1) := by decide +kernel
theorem dX5_readLimit_1 : decode cX5_readLimit 1 = .ok (.iconst 0, 1) := by decide +kernel
theorem dX5_readLimit_2 : decode cX5_readLimit 2 = .ok (.bipush 9, 2) := by decide +kernel
theorem dX5_readLimit_4 : decode cX5_readLimit 4 = .ok (.invokevirtual 76, 3) := by decide +kernel
theorem dX5_readLimit_7 : decode cX5_readLimit 7 = .ok (.ifCond .ne 5, 3) := by decide +kernel
theorem dX5_readLimit_10 : decode cX5_readLimit 10 = .ok (.iconst 0, 1) := by decide +kernel
theorem dX5_readLimit_11 : decode cX5_readLimit 11 = .ok (.ireturn, 1) := by decide +kernel
theorem dX5_readLimit_12 : decode cX5_readLimit 12 = .ok (.aload_n 1, 1) := by decide +kernel
theorem dX5_readLimit_13 : decode cX5_readLimit 13 = .ok (.aload_n 0, 1) := by decide +kernel
theorem dX5_readLimit_14 : decode cX5_readLimit 14 = .ok (.getfield 80, 3) := by decide +kernel
theorem dX5_readLimit_17 : decode cX5_readLimit 17 = .ok (.putfield 87, 3) := by decide +kernel
theorem dX5_readLimit_20 : decode cX5_readLimit 20 = .ok (.iconst 1, 1) := by decide +kernel
theorem dX5_readLimit_21 : decode cX5_readLimit 21 = .ok (.ireturn, 1) := by decide +kernel
theorem dX5_readLink_0 : decode cX5_readLink 0 = .ok (.aload_n 0, 1) := by decide +kernel
theorem dX5_readLink_1 : decode cX5_readLink 1 = .ok (.iconst 0, 1) := by decide +kernel
theorem dX5_readLink_2 : decode cX5_readLink 2 = .ok (.aload_n 1, 1) := by decide +kernel
theorem dX5_readLink_3 : decode cX5_readLink 3 = .ok (.getfield 83, 3) := by decide +kernel
theorem dX5_readLink_6 : decode cX5_readLink 6 = .ok (.iconst 1, 1) := by decide +kernel
theorem dX5_readLink_7 : decode cX5_readLink 7 = .ok (.isub, 1) := by decide +kernel
theorem dX5_readLink_8 : decode cX5_readLink 8 = .ok (.invokevirtual 76, 3) := by decide +kernel
theorem dX5_readLink_11 : decode cX5_readLink 11 = .ok (.ifCond .ne 5, 3) := by decide +kernel
theorem dX5_readLink_14 : decode cX5_readLink 14 = .ok (.iconst 0, 1) := by decide +kernel
theorem dX5_readLink_15 : decode cX5_readLink 15 = .ok (.ireturn, 1) := by decide +kernel
theorem dX5_readLink_16 : decode cX5_readLink 16 = .ok (.aload_n 0, 1) := by decide +kernel
theorem dX5_readLink_17 : decode cX5_readLink 17 = .ok (.getfield 80, 3) := by decide +kernel
theorem dX5_readLink_20 : decode cX5_readLink 20 = .ok (.istore_n 2, 1) := by decide +kernel
theorem dX5_readLink_21 : decode cX5_readLink 21 = .ok (.aload_n 0, 1) := by decide +kernel
theorem dX5_readLink_22 : decode cX5_readLink 22 = .ok (.iconst 0, 1) := by decide +kernel
theorem dX5_readLink_23 : decode cX5_readLink 23 = .ok (.aload_n 1, 1) := by decide +kernel
theorem dX5_readLink_24 : decode cX5_readLink 24 = .ok (.getfield 83, 3) := by decide +kernel
theorem dX5_readLink_27 : decode cX5_readLink 27 = .ok (.iconst 1, 1) := by decide +kernel
theorem dX5_readLink_28 : decode cX5_readLink 28 = .ok (.isub, 1) := by decide +kernel
theorem dX5_readLink_29 : decode cX5_readLink 29 = .ok (.invokevirtual 76, 3) := by decide +kernel
theorem dX5_readLink_32 : decode cX5_readLink 32 = .ok (.ifCond .eq 23, 3) := by decide +kernel
theorem dX5_readLink_35 : decode cX5_readLink 35 = .ok (.aload_n 0, 1) := by decide +kernel
theorem dX5_readLink_36 : decode cX5_readLink 36 = .ok (.getfield 80, 3) := by decide +kernel
theorem dX5_readLink_39 : decode cX5_readLink 39 = .ok (.iload_n 2, 1) := by decide +kernel
theorem dX5_readLink_40 : decode cX5_readLink 40 = .ok (.if_icmp .eq 15, 3) := by decide +kernel
theorem dX5_readLink_43 : decode cX5_readLink 43 = .ok (.aload_n 1, 1) := by decide +kernel
theorem dX5_readLink_44 : decode cX5_readLink 44 = .ok (.iload_n 2, 1) := by decide +kernel
theorem dX5_readLink_45 : decode cX5_readLink 45 = .ok (.aload_n 0, 1) := by decide +kernel
theorem dX5_readLink_46 : decode cX5_readLink 46 = .ok (.getfield 80, 3) := by decide +kernel
theorem dX5_readLink_49 : decode cX5_readLink 49 = .ok (.invokevirtual 89, 3) := by decide +kernel
theorem dX5_readLink_52 : decode cX5_readLink 52 = .ok (.ifCond .eq 5, 3) := by decide +kernel
theorem dX5_readLink_55 : decode cX5_readLink 55 = .ok (.iconst 0, 1) := by decide +kernel
theorem dX5_readLink_56 : decode cX5_readLink 56 = .ok (.ireturn, 1) := by decide +kernel
theorem dX5_readLink_57 : decode cX5_readLink 57 = .ok (.aload_n 0, 1) := by decide +kernel
theorem dX5_readLink_58 : decode cX5_readLink 58 = .ok (.getfield 80, 3) := by decide +kernel
theorem dX5_readLink_61 : decode cX5_readLink 61 = .ok (.istore_n 3, 1) := by decide +kernel
theorem dX5_readLink_62 : decode cX5_readLink 62 = .ok (.aload_n 0, 1) := by decide +kernel
theorem dX5_readLink_63 : decode cX5_readLink 63 = .ok (.iconst 1, 1) := by decide +kernel
theorem dX5_readLink_64 : decode cX5_readLink 64 = .ok (.bipush 9, 2) := by decide +kernel
theorem dX5_readLink_66 : decode cX5_readLink 66 = .ok (.invokevirtual 76, 3) := by decide +kernel
theorem dX5_readLink_69 : decode cX5_readLink 69 = .ok (.ifCond .ne 5, 3) := by decide +kernel
theorem dX5_readLink_72 : decode cX5_readLink 72 = .ok (.iconst 0, 1) := by decide +kernel
theorem dX5_readLink_73 : decode cX5_readLink 73 = .ok (.ireturn, 1) := by decide +kernel
theorem dX5_readLink_74 : decode cX5_readLink 74 = .ok (.aload_n 1, 1) := by decide +kernel
theorem dX5_readLink_75 : decode cX5_readLink 75 = .ok (.iload_n 2, 1) := by decide +kernel
theorem dX5_readLink_76 : decode cX5_readLink 76 = .ok (.iload_n 3, 1) := by decide +kernel
theorem dX5_readLink_77 : decode cX5_readLink 77 = .ok (.aload_n 0, 1) := by decide +kernel
theorem dX5_readLink_78 : decode cX5_readLink 78 = .ok (.getfield 80, 3) := by decide +kernel
theorem dX5_readLink_81 : decode cX5_readLink 81 = .ok (.invokevirtual 92, 3) := by decide +kernel
theorem dX5_readLink_84 : decode cX5_readLink 84 = .ok (.iconst 1, 1) := by decide +kernel
theorem dX5_readLink_85 : decode cX5_readLink 85 = .ok (.ireturn, 1) := by decide +kernel
theorem dX5_takeSemicolon_0 : decode cX5_takeSemicolon 0 = .ok (.aload_n 0, 1) := by decide +kernel
theorem dX5_takeSemicolon_1 : decode cX5_takeSemicolon 1 = .ok (.invokevirtual 31, 3) := by decide +kernel
theorem dX5_takeSemicolon_4 : decode cX5_takeSemicolon 4 = .ok (.aload_n 0, 1) := by decide +kernel
theorem dX5_takeSemicolon_5 : decode cX5_takeSemicolon 5 = .ok (.getfield 34, 3) := by decide +kernel
theorem dX5_takeSemicolon_8 : decode cX5_takeSemicolon 8 = .ok (.iconst 3, 1) := by decide +kernel
theorem dX5_takeSemicolon_9 : decode cX5_takeSemicolon 9 = .ok (.if_icmp .ne 7, 3) := by decide +kernel
theorem dX5_takeSemicolon_12 : decode cX5_takeSemicolon 12 = .ok (.iconst 1, 1) := by decide +kernel
theorem dX5_takeSemicolon_13 : decode cX5_takeSemicolon 13 = .ok (.goto 4, 3) := by decide +kernel
theorem dX5_takeSemicolon_16 : decode cX5_takeSemicolon 16 = .ok (.iconst 0, 1) := by decide +kernel
theorem dX5_takeSemicolon_17 : decode cX5_takeSemicolon 17 = .ok (.ireturn, 1) := by decide +kernel
theorem dX5_takeFigure_0 : decode cX5_takeFigure 0 = .ok (.aload_n 0, 1) := by decide +kernel
theorem dX5_takeFigure_1 : decode cX5_takeFigure 1 = .ok (.invokevirtual 31, 3) := by decide +kernel
theorem dX5_takeFigure_4 : decode cX5_takeFigure 4 = .ok (.aload_n 0, 1) := by decide +kernel
theorem dX5_takeFigure_5 : decode cX5_takeFigure 5 = .ok (.getfield 34, 3) := by decide +kernel
theorem dX5_takeFigure_8 : decode cX5_takeFigure 8 = .ok (.iconst 2, 1) := by decide +kernel
theorem dX5_takeFigure_9 : decode cX5_takeFigure 9 = .ok (.if_icmp .ne 16, 3) := by decide +kernel
theorem dX5_takeFigure_12 : decode cX5_takeFigure 12 = .ok (.aload_n 0, 1) := by decide +kernel
theorem dX5_takeFigure_13 : decode cX5_takeFigure 13 = .ok (.getfield 28, 3) := by decide +kernel
theorem dX5_takeFigure_16 : decode cX5_takeFigure 16 = .ok (.aload_n 0, 1) := by decide +kernel
theorem dX5_takeFigure_17 : decode cX5_takeFigure 17 = .ok (.getfield 41, 3) := by decide +kernel
theorem dX5_takeFigure_20 : decode cX5_takeFigure 20 = .ok (.isub, 1) := by decide +kernel
theorem dX5_takeFigure_21 : decode cX5_takeFigure 21 = .ok (.iconst 1, 1) := by decide +kernel
theorem dX5_takeFigure_22 : decode cX5_takeFigure 22 = .ok (.if_icmp .eq 5, 3) := by decide +kernel
theorem dX5_takeFigure_25 : decode cX5_takeFigure 25 = .ok (.iconst 0, 1) := by decide +kernel
theorem dX5_takeFigure_26 : decode cX5_takeFigure 26 = .ok (.ireturn, 1) := by decide +kernel
theorem dX5_takeFigure_27 : decode cX5_takeFigure 27 = .ok (.aload_n 0, 1) := by decide +kernel
theorem dX5_takeFigure_28 : decode cX5_takeFigure 28 = .ok (.aload_n 0, 1) := by decide +kernel
theorem dX5_takeFigure_29 : decode cX5_takeFigure 29 = .ok (.getfield 9, 3) := by decide +kernel
theorem dX5_takeFigure_32 : decode cX5_takeFigure 32 = .ok (.aload_n 0, 1) := by decide +kernel
theorem dX5_takeFigure_33 : decode cX5_takeFigure 33 = .ok (.getfield 41, 3) := by decide +kernel
theorem dX5_takeFigure_36 : decode cX5_takeFigure 36 = .ok (.iaload, 1) := by decide +kernel
theorem dX5_takeFigure_37 : decode cX5_takeFigure 37 = .ok (.bipush 48, 2) := by decide +kernel
theorem dX5_takeFigure_39 : decode cX5_takeFigure 39 = .ok (.isub, 1) := by decide +kernel
theorem dX5_takeFigure_40 : decode cX5_takeFigure 40 = .ok (.putfield 80, 3) := by decide +kernel
theorem dX5_takeFigure_43 : decode cX5_takeFigure 43 = .ok (.aload_n 0, 1) := by decide +kernel
theorem dX5_takeFigure_44 : decode cX5_takeFigure 44 = .ok (.getfield 80, 3) := by decide +kernel
theorem dX5_takeFigure_47 : decode cX5_takeFigure 47 = .ok (.iload_n 1, 1) := by decide +kernel
theorem dX5_takeFigure_48 : decode cX5_takeFigure 48 = .ok (.if_icmp .lt 15, 3) := by decide +kernel
theorem dX5_takeFigure_51 : decode cX5_takeFigure 51 = .ok (.aload_n 0, 1) := by decide +kernel
theorem dX5_takeFigure_52 : decode cX5_takeFigure 52 = .ok (.getfield 80, 3) := by decide +kernel
theorem dX5_takeFigure_55 : decode cX5_takeFigure 55 = .ok (.iload_n 2, 1) := by decide +kernel
theorem dX5_takeFigure_56 : decode cX5_takeFigure 56 = .ok (.if_icmp .gt 7, 3) := by decide +kernel
theorem dX5_takeFigure_59 : decode cX5_takeFigure 59 = .ok (.iconst 1, 1) := by decide +kernel
theorem dX5_takeFigure_60 : decode cX5_takeFigure 60 = .ok (.goto 4, 3) := by decide +kernel
theorem dX5_takeFigure_63 : decode cX5_takeFigure 63 = .ok (.iconst 0, 1) := by decide +kernel
theorem dX5_takeFigure_64 : decode cX5_takeFigure 64 = .ok (.ireturn, 1) := by decide +kernel
theorem dX5_takeToken_0 : decode cX5_takeToken 0 = .ok (.aload_n 0, 1) := by decide +kernel
theorem dX5_takeToken_1 : decode cX5_takeToken 1 = .ok (.aload_n 0, 1) := by decide +kernel
theorem dX5_takeToken_2 : decode cX5_takeToken 2 = .ok (.getfield 28, 3) := by decide +kernel
theorem dX5_takeToken_5 : decode cX5_takeToken 5 = .ok (.putfield 41, 3) := by decide +kernel
theorem dX5_takeToken_8 : decode cX5_takeToken 8 = .ok (.aload_n 0, 1) := by decide +kernel
theorem dX5_takeToken_9 : decode cX5_takeToken 9 = .ok (.getfield 41, 3) := by decide +kernel
theorem dX5_takeToken_12 : decode cX5_takeToken 12 = .ok (.aload_n 0, 1) := by decide +kernel
theorem dX5_takeToken_13 : decode cX5_takeToken 13 = .ok (.getfield 15, 3) := by decide +kernel
theorem dX5_takeToken_16 : decode cX5_takeToken 16 = .ok (.if_icmp .ge 30, 3) := by decide +kernel
theorem dX5_takeToken_19 : decode cX5_takeToken 19 = .ok (.aload_n 0, 1) := by decide +kernel
theorem dX5_takeToken_20 : decode cX5_takeToken 20 = .ok (.getfield 9, 3) := by decide +kernel
theorem dX5_takeToken_23 : decode cX5_takeToken 23 = .ok (.aload_n 0, 1) := by decide +kernel
theorem dX5_takeToken_24 : decode cX5_takeToken 24 = .ok (.getfield 41, 3) := by decide +kernel
theorem dX5_takeToken_27 : decode cX5_takeToken 27 = .ok (.iaload, 1) := by decide +kernel
theorem dX5_takeToken_28 : decode cX5_takeToken 28 = .ok (.bipush 32, 2) := by decide +kernel
theorem dX5_takeToken_30 : decode cX5_takeToken 30 = .ok (.if_icmp .ne 16, 3) := by decide +kernel
theorem dX5_takeToken_33 : decode cX5_takeToken 33 = .ok (.aload_n 0, 1) := by decide +kernel
theorem dX5_takeToken_34 : decode cX5_takeToken 34 = .ok (.dup, 1) := by decide +kernel
theorem dX5_takeToken_35 : decode cX5_takeToken 35 = .ok (.getfield 41, 3) := by decide +kernel
theorem dX5_takeToken_38 : decode cX5_takeToken 38 = .ok (.iconst 1, 1) := by decide +kernel
theorem dX5_takeToken_39 : decode cX5_takeToken 39 = .ok (.iadd, 1) := by decide +kernel
theorem dX5_takeToken_40 : decode cX5_takeToken 40 = .ok (.putfield 41, 3) := by decide +kernel
theorem dX5_takeToken_43 : decode cX5_takeToken 43 = .ok (.goto (-35), 3) := by decide +kernel
theorem dX5_takeToken_46 : decode cX5_takeToken 46 = .ok (.aload_n 0, 1) := by decide +kernel
theorem dX5_takeToken_47 : decode cX5_takeToken 47 = .ok (.aload_n 0, 1) := by decide +kernel
theorem dX5_takeToken_48 : decode cX5_takeToken 48 = .ok (.getfield 41, 3) := by decide +kernel
theorem dX5_takeToken_51 : decode cX5_takeToken 51 = .ok (.putfield 28, 3) := by decide +kernel
theorem dX5_takeToken_54 : decode cX5_takeToken 54 = .ok (.aload_n 0, 1) := by decide +kernel
theorem dX5_takeToken_55 : decode cX5_takeToken 55 = .ok (.getfield 41, 3) := by decide +kernel
theorem dX5_takeToken_58 : decode cX5_takeToken 58 = .ok (.aload_n 0, 1) := by decide +kernel
theorem dX5_takeToken_59 : decode cX5_takeToken 59 = .ok (.getfield 15, 3) := by decide +kernel
theorem dX5_takeToken_62 : decode cX5_takeToken 62 = .ok (.if_icmp .lt 11, 3) := by decide +kernel
theorem dX5_takeToken_65 : decode cX5_takeToken 65 = .ok (.aload_n 0, 1) := by decide +kernel
theorem dX5_takeToken_66 : decode cX5_takeToken 66 = .ok (.iconst 0, 1) := by decide +kernel
theorem dX5_takeToken_67 : decode cX5_takeToken 67 = .ok (.putfield 34, 3) := by decide +kernel
theorem dX5_takeToken_70 : decode cX5_takeToken 70 = .ok (.goto 144, 3) := by decide +kernel
theorem dX5_takeToken_73 : decode cX5_takeToken 73 = .ok (.aload_n 0, 1) := by decide +kernel
theorem dX5_takeToken_74 : decode cX5_takeToken 74 = .ok (.aload_n 0, 1) := by decide +kernel
theorem dX5_takeToken_75 : decode cX5_takeToken 75 = .ok (.getfield 41, 3) := by decide +kernel
theorem dX5_takeToken_78 : decode cX5_takeToken 78 = .ok (.invokevirtual 96, 3) := by decide +kernel
theorem dX5_takeToken_81 : decode cX5_takeToken 81 = .ok (.ifCond .eq 46, 3) := by decide +kernel
theorem dX5_takeToken_84 : decode cX5_takeToken 84 = .ok (.aload_n 0, 1) := by decide +kernel
theorem dX5_takeToken_85 : decode cX5_takeToken 85 = .ok (.getfield 28, 3) := by decide +kernel
theorem dX5_takeToken_88 : decode cX5_takeToken 88 = .ok (.aload_n 0, 1) := by decide +kernel
theorem dX5_takeToken_89 : decode cX5_takeToken 89 = .ok (.getfield 15, 3) := by decide +kernel
theorem dX5_takeToken_92 : decode cX5_takeToken 92 = .ok (.if_icmp .ge 27, 3) := by decide +kernel
theorem dX5_takeToken_95 : decode cX5_takeToken 95 = .ok (.aload_n 0, 1) := by decide +kernel
theorem dX5_takeToken_96 : decode cX5_takeToken 96 = .ok (.aload_n 0, 1) := by decide +kernel
theorem dX5_takeToken_97 : decode cX5_takeToken 97 = .ok (.getfield 28, 3) := by decide +kernel
theorem dX5_takeToken_100 : decode cX5_takeToken 100 = .ok (.invokevirtual 96, 3) := by decide +kernel
theorem dX5_takeToken_103 : decode cX5_takeToken 103 = .ok (.ifCond .eq 16, 3) := by decide +kernel
theorem dX5_takeToken_106 : decode cX5_takeToken 106 = .ok (.aload_n 0, 1) := by decide +kernel
theorem dX5_takeToken_107 : decode cX5_takeToken 107 = .ok (.dup, 1) := by decide +kernel
theorem dX5_takeToken_108 : decode cX5_takeToken 108 = .ok (.getfield 28, 3) := by decide +kernel
theorem dX5_takeToken_111 : decode cX5_takeToken 111 = .ok (.iconst 1, 1) := by decide +kernel
theorem dX5_takeToken_112 : decode cX5_takeToken 112 = .ok (.iadd, 1) := by decide +kernel
theorem dX5_takeToken_113 : decode cX5_takeToken 113 = .ok (.putfield 28, 3) := by decide +kernel
theorem dX5_takeToken_116 : decode cX5_takeToken 116 = .ok (.goto (-32), 3) := by decide +kernel
theorem dX5_takeToken_119 : decode cX5_takeToken 119 = .ok (.aload_n 0, 1) := by decide +kernel
theorem dX5_takeToken_120 : decode cX5_takeToken 120 = .ok (.iconst 2, 1) := by decide +kernel
theorem dX5_takeToken_121 : decode cX5_takeToken 121 = .ok (.putfield 34, 3) := by decide +kernel
theorem dX5_takeToken_124 : decode cX5_takeToken 124 = .ok (.goto 90, 3) := by decide +kernel
theorem dX5_takeToken_127 : decode cX5_takeToken 127 = .ok (.aload_n 0, 1) := by decide +kernel
theorem dX5_takeToken_128 : decode cX5_takeToken 128 = .ok (.aload_n 0, 1) := by decide +kernel
theorem dX5_takeToken_129 : decode cX5_takeToken 129 = .ok (.getfield 41, 3) := by decide +kernel
theorem dX5_takeToken_132 : decode cX5_takeToken 132 = .ok (.invokevirtual 100, 3) := by decide +kernel
theorem dX5_takeToken_135 : decode cX5_takeToken 135 = .ok (.ifCond .eq 46, 3) := by decide +kernel
theorem dX5_takeToken_138 : decode cX5_takeToken 138 = .ok (.aload_n 0, 1) := by decide +kernel
theorem dX5_takeToken_139 : decode cX5_takeToken 139 = .ok (.getfield 28, 3) := by decide +kernel
theorem dX5_takeToken_142 : decode cX5_takeToken 142 = .ok (.aload_n 0, 1) := by decide +kernel
theorem dX5_takeToken_143 : decode cX5_takeToken 143 = .ok (.getfield 15, 3) := by decide +kernel
theorem dX5_takeToken_146 : decode cX5_takeToken 146 = .ok (.if_icmp .ge 27, 3) := by decide +kernel
theorem dX5_takeToken_149 : decode cX5_takeToken 149 = .ok (.aload_n 0, 1) := by decide +kernel
theorem dX5_takeToken_150 : decode cX5_takeToken 150 = .ok (.aload_n 0, 1) := by decide +kernel
theorem dX5_takeToken_151 : decode cX5_takeToken 151 = .ok (.getfield 28, 3) := by decide +kernel
theorem dX5_takeToken_154 : decode cX5_takeToken 154 = .ok (.invokevirtual 100, 3) := by decide +kernel
theorem dX5_takeToken_157 : decode cX5_takeToken 157 = .ok (.ifCond .eq 16, 3) := by decide +kernel
theorem dX5_takeToken_160 : decode cX5_takeToken 160 = .ok (.aload_n 0, 1) := by decide +kernel
theorem dX5_takeToken_161 : decode cX5_takeToken 161 = .ok (.dup, 1) := by decide +kernel
theorem dX5_takeToken_162 : decode cX5_takeToken 162 = .ok (.getfield 28, 3) := by decide +kernel
theorem dX5_takeToken_165 : decode cX5_takeToken 165 = .ok (.iconst 1, 1) := by decide +kernel
theorem dX5_takeToken_166 : decode cX5_takeToken 166 = .ok (.iadd, 1) := by decide +kernel
theorem dX5_takeToken_167 : decode cX5_takeToken 167 = .ok (.putfield 28, 3) := by decide +kernel
theorem dX5_takeToken_170 : decode cX5_takeToken 170 = .ok (.goto (-32), 3) := by decide +kernel
theorem dX5_takeToken_173 : decode cX5_takeToken 173 = .ok (.aload_n 0, 1) := by decide +kernel
theorem dX5_takeToken_174 : decode cX5_takeToken 174 = .ok (.iconst 1, 1) := by decide +kernel
theorem dX5_takeToken_175 : decode cX5_takeToken 175 = .ok (.putfield 34, 3) := by decide +kernel
theorem dX5_takeToken_178 : decode cX5_takeToken 178 = .ok (.goto 36, 3) := by decide +kernel
theorem dX5_takeToken_181 : decode cX5_takeToken 181 = .ok (.aload_n 0, 1) := by decide +kernel
theorem dX5_takeToken_182 : decode cX5_takeToken 182 = .ok (.dup, 1) := by decide +kernel
theorem dX5_takeToken_183 : decode cX5_takeToken 183 = .ok (.getfield 28, 3) := by decide +kernel
theorem dX5_takeToken_186 : decode cX5_takeToken 186 = .ok (.iconst 1, 1) := by decide +kernel
theorem dX5_takeToken_187 : decode cX5_takeToken 187 = .ok (.iadd, 1) := by decide +kernel
theorem dX5_takeToken_188 : decode cX5_takeToken 188 = .ok (.putfield 28, 3) := by decide +kernel
theorem dX5_takeToken_191 : decode cX5_takeToken 191 = .ok (.aload_n 0, 1) := by decide +kernel
theorem dX5_takeToken_192 : decode cX5_takeToken 192 = .ok (.aload_n 0, 1) := by decide +kernel
theorem dX5_takeToken_193 : decode cX5_takeToken 193 = .ok (.getfield 9, 3) := by decide +kernel
theorem dX5_takeToken_196 : decode cX5_takeToken 196 = .ok (.aload_n 0, 1) := by decide +kernel
theorem dX5_takeToken_197 : decode cX5_takeToken 197 = .ok (.getfield 41, 3) := by decide +kernel
theorem dX5_takeToken_200 : decode cX5_takeToken 200 = .ok (.iaload, 1) := by decide +kernel
theorem dX5_takeToken_201 : decode cX5_takeToken 201 = .ok (.bipush 59, 2) := by decide +kernel
theorem dX5_takeToken_203 : decode cX5_takeToken 203 = .ok (.if_icmp .ne 7, 3) := by decide +kernel
theorem dX5_takeToken_206 : decode cX5_takeToken 206 = .ok (.iconst 3, 1) := by decide +kernel
theorem dX5_takeToken_207 : decode cX5_takeToken 207 = .ok (.goto 4, 3) := by decide +kernel
theorem dX5_takeToken_210 : decode cX5_takeToken 210 = .ok (.iconst 4, 1) := by decide +kernel
theorem dX5_takeToken_211 : decode cX5_takeToken 211 = .ok (.putfield 34, 3) := by decide +kernel
theorem dX5_takeToken_214 : decode cX5_takeToken 214 = .ok (.return_, 1) := by decide +kernel
theorem dX5_isFigure_0 : decode cX5_isFigure 0 = .ok (.aload_n 0, 1) := by decide +kernel
theorem dX5_isFigure_1 : decode cX5_isFigure 1 = .ok (.getfield 9, 3) := by decide +kernel
theorem dX5_isFigure_4 : decode cX5_isFigure 4 = .ok (.iload_n 1, 1) := by decide +kernel
theorem dX5_isFigure_5 : decode cX5_isFigure 5 = .ok (.iaload, 1) := by decide +kernel
theorem dX5_isFigure_6 : decode cX5_isFigure 6 = .ok (.bipush 48, 2) := by decide +kernel
theorem dX5_isFigure_8 : decode cX5_isFigure 8 = .ok (.if_icmp .lt 18, 3) := by decide +kernel
theorem dX5_isFigure_11 : decode cX5_isFigure 11 = .ok (.aload_n 0, 1) := by decide +kernel
theorem dX5_isFigure_12 : decode cX5_isFigure 12 = .ok (.getfield 9, 3) := by decide +kernel
theorem dX5_isFigure_15 : decode cX5_isFigure 15 = .ok (.iload_n 1, 1) := by decide +kernel
theorem dX5_isFigure_16 : decode cX5_isFigure 16 = .ok (.iaload, 1) := by decide +kernel
theorem dX5_isFigure_17 : decode cX5_isFigure 17 = .ok (.bipush 57, 2) := by decide +kernel
theorem dX5_isFigure_19 : decode cX5_isFigure 19 = .ok (.if_icmp .gt 7, 3) := by decide +kernel
theorem dX5_isFigure_22 : decode cX5_isFigure 22 = .ok (.iconst 1, 1) := by decide +kernel
theorem dX5_isFigure_23 : decode cX5_isFigure 23 = .ok (.goto 4, 3) := by decide +kernel
theorem dX5_isFigure_26 : decode cX5_isFigure 26 = .ok (.iconst 0, 1) := by decide +kernel
theorem dX5_isFigure_27 : decode cX5_isFigure 27 = .ok (.ireturn, 1) := by decide +kernel
theorem dX5_isSmallLetter_0 : decode cX5_isSmallLetter 0 = .ok (.aload_n 0, 1) := by decide +kernel
theorem dX5_isSmallLetter_1 : decode cX5_isSmallLetter 1 = .ok (.getfield 9, 3) := by decide +kernel
theorem dX5_isSmallLetter_4 : decode cX5_isSmallLetter 4 = .ok (.iload_n 1, 1) := by decide +kernel
theorem dX5_isSmallLetter_5 : decode cX5_isSmallLetter 5 = .ok (.iaload, 1) := by decide +kernel
theorem dX5_isSmallLetter_6 : decode cX5_isSmallLetter 6 = .ok (.bipush 97, 2) := by decide +kernel
theorem dX5_isSmallLetter_8 : decode cX5_isSmallLetter 8 = .ok (.if_icmp .lt 18, 3) := by decide +kernel
theorem dX5_isSmallLetter_11 : decode cX5_isSmallLetter 11 = .ok (.aload_n 0, 1) := by decide +kernel
theorem dX5_isSmallLetter_12 : decode cX5_isSmallLetter 12 = .ok (.getfield 9, 3) := by decide +kernel
theorem dX5_isSmallLetter_15 : decode cX5_isSmallLetter 15 = .ok (.iload_n 1, 1) := by decide +kernel
theorem dX5_isSmallLetter_16 : decode cX5_isSmallLetter 16 = .ok (.iaload, 1) := by decide +kernel
theorem dX5_isSmallLetter_17 : decode cX5_isSmallLetter 17 = .ok (.bipush 122, 2) := by decide +kernel
theorem dX5_isSmallLetter_19 : decode cX5_isSmallLetter 19 = .ok (.if_icmp .gt 7, 3) := by decide +kernel
theorem dX5_isSmallLetter_22 : decode cX5_isSmallLetter 22 = .ok (.iconst 1, 1) := by decide +kernel
theorem dX5_isSmallLetter_23 : decode cX5_isSmallLetter 23 = .ok (.goto 4, 3) := by decide +kernel
theorem dX5_isSmallLetter_26 : decode cX5_isSmallLetter 26 = .ok (.iconst 0, 1) := by decide +kernel
theorem dX5_isSmallLetter_27 : decode cX5_isSmallLetter 27 = .ok (.ireturn, 1) := by decide +kernel
theorem dX5_isWord_0 : decode cX5_isWord 0 = .ok (.aload_n 0, 1) := by decide +kernel
theorem dX5_isWord_1 : decode cX5_isWord 1 = .ok (.getfield 34, 3) := by decide +kernel
theorem dX5_isWord_4 : decode cX5_isWord 4 = .ok (.iconst 1, 1) := by decide +kernel
theorem dX5_isWord_5 : decode cX5_isWord 5 = .ok (.if_icmp .ne 19, 3) := by decide +kernel
theorem dX5_isWord_8 : decode cX5_isWord 8 = .ok (.aload_n 0, 1) := by decide +kernel
theorem dX5_isWord_9 : decode cX5_isWord 9 = .ok (.getfield 28, 3) := by decide +kernel
theorem dX5_isWord_12 : decode cX5_isWord 12 = .ok (.aload_n 0, 1) := by decide +kernel
theorem dX5_isWord_13 : decode cX5_isWord 13 = .ok (.getfield 41, 3) := by decide +kernel
theorem dX5_isWord_16 : decode cX5_isWord 16 = .ok (.isub, 1) := by decide +kernel
theorem dX5_isWord_17 : decode cX5_isWord 17 = .ok (.aload_n 1, 1) := by decide +kernel
theorem dX5_isWord_18 : decode cX5_isWord 18 = .ok (.invokevirtual 103, 3) := by decide +kernel
theorem dX5_isWord_21 : decode cX5_isWord 21 = .ok (.if_icmp .eq 5, 3) := by decide +kernel
theorem dX5_isWord_24 : decode cX5_isWord 24 = .ok (.iconst 0, 1) := by decide +kernel
theorem dX5_isWord_25 : decode cX5_isWord 25 = .ok (.ireturn, 1) := by decide +kernel
theorem dX5_isWord_26 : decode cX5_isWord 26 = .ok (.iconst 0, 1) := by decide +kernel
theorem dX5_isWord_27 : decode cX5_isWord 27 = .ok (.istore_n 2, 1) := by decide +kernel
theorem dX5_isWord_28 : decode cX5_isWord 28 = .ok (.iload_n 2, 1) := by decide +kernel
theorem dX5_isWord_29 : decode cX5_isWord 29 = .ok (.aload_n 1, 1) := by decide +kernel
theorem dX5_isWord_30 : decode cX5_isWord 30 = .ok (.invokevirtual 103, 3) := by decide +kernel
theorem dX5_isWord_33 : decode cX5_isWord 33 = .ok (.if_icmp .ge 30, 3) := by decide +kernel
theorem dX5_isWord_36 : decode cX5_isWord 36 = .ok (.aload_n 0, 1) := by decide +kernel
theorem dX5_isWord_37 : decode cX5_isWord 37 = .ok (.getfield 9, 3) := by decide +kernel
theorem dX5_isWord_40 : decode cX5_isWord 40 = .ok (.aload_n 0, 1) := by decide +kernel
theorem dX5_isWord_41 : decode cX5_isWord 41 = .ok (.getfield 41, 3) := by decide +kernel
theorem dX5_isWord_44 : decode cX5_isWord 44 = .ok (.iload_n 2, 1) := by decide +kernel
theorem dX5_isWord_45 : decode cX5_isWord 45 = .ok (.iadd, 1) := by decide +kernel
theorem dX5_isWord_46 : decode cX5_isWord 46 = .ok (.iaload, 1) := by decide +kernel
theorem dX5_isWord_47 : decode cX5_isWord 47 = .ok (.aload_n 1, 1) := by decide +kernel
theorem dX5_isWord_48 : decode cX5_isWord 48 = .ok (.iload_n 2, 1) := by decide +kernel
theorem dX5_isWord_49 : decode cX5_isWord 49 = .ok (.invokevirtual 108, 3) := by decide +kernel
theorem dX5_isWord_52 : decode cX5_isWord 52 = .ok (.if_icmp .eq 5, 3) := by decide +kernel
theorem dX5_isWord_55 : decode cX5_isWord 55 = .ok (.iconst 0, 1) := by decide +kernel
theorem dX5_isWord_56 : decode cX5_isWord 56 = .ok (.ireturn, 1) := by decide +kernel
theorem dX5_isWord_57 : decode cX5_isWord 57 = .ok (.iinc 2 1, 3) := by decide +kernel
theorem dX5_isWord_60 : decode cX5_isWord 60 = .ok (.goto (-32), 3) := by decide +kernel
theorem dX5_isWord_63 : decode cX5_isWord 63 = .ok (.iconst 1, 1) := by decide +kernel
theorem dX5_isWord_64 : decode cX5_isWord 64 = .ok (.ireturn, 1) := by decide +kernel
theorem dX6_init_0 : decode cX6_init 0 = .ok (.aload_n 0, 1) := by decide +kernel
theorem dX6_init_1 : decode cX6_init 1 = .ok (.invokespecial 3, 3) := by decide +kernel
theorem dX6_init_4 : decode cX6_init 4 = .ok (.aload_n 0, 1) := by decide +kernel
theorem dX6_init_5 : decode cX6_init 5 = .ok (.bipush 7, 2) := by decide +kernel
theorem dX6_init_7 : decode cX6_init 7 = .ok (.newarray .int, 2) := by decide +kernel
theorem dX6_init_9 : decode cX6_init 9 = .ok (.putfield 9, 3) := by decide +kernel
theorem dX6_init_12 : decode cX6_init 12 = .ok (.return_, 1) := by decide +kernel
theorem dX6_find_0 : decode cX6_find 0 = .ok (.aload_n 0, 1) := by decide +kernel
theorem dX6_find_1 : decode cX6_find 1 = .ok (.aload_n 1, 1) := by decide +kernel
theorem dX6_find_2 : decode cX6_find 2 = .ok (.aload_n 1, 1) := by decide +kernel
theorem dX6_find_3 : decode cX6_find 3 = .ok (.invokevirtual 15, 3) := by decide +kernel
theorem dX6_find_6 : decode cX6_find 6 = .ok (.aload_n 1, 1) := by decide +kernel
theorem dX6_find_7 : decode cX6_find 7 = .ok (.iload_n 2, 1) := by decide +kernel
theorem dX6_find_8 : decode cX6_find 8 = .ok (.invokevirtual 21, 3) := by decide +kernel
theorem dX6_find_11 : decode cX6_find 11 = .ok (.invokevirtual 25, 3) := by decide +kernel
theorem dX6_find_14 : decode cX6_find 14 = .ok (.return_, 1) := by decide +kernel
theorem dX6_findBy_0 : decode cX6_findBy 0 = .ok (.aload_n 0, 1) := by decide +kernel
theorem dX6_findBy_1 : decode cX6_findBy 1 = .ok (.iload_n 2, 1) := by decide +kernel
theorem dX6_findBy_2 : decode cX6_findBy 2 = .ok (.putfield 29, 3) := by decide +kernel
theorem dX6_findBy_5 : decode cX6_findBy 5 = .ok (.aload_n 0, 1) := by decide +kernel
theorem dX6_findBy_6 : decode cX6_findBy 6 = .ok (.getfield 9, 3) := by decide +kernel
theorem dX6_findBy_9 : decode cX6_findBy 9 = .ok (.ldc 33, 2) := by decide +kernel
theorem dX6_findBy_11 : decode cX6_findBy 11 = .ok (.invokestatic 34, 3) := by decide +kernel
theorem dX6_findBy_14 : decode cX6_findBy 14 = .ok (.iconst 0, 1) := by decide +kernel
theorem dX6_findBy_15 : decode cX6_findBy 15 = .ok (.istore 4, 2) := by decide +kernel
theorem dX6_findBy_17 : decode cX6_findBy 17 = .ok (.iload 4, 2) := by decide +kernel
theorem dX6_findBy_19 : decode cX6_findBy 19 = .ok (.aload_n 1, 1) := by decide +kernel
theorem dX6_findBy_20 : decode cX6_findBy 20 = .ok (.getfield 40, 3) := by decide +kernel
theorem dX6_findBy_23 : decode cX6_findBy 23 = .ok (.if_icmp .ge 26, 3) := by decide +kernel
theorem dX6_findBy_26 : decode cX6_findBy 26 = .ok (.iload_n 3, 1) := by decide +kernel
theorem dX6_findBy_27 : decode cX6_findBy 27 = .ok (.iload 4, 2) := by decide +kernel
theorem dX6_findBy_29 : decode cX6_findBy 29 = .ok (.invokestatic 43, 3) := by decide +kernel
theorem dX6_findBy_32 : decode cX6_findBy 32 = .ok (.ifCond .eq 11, 3) := by decide +kernel
theorem dX6_findBy_35 : decode cX6_findBy 35 = .ok (.aload_n 0, 1) := by decide +kernel
theorem dX6_findBy_36 : decode cX6_findBy 36 = .ok (.getfield 9, 3) := by decide +kernel
theorem dX6_findBy_39 : decode cX6_findBy 39 = .ok (.iload 4, 2) := by decide +kernel
theorem dX6_findBy_41 : decode cX6_findBy 41 = .ok (.iconst 0, 1) := by decide +kernel
theorem dX6_findBy_42 : decode cX6_findBy 42 = .ok (.iastore, 1) := by decide +kernel
theorem dX6_findBy_43 : decode cX6_findBy 43 = .ok (.iinc 4 1, 3) := by decide +kernel
theorem dX6_findBy_46 : decode cX6_findBy 46 = .ok (.goto (-29), 3) := by decide +kernel
theorem dX6_findBy_49 : decode cX6_findBy 49 = .ok (.iconst 1, 1) := by decide +kernel
theorem dX6_findBy_50 : decode cX6_findBy 50 = .ok (.istore 4, 2) := by decide +kernel
theorem dX6_findBy_52 : decode cX6_findBy 52 = .ok (.iload 4, 2) := by decide +kernel
theorem dX6_findBy_54 : decode cX6_findBy 54 = .ok (.aload_n 1, 1) := by decide +kernel
theorem dX6_findBy_55 : decode cX6_findBy 55 = .ok (.getfield 40, 3) := by decide +kernel
theorem dX6_findBy_58 : decode cX6_findBy 58 = .ok (.if_icmp .ge 63, 3) := by decide +kernel
theorem dX6_findBy_61 : decode cX6_findBy 61 = .ok (.iconst 0, 1) := by decide +kernel
theorem dX6_findBy_62 : decode cX6_findBy 62 = .ok (.istore 5, 2) := by decide +kernel
theorem dX6_findBy_64 : decode cX6_findBy 64 = .ok (.iload 5, 2) := by decide +kernel
theorem dX6_findBy_66 : decode cX6_findBy 66 = .ok (.aload_n 1, 1) := by decide +kernel
theorem dX6_findBy_67 : decode cX6_findBy 67 = .ok (.getfield 47, 3) := by decide +kernel
theorem dX6_findBy_70 : decode cX6_findBy 70 = .ok (.if_icmp .ge 45, 3) := by decide +kernel
theorem dX6_findBy_73 : decode cX6_findBy 73 = .ok (.aload_n 0, 1) := by decide +kernel
theorem dX6_findBy_74 : decode cX6_findBy 74 = .ok (.getfield 29, 3) := by decide +kernel
theorem dX6_findBy_77 : decode cX6_findBy 77 = .ok (.iload 5, 2) := by decide +kernel
theorem dX6_findBy_79 : decode cX6_findBy 79 = .ok (.invokestatic 43, 3) := by decide +kernel
theorem dX6_findBy_82 : decode cX6_findBy 82 = .ok (.ifCond .eq 27, 3) := by decide +kernel
theorem dX6_findBy_85 : decode cX6_findBy 85 = .ok (.aload_n 0, 1) := by decide +kernel
theorem dX6_findBy_86 : decode cX6_findBy 86 = .ok (.aload_n 1, 1) := by decide +kernel
theorem dX6_findBy_87 : decode cX6_findBy 87 = .ok (.getfield 50, 3) := by decide +kernel
theorem dX6_findBy_90 : decode cX6_findBy 90 = .ok (.iload 5, 2) := by decide +kernel
theorem dX6_findBy_92 : decode cX6_findBy 92 = .ok (.iaload, 1) := by decide +kernel
theorem dX6_findBy_93 : decode cX6_findBy 93 = .ok (.aload_n 1, 1) := by decide +kernel
theorem dX6_findBy_94 : decode cX6_findBy 94 = .ok (.getfield 53, 3) := by decide +kernel
theorem dX6_findBy_97 : decode cX6_findBy 97 = .ok (.iload 5, 2) := by decide +kernel
theorem dX6_findBy_99 : decode cX6_findBy 99 = .ok (.iaload, 1) := by decide +kernel
theorem dX6_findBy_100 : decode cX6_findBy 100 = .ok (.aload_n 1, 1) := by decide +kernel
theorem dX6_findBy_101 : decode cX6_findBy 101 = .ok (.iload 5, 2) := by decide +kernel
theorem dX6_findBy_103 : decode cX6_findBy 103 = .ok (.invokestatic 56, 3) := by decide +kernel
theorem dX6_findBy_106 : decode cX6_findBy 106 = .ok (.invokevirtual 60, 3) := by decide +kernel
theorem dX6_findBy_109 : decode cX6_findBy 109 = .ok (.iinc 5 1, 3) := by decide +kernel
theorem dX6_findBy_112 : decode cX6_findBy 112 = .ok (.goto (-48), 3) := by decide +kernel
theorem dX6_findBy_115 : decode cX6_findBy 115 = .ok (.iinc 4 1, 3) := by decide +kernel
theorem dX6_findBy_118 : decode cX6_findBy 118 = .ok (.goto (-66), 3) := by decide +kernel
theorem dX6_findBy_121 : decode cX6_findBy 121 = .ok (.return_, 1) := by decide +kernel
theorem dX6_shorten_0 : decode cX6_shorten 0 = .ok (.aload_n 0, 1) := by decide +kernel
theorem dX6_shorten_1 : decode cX6_shorten 1 = .ok (.getfield 9, 3) := by decide +kernel
theorem dX6_shorten_4 : decode cX6_shorten 4 = .ok (.iload_n 1, 1) := by decide +kernel
theorem dX6_shorten_5 : decode cX6_shorten 5 = .ok (.aload_n 0, 1) := by decide +kernel
theorem dX6_shorten_6 : decode cX6_shorten 6 = .ok (.getfield 9, 3) := by decide +kernel
theorem dX6_shorten_9 : decode cX6_shorten 9 = .ok (.iload_n 1, 1) := by decide +kernel
theorem dX6_shorten_10 : decode cX6_shorten 10 = .ok (.iaload, 1) := by decide +kernel
theorem dX6_shorten_11 : decode cX6_shorten 11 = .ok (.aload_n 0, 1) := by decide +kernel
theorem dX6_shorten_12 : decode cX6_shorten 12 = .ok (.getfield 9, 3) := by decide +kernel
theorem dX6_shorten_15 : decode cX6_shorten 15 = .ok (.iload_n 2, 1) := by decide +kernel
theorem dX6_shorten_16 : decode cX6_shorten 16 = .ok (.iaload, 1) := by decide +kernel
theorem dX6_shorten_17 : decode cX6_shorten 17 = .ok (.iload_n 3, 1) := by decide +kernel
theorem dX6_shorten_18 : decode cX6_shorten 18 = .ok (.iadd, 1) := by decide +kernel
theorem dX6_shorten_19 : decode cX6_shorten 19 = .ok (.invokestatic 64, 3) := by decide +kernel
theorem dX6_shorten_22 : decode cX6_shorten 22 = .ok (.iastore, 1) := by decide +kernel
theorem dX6_shorten_23 : decode cX6_shorten 23 = .ok (.aload_n 0, 1) := by decide +kernel
theorem dX6_shorten_24 : decode cX6_shorten 24 = .ok (.getfield 9, 3) := by decide +kernel
theorem dX6_shorten_27 : decode cX6_shorten 27 = .ok (.iload_n 2, 1) := by decide +kernel
theorem dX6_shorten_28 : decode cX6_shorten 28 = .ok (.aload_n 0, 1) := by decide +kernel
theorem dX6_shorten_29 : decode cX6_shorten 29 = .ok (.getfield 9, 3) := by decide +kernel
theorem dX6_shorten_32 : decode cX6_shorten 32 = .ok (.iload_n 2, 1) := by decide +kernel
theorem dX6_shorten_33 : decode cX6_shorten 33 = .ok (.iaload, 1) := by decide +kernel
theorem dX6_shorten_34 : decode cX6_shorten 34 = .ok (.aload_n 0, 1) := by decide +kernel
theorem dX6_shorten_35 : decode cX6_shorten 35 = .ok (.getfield 9, 3) := by decide +kernel
theorem dX6_shorten_38 : decode cX6_shorten 38 = .ok (.iload_n 1, 1) := by decide +kernel
theorem dX6_shorten_39 : decode cX6_shorten 39 = .ok (.iaload, 1) := by decide +kernel
theorem dX6_shorten_40 : decode cX6_shorten 40 = .ok (.iload_n 3, 1) := by decide +kernel
theorem dX6_shorten_41 : decode cX6_shorten 41 = .ok (.iadd, 1) := by decide +kernel
theorem dX6_shorten_42 : decode cX6_shorten 42 = .ok (.invokestatic 64, 3) := by decide +kernel
theorem dX6_shorten_45 : decode cX6_shorten 45 = .ok (.iastore, 1) := by decide +kernel
theorem dX6_shorten_46 : decode cX6_shorten 46 = .ok (.return_, 1) := by decide +kernel
theorem dX6_weightOf_0 : decode cX6_weightOf 0 = .ok (.aload_n 0, 1) := by decide +kernel
theorem dX6_weightOf_1 : decode cX6_weightOf 1 = .ok (.getfield 70, 3) := by decide +kernel
theorem dX6_weightOf_4 : decode cX6_weightOf 4 = .ok (.iload_n 1, 1) := by decide +kernel
theorem dX6_weightOf_5 : decode cX6_weightOf 5 = .ok (.iaload, 1) := by decide +kernel
theorem dX6_weightOf_6 : decode cX6_weightOf 6 = .ok (.bipush 16, 2) := by decide +kernel
theorem dX6_weightOf_8 : decode cX6_weightOf 8 = .ok (.imul, 1) := by decide +kernel
theorem dX6_weightOf_9 : decode cX6_weightOf 9 = .ok (.iconst 1, 1) := by decide +kernel
theorem dX6_weightOf_10 : decode cX6_weightOf 10 = .ok (.iadd, 1) := by decide +kernel
theorem dX6_weightOf_11 : decode cX6_weightOf 11 = .ok (.ireturn, 1) := by decide +kernel
theorem dX6_reach_0 : decode cX6_reach 0 = .ok (.aload_n 0, 1) := by decide +kernel
theorem dX6_reach_1 : decode cX6_reach 1 = .ok (.getfield 9, 3) := by decide +kernel
theorem dX6_reach_4 : decode cX6_reach 4 = .ok (.iload_n 1, 1) := by decide +kernel
theorem dX6_reach_5 : decode cX6_reach 5 = .ok (.iaload, 1) := by decide +kernel
theorem dX6_reach_6 : decode cX6_reach 6 = .ok (.ldc 33, 2) := by decide +kernel
theorem dX6_reach_8 : decode cX6_reach 8 = .ok (.if_icmp .ge 7, 3) := by decide +kernel
theorem dX6_reach_11 : decode cX6_reach 11 = .ok (.iconst 1, 1) := by decide +kernel
theorem dX6_reach_12 : decode cX6_reach 12 = .ok (.goto 4, 3) := by decide +kernel
theorem dX6_reach_15 : decode cX6_reach 15 = .ok (.iconst 0, 1) := by decide +kernel
theorem dX6_reach_16 : decode cX6_reach 16 = .ok (.ireturn, 1) := by decide +kernel
theorem dX6_costFrom_0 : decode cX6_costFrom 0 = .ok (.aload_n 0, 1) := by decide +kernel
theorem dX6_costFrom_1 : decode cX6_costFrom 1 = .ok (.iload_n 1, 1) := by decide +kernel
theorem dX6_costFrom_2 : decode cX6_costFrom 2 = .ok (.invokevirtual 73, 3) := by decide +kernel
theorem dX6_costFrom_5 : decode cX6_costFrom 5 = .ok (.ifCond .eq 15, 3) := by decide +kernel
theorem dX6_costFrom_8 : decode cX6_costFrom 8 = .ok (.aload_n 0, 1) := by decide +kernel
theorem dX6_costFrom_9 : decode cX6_costFrom 9 = .ok (.getfield 9, 3) := by decide +kernel
theorem dX6_costFrom_12 : decode cX6_costFrom 12 = .ok (.iload_n 1, 1) := by decide +kernel
theorem dX6_costFrom_13 : decode cX6_costFrom 13 = .ok (.iaload, 1) := by decide +kernel
theorem dX6_costFrom_14 : decode cX6_costFrom 14 = .ok (.bipush 16, 2) := by decide +kernel
theorem dX6_costFrom_16 : decode cX6_costFrom 16 = .ok (.idiv, 1) := by decide +kernel
theorem dX6_costFrom_17 : decode cX6_costFrom 17 = .ok (.goto 5, 3) := by decide +kernel
theorem dX6_costFrom_20 : decode cX6_costFrom 20 = .ok (.bipush (-9), 2) := by decide +kernel
theorem dX6_costFrom_22 : decode cX6_costFrom 22 = .ok (.ireturn, 1) := by decide +kernel
theorem dX6_stepsFrom_0 : decode cX6_stepsFrom 0 = .ok (.aload_n 0, 1) := by decide +kernel
theorem dX6_stepsFrom_1 : decode cX6_stepsFrom 1 = .ok (.iload_n 1, 1) := by decide +kernel
theorem dX6_stepsFrom_2 : decode cX6_stepsFrom 2 = .ok (.invokevirtual 73, 3) := by decide +kernel
theorem dX6_stepsFrom_5 : decode cX6_stepsFrom 5 = .ok (.ifCond .eq 15, 3) := by decide +kernel
theorem dX6_stepsFrom_8 : decode cX6_stepsFrom 8 = .ok (.aload_n 0, 1) := by decide +kernel
theorem dX6_stepsFrom_9 : decode cX6_stepsFrom 9 = .ok (.getfield 9, 3) := by decide +kernel
theorem dX6_stepsFrom_12 : decode cX6_stepsFrom 12 = .ok (.iload_n 1, 1) := by decide +kernel
theorem dX6_stepsFrom_13 : decode cX6_stepsFrom 13 = .ok (.iaload, 1) := by decide +kernel
theorem dX6_stepsFrom_14 : decode cX6_stepsFrom 14 = .ok (.bipush 16, 2) := by decide +kernel
theorem dX6_stepsFrom_16 : decode cX6_stepsFrom 16 = .ok (.irem, 1) := by decide +kernel
theorem dX6_stepsFrom_17 : decode cX6_stepsFrom 17 = .ok (.goto 5, 3) := by decide +kernel
theorem dX6_stepsFrom_20 : decode cX6_stepsFrom 20 = .ok (.bipush (-9), 2) := by decide +kernel
theorem dX6_stepsFrom_22 : decode cX6_stepsFrom 22 = .ok (.ireturn, 1) := by decide +kernel
theorem dX6_firstStep_0 : decode cX6_firstStep 0 = .ok (.bipush (-9), 2) := by decide +kernel
theorem dX6_firstStep_2 : decode cX6_firstStep 2 = .ok (.istore_n 3, 1) := by decide +kernel
theorem dX6_firstStep_3 : decode cX6_firstStep 3 = .ok (.bipush 7, 2) := by decide +kernel
theorem dX6_firstStep_5 : decode cX6_firstStep 5 = .ok (.istore 4, 2) := by decide +kernel
theorem dX6_firstStep_7 : decode cX6_firstStep 7 = .ok (.iconst 0, 1) := by decide +kernel
theorem dX6_firstStep_8 : decode cX6_firstStep 8 = .ok (.istore 5, 2) := by decide +kernel
theorem dX6_firstStep_10 : decode cX6_firstStep 10 = .ok (.iload 5, 2) := by decide +kernel
theorem dX6_firstStep_12 : decode cX6_firstStep 12 = .ok (.aload_n 1, 1) := by decide +kernel
theorem dX6_firstStep_13 : decode cX6_firstStep 13 = .ok (.getfield 47, 3) := by decide +kernel
theorem dX6_firstStep_16 : decode cX6_firstStep 16 = .ok (.if_icmp .ge 80, 3) := by decide +kernel
theorem dX6_firstStep_19 : decode cX6_firstStep 19 = .ok (.aload_n 0, 1) := by decide +kernel
theorem dX6_firstStep_20 : decode cX6_firstStep 20 = .ok (.getfield 29, 3) := by decide +kernel
theorem dX6_firstStep_23 : decode cX6_firstStep 23 = .ok (.iload 5, 2) := by decide +kernel
theorem dX6_firstStep_25 : decode cX6_firstStep 25 = .ok (.invokestatic 43, 3) := by decide +kernel
theorem dX6_firstStep_28 : decode cX6_firstStep 28 = .ok (.ifCond .eq 62, 3) := by decide +kernel
theorem dX6_firstStep_31 : decode cX6_firstStep 31 = .ok (.aload_n 1, 1) := by decide +kernel
theorem dX6_firstStep_32 : decode cX6_firstStep 32 = .ok (.iload 5, 2) := by decide +kernel
theorem dX6_firstStep_34 : decode cX6_firstStep 34 = .ok (.invokevirtual 77, 3) := by decide +kernel
theorem dX6_firstStep_37 : decode cX6_firstStep 37 = .ok (.iload_n 2, 1) := by decide +kernel
theorem dX6_firstStep_38 : decode cX6_firstStep 38 = .ok (.invokestatic 43, 3) := by decide +kernel
theorem dX6_firstStep_41 : decode cX6_firstStep 41 = .ok (.ifCond .eq 49, 3) := by decide +kernel
theorem dX6_firstStep_44 : decode cX6_firstStep 44 = .ok (.aload_n 1, 1) := by decide +kernel
theorem dX6_firstStep_45 : decode cX6_firstStep 45 = .ok (.iload 5, 2) := by decide +kernel
theorem dX6_firstStep_47 : decode cX6_firstStep 47 = .ok (.iload_n 2, 1) := by decide +kernel
theorem dX6_firstStep_48 : decode cX6_firstStep 48 = .ok (.invokestatic 80, 3) := by decide +kernel
theorem dX6_firstStep_51 : decode cX6_firstStep 51 = .ok (.istore 6, 2) := by decide +kernel
theorem dX6_firstStep_53 : decode cX6_firstStep 53 = .ok (.iload 6, 2) := by decide +kernel
theorem dX6_firstStep_55 : decode cX6_firstStep 55 = .ok (.iload 4, 2) := by decide +kernel
theorem dX6_firstStep_57 : decode cX6_firstStep 57 = .ok (.if_icmp .ge 33, 3) := by decide +kernel
theorem dX6_firstStep_60 : decode cX6_firstStep 60 = .ok (.aload_n 0, 1) := by decide +kernel
theorem dX6_firstStep_61 : decode cX6_firstStep 61 = .ok (.getfield 9, 3) := by decide +kernel
theorem dX6_firstStep_64 : decode cX6_firstStep 64 = .ok (.iload 6, 2) := by decide +kernel
theorem dX6_firstStep_66 : decode cX6_firstStep 66 = .ok (.iaload, 1) := by decide +kernel
theorem dX6_firstStep_67 : decode cX6_firstStep 67 = .ok (.aload_n 1, 1) := by decide +kernel
theorem dX6_firstStep_68 : decode cX6_firstStep 68 = .ok (.iload 5, 2) := by decide +kernel
theorem dX6_firstStep_70 : decode cX6_firstStep 70 = .ok (.invokestatic 56, 3) := by decide +kernel
theorem dX6_firstStep_73 : decode cX6_firstStep 73 = .ok (.iadd, 1) := by decide +kernel
theorem dX6_firstStep_74 : decode cX6_firstStep 74 = .ok (.aload_n 0, 1) := by decide +kernel
theorem dX6_firstStep_75 : decode cX6_firstStep 75 = .ok (.getfield 9, 3) := by decide +kernel
theorem dX6_firstStep_78 : decode cX6_firstStep 78 = .ok (.iload_n 2, 1) := by decide +kernel
theorem dX6_firstStep_79 : decode cX6_firstStep 79 = .ok (.iaload, 1) := by decide +kernel
theorem dX6_firstStep_80 : decode cX6_firstStep 80 = .ok (.if_icmp .ne 10, 3) := by decide +kernel
theorem dX6_firstStep_83 : decode cX6_firstStep 83 = .ok (.iload 5, 2) := by decide +kernel
theorem dX6_firstStep_85 : decode cX6_firstStep 85 = .ok (.istore_n 3, 1) := by decide +kernel
theorem dX6_firstStep_86 : decode cX6_firstStep 86 = .ok (.iload 6, 2) := by decide +kernel
theorem dX6_firstStep_88 : decode cX6_firstStep 88 = .ok (.istore 4, 2) := by decide +kernel
theorem dX6_firstStep_90 : decode cX6_firstStep 90 = .ok (.iinc 5 1, 3) := by decide +kernel
theorem dX6_firstStep_93 : decode cX6_firstStep 93 = .ok (.goto (-83), 3) := by decide +kernel
theorem dX6_firstStep_96 : decode cX6_firstStep 96 = .ok (.iload_n 3, 1) := by decide +kernel
theorem dX6_firstStep_97 : decode cX6_firstStep 97 = .ok (.ireturn, 1) := by decide +kernel
theorem dX6_nextNode_0 : decode cX6_nextNode 0 = .ok (.aload_n 0, 1) := by decide +kernel
theorem dX6_nextNode_1 : decode cX6_nextNode 1 = .ok (.getfield 50, 3) := by decide +kernel
theorem dX6_nextNode_4 : decode cX6_nextNode 4 = .ok (.iload_n 1, 1) := by decide +kernel
theorem dX6_nextNode_5 : decode cX6_nextNode 5 = .ok (.iaload, 1) := by decide +kernel
theorem dX6_nextNode_6 : decode cX6_nextNode 6 = .ok (.iload_n 2, 1) := by decide +kernel
theorem dX6_nextNode_7 : decode cX6_nextNode 7 = .ok (.if_icmp .ne 12, 3) := by decide +kernel
theorem dX6_nextNode_10 : decode cX6_nextNode 10 = .ok (.aload_n 0, 1) := by decide +kernel
theorem dX6_nextNode_11 : decode cX6_nextNode 11 = .ok (.getfield 53, 3) := by decide +kernel
theorem dX6_nextNode_14 : decode cX6_nextNode 14 = .ok (.iload_n 1, 1) := by decide +kernel
theorem dX6_nextNode_15 : decode cX6_nextNode 15 = .ok (.iaload, 1) := by decide +kernel
theorem dX6_nextNode_16 : decode cX6_nextNode 16 = .ok (.goto 9, 3) := by decide +kernel
theorem dX6_nextNode_19 : decode cX6_nextNode 19 = .ok (.aload_n 0, 1) := by decide +kernel
theorem dX6_nextNode_20 : decode cX6_nextNode 20 = .ok (.getfield 50, 3) := by decide +kernel
theorem dX6_nextNode_23 : decode cX6_nextNode 23 = .ok (.iload_n 1, 1) := by decide +kernel
theorem dX6_nextNode_24 : decode cX6_nextNode 24 = .ok (.iaload, 1) := by decide +kernel
theorem dX6_nextNode_25 : decode cX6_nextNode 25 = .ok (.ireturn, 1) := by decide +kernel
theorem dX6_stepAt_0 : decode cX6_stepAt 0 = .ok (.iload_n 3, 1) := by decide +kernel
theorem dX6_stepAt_1 : decode cX6_stepAt 1 = .ok (.bipush 7, 2) := by decide +kernel
theorem dX6_stepAt_3 : decode cX6_stepAt 3 = .ok (.if_icmp .lt 6, 3) := by decide +kernel
theorem dX6_stepAt_6 : decode cX6_stepAt 6 = .ok (.bipush (-9), 2) := by decide +kernel
theorem dX6_stepAt_8 : decode cX6_stepAt 8 = .ok (.ireturn, 1) := by decide +kernel
theorem dX6_stepAt_9 : decode cX6_stepAt 9 = .ok (.iload_n 2, 1) := by decide +kernel
theorem dX6_stepAt_10 : decode cX6_stepAt 10 = .ok (.istore 4, 2) := by decide +kernel
theorem dX6_stepAt_12 : decode cX6_stepAt 12 = .ok (.aload_n 0, 1) := by decide +kernel
theorem dX6_stepAt_13 : decode cX6_stepAt 13 = .ok (.aload_n 1, 1) := by decide +kernel
theorem dX6_stepAt_14 : decode cX6_stepAt 14 = .ok (.iload 4, 2) := by decide +kernel
theorem dX6_stepAt_16 : decode cX6_stepAt 16 = .ok (.invokevirtual 84, 3) := by decide +kernel
theorem dX6_stepAt_19 : decode cX6_stepAt 19 = .ok (.istore 5, 2) := by decide +kernel
theorem dX6_stepAt_21 : decode cX6_stepAt 21 = .ok (.iconst 0, 1) := by decide +kernel
theorem dX6_stepAt_22 : decode cX6_stepAt 22 = .ok (.istore 6, 2) := by decide +kernel
theorem dX6_stepAt_24 : decode cX6_stepAt 24 = .ok (.iload 6, 2) := by decide +kernel
theorem dX6_stepAt_26 : decode cX6_stepAt 26 = .ok (.iload_n 3, 1) := by decide +kernel
theorem dX6_stepAt_27 : decode cX6_stepAt 27 = .ok (.if_icmp .ge 33, 3) := by decide +kernel
theorem dX6_stepAt_30 : decode cX6_stepAt 30 = .ok (.iload 5, 2) := by decide +kernel
theorem dX6_stepAt_32 : decode cX6_stepAt 32 = .ok (.ifCond .lt 28, 3) := by decide +kernel
theorem dX6_stepAt_35 : decode cX6_stepAt 35 = .ok (.aload_n 1, 1) := by decide +kernel
theorem dX6_stepAt_36 : decode cX6_stepAt 36 = .ok (.iload 5, 2) := by decide +kernel
theorem dX6_stepAt_38 : decode cX6_stepAt 38 = .ok (.iload 4, 2) := by decide +kernel
theorem dX6_stepAt_40 : decode cX6_stepAt 40 = .ok (.invokestatic 80, 3) := by decide +kernel
theorem dX6_stepAt_43 : decode cX6_stepAt 43 = .ok (.istore 4, 2) := by decide +kernel
theorem dX6_stepAt_45 : decode cX6_stepAt 45 = .ok (.aload_n 0, 1) := by decide +kernel
theorem dX6_stepAt_46 : decode cX6_stepAt 46 = .ok (.aload_n 1, 1) := by decide +kernel
theorem dX6_stepAt_47 : decode cX6_stepAt 47 = .ok (.iload 4, 2) := by decide +kernel
theorem dX6_stepAt_49 : decode cX6_stepAt 49 = .ok (.invokevirtual 84, 3) := by decide +kernel
theorem dX6_stepAt_52 : decode cX6_stepAt 52 = .ok (.istore 5, 2) := by decide +kernel
theorem dX6_stepAt_54 : decode cX6_stepAt 54 = .ok (.iinc 6 1, 3) := by decide +kernel
theorem dX6_stepAt_57 : decode cX6_stepAt 57 = .ok (.goto (-33), 3) := by decide +kernel
theorem dX6_stepAt_60 : decode cX6_stepAt 60 = .ok (.iload 5, 2) := by decide +kernel
theorem dX6_stepAt_62 : decode cX6_stepAt 62 = .ok (.ireturn, 1) := by decide +kernel
theorem dX6_linksFrom_0 : decode cX6_linksFrom 0 = .ok (.iconst 0, 1) := by decide +kernel
theorem dX6_linksFrom_1 : decode cX6_linksFrom 1 = .ok (.istore_n 3, 1) := by decide +kernel
theorem dX6_linksFrom_2 : decode cX6_linksFrom 2 = .ok (.iload_n 2, 1) := by decide +kernel
theorem dX6_linksFrom_3 : decode cX6_linksFrom 3 = .ok (.istore 4, 2) := by decide +kernel
theorem dX6_linksFrom_5 : decode cX6_linksFrom 5 = .ok (.iconst 0, 1) := by decide +kernel
theorem dX6_linksFrom_6 : decode cX6_linksFrom 6 = .ok (.istore 5, 2) := by decide +kernel
theorem dX6_linksFrom_8 : decode cX6_linksFrom 8 = .ok (.iload 5, 2) := by decide +kernel
theorem dX6_linksFrom_10 : decode cX6_linksFrom 10 = .ok (.bipush 7, 2) := by decide +kernel
theorem dX6_linksFrom_12 : decode cX6_linksFrom 12 = .ok (.if_icmp .ge 43, 3) := by decide +kernel
theorem dX6_linksFrom_15 : decode cX6_linksFrom 15 = .ok (.aload_n 0, 1) := by decide +kernel
theorem dX6_linksFrom_16 : decode cX6_linksFrom 16 = .ok (.aload_n 1, 1) := by decide +kernel
theorem dX6_linksFrom_17 : decode cX6_linksFrom 17 = .ok (.iload 4, 2) := by decide +kernel
theorem dX6_linksFrom_19 : decode cX6_linksFrom 19 = .ok (.invokevirtual 84, 3) := by decide +kernel
theorem dX6_linksFrom_22 : decode cX6_linksFrom 22 = .ok (.istore 6, 2) := by decide +kernel
theorem dX6_linksFrom_24 : decode cX6_linksFrom 24 = .ok (.iload 6, 2) := by decide +kernel
theorem dX6_linksFrom_26 : decode cX6_linksFrom 26 = .ok (.ifCond .ge 6, 3) := by decide +kernel
theorem dX6_linksFrom_29 : decode cX6_linksFrom 29 = .ok (.goto 26, 3) := by decide +kernel
theorem dX6_linksFrom_32 : decode cX6_linksFrom 32 = .ok (.iload_n 3, 1) := by decide +kernel
theorem dX6_linksFrom_33 : decode cX6_linksFrom 33 = .ok (.iconst 1, 1) := by decide +kernel
theorem dX6_linksFrom_34 : decode cX6_linksFrom 34 = .ok (.iload 6, 2) := by decide +kernel
theorem dX6_linksFrom_36 : decode cX6_linksFrom 36 = .ok (.ishl, 1) := by decide +kernel
theorem dX6_linksFrom_37 : decode cX6_linksFrom 37 = .ok (.ior, 1) := by decide +kernel
theorem dX6_linksFrom_38 : decode cX6_linksFrom 38 = .ok (.istore_n 3, 1) := by decide +kernel
theorem dX6_linksFrom_39 : decode cX6_linksFrom 39 = .ok (.aload_n 1, 1) := by decide +kernel
theorem dX6_linksFrom_40 : decode cX6_linksFrom 40 = .ok (.iload 6, 2) := by decide +kernel
theorem dX6_linksFrom_42 : decode cX6_linksFrom 42 = .ok (.iload 4, 2) := by decide +kernel
theorem dX6_linksFrom_44 : decode cX6_linksFrom 44 = .ok (.invokestatic 80, 3) := by decide +kernel
theorem dX6_linksFrom_47 : decode cX6_linksFrom 47 = .ok (.istore 4, 2) := by decide +kernel
theorem dX6_linksFrom_49 : decode cX6_linksFrom 49 = .ok (.iinc 5 1, 3) := by decide +kernel
theorem dX6_linksFrom_52 : decode cX6_linksFrom 52 = .ok (.goto (-44), 3) := by decide +kernel
theorem dX6_linksFrom_55 : decode cX6_linksFrom 55 = .ok (.iload_n 3, 1) := by decide +kernel
theorem dX6_linksFrom_56 : decode cX6_linksFrom 56 = .ok (.ireturn, 1) := by decide +kernel
theorem dX7_init_0 : decode cX7_init 0 = .ok (.aload_n 0, 1) := by decide +kernel
theorem dX7_init_1 : decode cX7_init 1 = .ok (.invokespecial 1, 3) := by decide +kernel
theorem dX7_init_4 : decode cX7_init 4 = .ok (.aload_n 0, 1) := by decide +kernel
theorem dX7_init_5 : decode cX7_init 5 = .ok (.new 7, 3) := by decide +kernel
theorem dX7_init_8 : decode cX7_init 8 = .ok (.dup, 1) := by decide +kernel
theorem dX7_init_9 : decode cX7_init 9 = .ok (.invokespecial 9, 3) := by decide +kernel
theorem dX7_init_12 : decode cX7_init 12 = .ok (.putfield 10, 3) := by decide +kernel
theorem dX7_init_15 : decode cX7_init 15 = .ok (.aload_n 0, 1) := by decide +kernel
theorem dX7_init_16 : decode cX7_init 16 = .ok (.new 16, 3) := by decide +kernel
theorem dX7_init_19 : decode cX7_init 19 = .ok (.dup, 1) := by decide +kernel
theorem dX7_init_20 : decode cX7_init 20 = .ok (.invokespecial 18, 3) := by decide +kernel
theorem dX7_init_23 : decode cX7_init 23 = .ok (.putfield 19, 3) := by decide +kernel
theorem dX7_init_26 : decode cX7_init 26 = .ok (.aload_n 0, 1) := by decide +kernel
theorem dX7_init_27 : decode cX7_init 27 = .ok (.new 16, 3) := by decide +kernel
theorem dX7_init_30 : decode cX7_init 30 = .ok (.dup, 1) := by decide +kernel
theorem dX7_init_31 : decode cX7_init 31 = .ok (.invokespecial 18, 3) := by decide +kernel
theorem dX7_init_34 : decode cX7_init 34 = .ok (.putfield 23, 3) := by decide +kernel
theorem dX7_init_37 : decode cX7_init 37 = .ok (.aload_n 0, 1) := by decide +kernel
theorem dX7_init_38 : decode cX7_init 38 = .ok (.new 26, 3) := by decide +kernel
theorem dX7_init_41 : decode cX7_init 41 = .ok (.dup, 1) := by decide +kernel
theorem dX7_init_42 : decode cX7_init 42 = .ok (.invokespecial 28, 3) := by decide +kernel
theorem dX7_init_45 : decode cX7_init 45 = .ok (.putfield 29, 3) := by decide +kernel
theorem dX7_init_48 : decode cX7_init 48 = .ok (.aload_n 0, 1) := by decide +kernel
theorem dX7_init_49 : decode cX7_init 49 = .ok (.new 33, 3) := by decide +kernel
theorem dX7_init_52 : decode cX7_init 52 = .ok (.dup, 1) := by decide +kernel
theorem dX7_init_53 : decode cX7_init 53 = .ok (.invokespecial 35, 3) := by decide +kernel
theorem dX7_init_56 : decode cX7_init 56 = .ok (.putfield 36, 3) := by decide +kernel
theorem dX7_init_59 : decode cX7_init 59 = .ok (.aload_n 0, 1) := by decide +kernel
theorem dX7_init_60 : decode cX7_init 60 = .ok (.new 40, 3) := by decide +kernel
theorem dX7_init_63 : decode cX7_init 63 = .ok (.dup, 1) := by decide +kernel
theorem dX7_init_64 : decode cX7_init 64 = .ok (.invokespecial 42, 3) := by decide +kernel
theorem dX7_init_67 : decode cX7_init 67 = .ok (.putfield 43, 3) := by decide +kernel
theorem dX7_init_70 : decode cX7_init 70 = .ok (.aload_n 0, 1) := by decide +kernel
theorem dX7_init_71 : decode cX7_init 71 = .ok (.new 47, 3) := by decide +kernel
theorem dX7_init_74 : decode cX7_init 74 = .ok (.dup, 1) := by decide +kernel
theorem dX7_init_75 : decode cX7_init 75 = .ok (.invokespecial 49, 3) := by decide +kernel
theorem dX7_init_78 : decode cX7_init 78 = .ok (.putfield 50, 3) := by decide +kernel
theorem dX7_init_81 : decode cX7_init 81 = .ok (.aload_n 0, 1) := by decide +kernel
theorem dX7_init_82 : decode cX7_init 82 = .ok (.iconst 2, 1) := by decide +kernel
theorem dX7_init_83 : decode cX7_init 83 = .ok (.anewarray 16, 3) := by decide +kernel
theorem dX7_init_86 : decode cX7_init 86 = .ok (.putfield 54, 3) := by decide +kernel
theorem dX7_init_89 : decode cX7_init 89 = .ok (.aload_n 0, 1) := by decide +kernel
theorem dX7_init_90 : decode cX7_init 90 = .ok (.iconst 2, 1) := by decide +kernel
theorem dX7_init_91 : decode cX7_init 91 = .ok (.newarray .boolean, 2) := by decide +kernel
theorem dX7_init_93 : decode cX7_init 93 = .ok (.putfield 58, 3) := by decide +kernel
theorem dX7_init_96 : decode cX7_init 96 = .ok (.iconst 0, 1) := by decide +kernel
theorem dX7_init_97 : decode cX7_init 97 = .ok (.istore_n 1, 1) := by decide +kernel
theorem dX7_init_98 : decode cX7_init 98 = .ok (.iload_n 1, 1) := by decide +kernel
theorem dX7_init_99 : decode cX7_init 99 = .ok (.iconst 2, 1) := by decide +kernel
theorem dX7_init_100 : decode cX7_init 100 = .ok (.if_icmp .ge 22, 3) := by decide +kernel
theorem dX7_init_103 : decode cX7_init 103 = .ok (.aload_n 0, 1) := by decide +kernel
theorem dX7_init_104 : decode cX7_init 104 = .ok (.getfield 54, 3) := by decide +kernel
theorem dX7_init_107 : decode cX7_init 107 = .ok (.iload_n 1, 1) := by decide +kernel
theorem dX7_init_108 : decode cX7_init 108 = .ok (.new 16, 3) := by decide +kernel
theorem dX7_init_111 : decode cX7_init 111 = .ok (.dup, 1) := by decide +kernel
theorem dX7_init_112 : decode cX7_init 112 = .ok (.invokespecial 18, 3) := by decide +kernel
theorem dX7_init_115 : decode cX7_init 115 = .ok (.aastore, 1) := by decide +kernel
theorem dX7_init_116 : decode cX7_init 116 = .ok (.iinc 1 1, 3) := by decide +kernel
theorem dX7_init_119 : decode cX7_init 119 = .ok (.goto (-21), 3) := by decide +kernel
theorem dX7_init_122 : decode cX7_init 122 = .ok (.return_, 1) := by decide +kernel
theorem dX7_type_0 : decode cX7_type 0 = .ok (.iload_n 1, 1) := by decide +kernel
theorem dX7_type_1 : decode cX7_type 1 = .ok (.ifCond .lt 10, 3) := by decide +kernel
theorem dX7_type_4 : decode cX7_type 4 = .ok (.iload_n 1, 1) := by decide +kernel
theorem dX7_type_5 : decode cX7_type 5 = .ok (.sipush 255, 3) := by decide +kernel
theorem dX7_type_8 : decode cX7_type 8 = .ok (.if_icmp .le 5, 3) := by decide +kernel
theorem dX7_type_11 : decode cX7_type 11 = .ok (.iconst (-1), 1) := by decide +kernel
theorem dX7_type_12 : decode cX7_type 12 = .ok (.ireturn, 1) := by decide +kernel
theorem dX7_type_13 : decode cX7_type 13 = .ok (.aload_n 0, 1) := by decide +kernel
theorem dX7_type_14 : decode cX7_type 14 = .ok (.getfield 10, 3) := by decide +kernel
theorem dX7_type_17 : decode cX7_type 17 = .ok (.iload_n 1, 1) := by decide +kernel
theorem dX7_type_18 : decode cX7_type 18 = .ok (.invokevirtual 62, 3) := by decide +kernel
theorem dX7_type_21 : decode cX7_type 21 = .ok (.ifCond .eq 13, 3) := by decide +kernel
theorem dX7_type_24 : decode cX7_type 24 = .ok (.aload_n 0, 1) := by decide +kernel
theorem dX7_type_25 : decode cX7_type 25 = .ok (.getfield 10, 3) := by decide +kernel
theorem dX7_type_28 : decode cX7_type 28 = .ok (.getfield 66, 3) := by decide +kernel
theorem dX7_type_31 : decode cX7_type 31 = .ok (.goto 5, 3) := by decide +kernel
theorem dX7_type_34 : decode cX7_type 34 = .ok (.bipush (-3), 2) := by decide +kernel
theorem dX7_type_36 : decode cX7_type 36 = .ok (.ireturn, 1) := by decide +kernel
theorem dX7_clear_0 : decode cX7_clear 0 = .ok (.aload_n 0, 1) := by decide +kernel
theorem dX7_clear_1 : decode cX7_clear 1 = .ok (.getfield 10, 3) := by decide +kernel
theorem dX7_clear_4 : decode cX7_clear 4 = .ok (.invokevirtual 70, 3) := by decide +kernel
theorem dX7_clear_7 : decode cX7_clear 7 = .ok (.ireturn, 1) := by decide +kernel
theorem dX7_tells_0 : decode cX7_tells 0 = .ok (.aload_n 0, 1) := by decide +kernel
theorem dX7_tells_1 : decode cX7_tells 1 = .ok (.getfield 10, 3) := by decide +kernel
theorem dX7_tells_4 : decode cX7_tells 4 = .ok (.aload_n 0, 1) := by decide +kernel
theorem dX7_tells_5 : decode cX7_tells 5 = .ok (.getfield 23, 3) := by decide +kernel
theorem dX7_tells_8 : decode cX7_tells 8 = .ok (.invokevirtual 74, 3) := by decide +kernel
theorem dX7_tells_11 : decode cX7_tells 11 = .ok (.istore_n 1, 1) := by decide +kernel
theorem dX7_tells_12 : decode cX7_tells 12 = .ok (.iload_n 1, 1) := by decide +kernel
theorem dX7_tells_13 : decode cX7_tells 13 = .ok (.ifCond .lt 33, 3) := by decide +kernel
theorem dX7_tells_16 : decode cX7_tells 16 = .ok (.aload_n 0, 1) := by decide +kernel
theorem dX7_tells_17 : decode cX7_tells 17 = .ok (.getfield 29, 3) := by decide +kernel
theorem dX7_tells_20 : decode cX7_tells 20 = .ok (.aload_n 0, 1) := by decide +kernel
theorem dX7_tells_21 : decode cX7_tells 21 = .ok (.getfield 19, 3) := by decide +kernel
theorem dX7_tells_24 : decode cX7_tells 24 = .ok (.invokevirtual 78, 3) := by decide +kernel
theorem dX7_tells_27 : decode cX7_tells 27 = .ok (.aload_n 0, 1) := by decide +kernel
theorem dX7_tells_28 : decode cX7_tells 28 = .ok (.getfield 19, 3) := by decide +kernel
theorem dX7_tells_31 : decode cX7_tells 31 = .ok (.aload_n 0, 1) := by decide +kernel
theorem dX7_tells_32 : decode cX7_tells 32 = .ok (.getfield 23, 3) := by decide +kernel
theorem dX7_tells_35 : decode cX7_tells 35 = .ok (.invokevirtual 82, 3) := by decide +kernel
theorem dX7_tells_38 : decode cX7_tells 38 = .ok (.aload_n 0, 1) := by decide +kernel
theorem dX7_tells_39 : decode cX7_tells 39 = .ok (.getfield 10, 3) := by decide +kernel
theorem dX7_tells_42 : decode cX7_tells 42 = .ok (.invokevirtual 70, 3) := by decide +kernel
theorem dX7_tells_45 : decode cX7_tells 45 = .ok (.pop, 1) := by decide +kernel
theorem dX7_tells_46 : decode cX7_tells 46 = .ok (.iload_n 1, 1) := by decide +kernel
theorem dX7_tells_47 : decode cX7_tells 47 = .ok (.ireturn, 1) := by decide +kernel
theorem dX7_joins_0 : decode cX7_joins 0 = .ok (.aload_n 0, 1) := by decide +kernel
theorem dX7_joins_1 : decode cX7_joins 1 = .ok (.getfield 19, 3) := by decide +kernel
theorem dX7_joins_4 : decode cX7_joins 4 = .ok (.iload_n 1, 1) := by decide +kernel
theorem dX7_joins_5 : decode cX7_joins 5 = .ok (.invokevirtual 85, 3) := by decide +kernel
theorem dX7_joins_8 : decode cX7_joins 8 = .ok (.ifCond .ne 5, 3) := by decide +kernel
theorem dX7_joins_11 : decode cX7_joins 11 = .ok (.iconst (-1), 1) := by decide +kernel
theorem dX7_joins_12 : decode cX7_joins 12 = .ok (.ireturn, 1) := by decide +kernel
theorem dX7_joins_13 : decode cX7_joins 13 = .ok (.aload_n 0, 1) := by decide +kernel
theorem dX7_joins_14 : decode cX7_joins 14 = .ok (.iload_n 1, 1) := by decide +kernel
theorem dX7_joins_15 : decode cX7_joins 15 = .ok (.invokevirtual 88, 3) := by decide +kernel
theorem dX7_joins_18 : decode cX7_joins 18 = .ok (.ifCond .ne 11, 3) := by decide +kernel
theorem dX7_joins_21 : decode cX7_joins 21 = .ok (.aload_n 0, 1) := by decide +kernel
theorem dX7_joins_22 : decode cX7_joins 22 = .ok (.iload_n 1, 1) := by decide +kernel
theorem dX7_joins_23 : decode cX7_joins 23 = .ok (.invokevirtual 92, 3) := by decide +kernel
theorem dX7_joins_26 : decode cX7_joins 26 = .ok (.ifCond .ne 6, 3) := by decide +kernel
theorem dX7_joins_29 : decode cX7_joins 29 = .ok (.bipush (-2), 2) := by decide +kernel
theorem dX7_joins_31 : decode cX7_joins 31 = .ok (.ireturn, 1) := by decide +kernel
theorem dX7_joins_32 : decode cX7_joins 32 = .ok (.aload_n 0, 1) := by decide +kernel
theorem dX7_joins_33 : decode cX7_joins 33 = .ok (.getfield 29, 3) := by decide +kernel
theorem dX7_joins_36 : decode cX7_joins 36 = .ok (.aload_n 0, 1) := by decide +kernel
theorem dX7_joins_37 : decode cX7_joins 37 = .ok (.getfield 19, 3) := by decide +kernel
theorem dX7_joins_40 : decode cX7_joins 40 = .ok (.invokevirtual 78, 3) := by decide +kernel
theorem dX7_joins_43 : decode cX7_joins 43 = .ok (.aload_n 0, 1) := by decide +kernel
theorem dX7_joins_44 : decode cX7_joins 44 = .ok (.getfield 36, 3) := by decide +kernel
theorem dX7_joins_47 : decode cX7_joins 47 = .ok (.aload_n 0, 1) := by decide +kernel
theorem dX7_joins_48 : decode cX7_joins 48 = .ok (.getfield 19, 3) := by decide +kernel
theorem dX7_joins_51 : decode cX7_joins 51 = .ok (.iload_n 1, 1) := by decide +kernel
theorem dX7_joins_52 : decode cX7_joins 52 = .ok (.invokevirtual 95, 3) := by decide +kernel
theorem dX7_joins_55 : decode cX7_joins 55 = .ok (.aload_n 0, 1) := by decide +kernel
theorem dX7_joins_56 : decode cX7_joins 56 = .ok (.getfield 36, 3) := by decide +kernel
theorem dX7_joins_59 : decode cX7_joins 59 = .ok (.aload_n 0, 1) := by decide +kernel
theorem dX7_joins_60 : decode cX7_joins 60 = .ok (.getfield 19, 3) := by decide +kernel
theorem dX7_joins_63 : decode cX7_joins 63 = .ok (.iload_n 1, 1) := by decide +kernel
theorem dX7_joins_64 : decode cX7_joins 64 = .ok (.invokevirtual 99, 3) := by decide +kernel
theorem dX7_joins_67 : decode cX7_joins 67 = .ok (.aload_n 0, 1) := by decide +kernel
theorem dX7_joins_68 : decode cX7_joins 68 = .ok (.getfield 19, 3) := by decide +kernel
theorem dX7_joins_71 : decode cX7_joins 71 = .ok (.aload_n 0, 1) := by decide +kernel
theorem dX7_joins_72 : decode cX7_joins 72 = .ok (.getfield 19, 3) := by decide +kernel
theorem dX7_joins_75 : decode cX7_joins 75 = .ok (.getfield 102, 3) := by decide +kernel
theorem dX7_joins_78 : decode cX7_joins 78 = .ok (.invokevirtual 105, 3) := by decide +kernel
theorem dX7_joins_81 : decode cX7_joins 81 = .ok (.ireturn, 1) := by decide +kernel
theorem dX7_leaves_0 : decode cX7_leaves 0 = .ok (.aload_n 0, 1) := by decide +kernel
theorem dX7_leaves_1 : decode cX7_leaves 1 = .ok (.getfield 19, 3) := by decide +kernel
theorem dX7_leaves_4 : decode cX7_leaves 4 = .ok (.iload_n 1, 1) := by decide +kernel
theorem dX7_leaves_5 : decode cX7_leaves 5 = .ok (.invokevirtual 85, 3) := by decide +kernel
theorem dX7_leaves_8 : decode cX7_leaves 8 = .ok (.ifCond .ne 5, 3) := by decide +kernel
theorem dX7_leaves_11 : decode cX7_leaves 11 = .ok (.iconst (-1), 1) := by decide +kernel
theorem dX7_leaves_12 : decode cX7_leaves 12 = .ok (.ireturn, 1) := by decide +kernel
theorem dX7_leaves_13 : decode cX7_leaves 13 = .ok (.aload_n 0, 1) := by decide +kernel
theorem dX7_leaves_14 : decode cX7_leaves 14 = .ok (.getfield 19, 3) := by decide +kernel
theorem dX7_leaves_17 : decode cX7_leaves 17 = .ok (.iload_n 1, 1) := by decide +kernel
theorem dX7_leaves_18 : decode cX7_leaves 18 = .ok (.invokevirtual 108, 3) := by decide +kernel
theorem dX7_leaves_21 : decode cX7_leaves 21 = .ok (.ifCond .ne 6, 3) := by decide +kernel
theorem dX7_leaves_24 : decode cX7_leaves 24 = .ok (.bipush (-2), 2) := by decide +kernel
theorem dX7_leaves_26 : decode cX7_leaves 26 = .ok (.ireturn, 1) := by decide +kernel
theorem dX7_leaves_27 : decode cX7_leaves 27 = .ok (.aload_n 0, 1) := by decide +kernel
theorem dX7_leaves_28 : decode cX7_leaves 28 = .ok (.getfield 29, 3) := by decide +kernel
theorem dX7_leaves_31 : decode cX7_leaves 31 = .ok (.aload_n 0, 1) := by decide +kernel
theorem dX7_leaves_32 : decode cX7_leaves 32 = .ok (.getfield 19, 3) := by decide +kernel
theorem dX7_leaves_35 : decode cX7_leaves 35 = .ok (.invokevirtual 78, 3) := by decide +kernel
theorem dX7_leaves_38 : decode cX7_leaves 38 = .ok (.aload_n 0, 1) := by decide +kernel
theorem dX7_leaves_39 : decode cX7_leaves 39 = .ok (.getfield 36, 3) := by decide +kernel
theorem dX7_leaves_42 : decode cX7_leaves 42 = .ok (.aload_n 0, 1) := by decide +kernel
theorem dX7_leaves_43 : decode cX7_leaves 43 = .ok (.getfield 19, 3) := by decide +kernel
theorem dX7_leaves_46 : decode cX7_leaves 46 = .ok (.iload_n 1, 1) := by decide +kernel
theorem dX7_leaves_47 : decode cX7_leaves 47 = .ok (.invokevirtual 111, 3) := by decide +kernel
theorem dX7_leaves_50 : decode cX7_leaves 50 = .ok (.aload_n 0, 1) := by decide +kernel
theorem dX7_leaves_51 : decode cX7_leaves 51 = .ok (.getfield 36, 3) := by decide +kernel
theorem dX7_leaves_54 : decode cX7_leaves 54 = .ok (.aload_n 0, 1) := by decide +kernel
theorem dX7_leaves_55 : decode cX7_leaves 55 = .ok (.getfield 19, 3) := by decide +kernel
theorem dX7_leaves_58 : decode cX7_leaves 58 = .ok (.iload_n 1, 1) := by decide +kernel
theorem dX7_leaves_59 : decode cX7_leaves 59 = .ok (.invokevirtual 99, 3) := by decide +kernel
theorem dX7_leaves_62 : decode cX7_leaves 62 = .ok (.aload_n 0, 1) := by decide +kernel
theorem dX7_leaves_63 : decode cX7_leaves 63 = .ok (.getfield 19, 3) := by decide +kernel
theorem dX7_leaves_66 : decode cX7_leaves 66 = .ok (.aload_n 0, 1) := by decide +kernel
theorem dX7_leaves_67 : decode cX7_leaves 67 = .ok (.getfield 19, 3) := by decide +kernel
theorem dX7_leaves_70 : decode cX7_leaves 70 = .ok (.getfield 102, 3) := by decide +kernel
theorem dX7_leaves_73 : decode cX7_leaves 73 = .ok (.invokevirtual 105, 3) := by decide +kernel
theorem dX7_leaves_76 : decode cX7_leaves 76 = .ok (.ireturn, 1) := by decide +kernel
theorem dX7_rearranges_0 : decode cX7_rearranges 0 = .ok (.aload_n 0, 1) := by decide +kernel
theorem dX7_rearranges_1 : decode cX7_rearranges 1 = .ok (.getfield 19, 3) := by decide +kernel
theorem dX7_rearranges_4 : decode cX7_rearranges 4 = .ok (.aload_n 0, 1) := by decide +kernel
theorem dX7_rearranges_5 : decode cX7_rearranges 5 = .ok (.getfield 19, 3) := by decide +kernel
theorem dX7_rearranges_8 : decode cX7_rearranges 8 = .ok (.getfield 102, 3) := by decide +kernel
theorem dX7_rearranges_11 : decode cX7_rearranges 11 = .ok (.invokevirtual 105, 3) := by decide +kernel
theorem dX7_rearranges_14 : decode cX7_rearranges 14 = .ok (.aload_n 0, 1) := by decide +kernel
theorem dX7_rearranges_15 : decode cX7_rearranges 15 = .ok (.getfield 19, 3) := by decide +kernel
theorem dX7_rearranges_18 : decode cX7_rearranges 18 = .ok (.aload_n 0, 1) := by decide +kernel
theorem dX7_rearranges_19 : decode cX7_rearranges 19 = .ok (.getfield 36, 3) := by decide +kernel
theorem dX7_rearranges_22 : decode cX7_rearranges 22 = .ok (.aload_n 0, 1) := by decide +kernel
theorem dX7_rearranges_23 : decode cX7_rearranges 23 = .ok (.getfield 19, 3) := by decide +kernel
theorem dX7_rearranges_26 : decode cX7_rearranges 26 = .ok (.invokevirtual 114, 3) := by decide +kernel
theorem dX7_rearranges_29 : decode cX7_rearranges 29 = .ok (.invokevirtual 105, 3) := by decide +kernel
theorem dX7_rearranges_32 : decode cX7_rearranges 32 = .ok (.isub, 1) := by decide +kernel
theorem dX7_rearranges_33 : decode cX7_rearranges 33 = .ok (.istore_n 1, 1) := by decide +kernel
theorem dX7_rearranges_34 : decode cX7_rearranges 34 = .ok (.iload_n 1, 1) := by decide +kernel
theorem dX7_rearranges_35 : decode cX7_rearranges 35 = .ok (.ifCond .gt 6, 3) := by decide +kernel
theorem dX7_rearranges_38 : decode cX7_rearranges 38 = .ok (.bipush (-2), 2) := by decide +kernel
theorem dX7_rearranges_40 : decode cX7_rearranges 40 = .ok (.ireturn, 1) := by decide +kernel
theorem dX7_rearranges_41 : decode cX7_rearranges 41 = .ok (.aload_n 0, 1) := by decide +kernel
theorem dX7_rearranges_42 : decode cX7_rearranges 42 = .ok (.getfield 29, 3) := by decide +kernel
theorem dX7_rearranges_45 : decode cX7_rearranges 45 = .ok (.aload_n 0, 1) := by decide +kernel
theorem dX7_rearranges_46 : decode cX7_rearranges 46 = .ok (.getfield 19, 3) := by decide +kernel
theorem dX7_rearranges_49 : decode cX7_rearranges 49 = .ok (.invokevirtual 78, 3) := by decide +kernel
theorem dX7_rearranges_52 : decode cX7_rearranges 52 = .ok (.aload_n 0, 1) := by decide +kernel
theorem dX7_rearranges_53 : decode cX7_rearranges 53 = .ok (.getfield 36, 3) := by decide +kernel
theorem dX7_rearranges_56 : decode cX7_rearranges 56 = .ok (.aload_n 0, 1) := by decide +kernel
theorem dX7_rearranges_57 : decode cX7_rearranges 57 = .ok (.getfield 19, 3) := by decide +kernel
theorem dX7_rearranges_60 : decode cX7_rearranges 60 = .ok (.invokevirtual 117, 3) := by decide +kernel
theorem dX7_rearranges_63 : decode cX7_rearranges 63 = .ok (.iload_n 1, 1) := by decide +kernel
theorem dX7_rearranges_64 : decode cX7_rearranges 64 = .ok (.ireturn, 1) := by decide +kernel
theorem dX7_cuts_0 : decode cX7_cuts 0 = .ok (.aload_n 0, 1) := by decide +kernel
theorem dX7_cuts_1 : decode cX7_cuts 1 = .ok (.getfield 19, 3) := by decide +kernel
theorem dX7_cuts_4 : decode cX7_cuts 4 = .ok (.iload_n 1, 1) := by decide +kernel
theorem dX7_cuts_5 : decode cX7_cuts 5 = .ok (.invokevirtual 120, 3) := by decide +kernel
theorem dX7_cuts_8 : decode cX7_cuts 8 = .ok (.ifCond .ne 5, 3) := by decide +kernel
theorem dX7_cuts_11 : decode cX7_cuts 11 = .ok (.iconst (-1), 1) := by decide +kernel
theorem dX7_cuts_12 : decode cX7_cuts 12 = .ok (.ireturn, 1) := by decide +kernel
theorem dX7_cuts_13 : decode cX7_cuts 13 = .ok (.aload_n 0, 1) := by decide +kernel
theorem dX7_cuts_14 : decode cX7_cuts 14 = .ok (.getfield 19, 3) := by decide +kernel
theorem dX7_cuts_17 : decode cX7_cuts 17 = .ok (.getfield 123, 3) := by decide +kernel
theorem dX7_cuts_20 : decode cX7_cuts 20 = .ok (.iload_n 1, 1) := by decide +kernel
theorem dX7_cuts_21 : decode cX7_cuts 21 = .ok (.invokestatic 126, 3) := by decide +kernel
theorem dX7_cuts_24 : decode cX7_cuts 24 = .ok (.ifCond .eq 6, 3) := by decide +kernel
theorem dX7_cuts_27 : decode cX7_cuts 27 = .ok (.bipush (-2), 2) := by decide +kernel
theorem dX7_cuts_29 : decode cX7_cuts 29 = .ok (.ireturn, 1) := by decide +kernel
theorem dX7_cuts_30 : decode cX7_cuts 30 = .ok (.aload_n 0, 1) := by decide +kernel
theorem dX7_cuts_31 : decode cX7_cuts 31 = .ok (.getfield 29, 3) := by decide +kernel
theorem dX7_cuts_34 : decode cX7_cuts 34 = .ok (.aload_n 0, 1) := by decide +kernel
theorem dX7_cuts_35 : decode cX7_cuts 35 = .ok (.getfield 19, 3) := by decide +kernel
theorem dX7_cuts_38 : decode cX7_cuts 38 = .ok (.invokevirtual 78, 3) := by decide +kernel
theorem dX7_cuts_41 : decode cX7_cuts 41 = .ok (.aload_n 0, 1) := by decide +kernel
theorem dX7_cuts_42 : decode cX7_cuts 42 = .ok (.getfield 36, 3) := by decide +kernel
theorem dX7_cuts_45 : decode cX7_cuts 45 = .ok (.aload_n 0, 1) := by decide +kernel
theorem dX7_cuts_46 : decode cX7_cuts 46 = .ok (.getfield 19, 3) := by decide +kernel
theorem dX7_cuts_49 : decode cX7_cuts 49 = .ok (.iload_n 1, 1) := by decide +kernel
theorem dX7_cuts_50 : decode cX7_cuts 50 = .ok (.invokevirtual 130, 3) := by decide +kernel
theorem dX7_cuts_53 : decode cX7_cuts 53 = .ok (.ireturn, 1) := by decide +kernel
theorem dX7_mends_0 : decode cX7_mends 0 = .ok (.aload_n 0, 1) := by decide +kernel
theorem dX7_mends_1 : decode cX7_mends 1 = .ok (.getfield 19, 3) := by decide +kernel
theorem dX7_mends_4 : decode cX7_mends 4 = .ok (.iload_n 1, 1) := by decide +kernel
theorem dX7_mends_5 : decode cX7_mends 5 = .ok (.invokevirtual 120, 3) := by decide +kernel
theorem dX7_mends_8 : decode cX7_mends 8 = .ok (.ifCond .ne 5, 3) := by decide +kernel
theorem dX7_mends_11 : decode cX7_mends 11 = .ok (.iconst (-1), 1) := by decide +kernel
theorem dX7_mends_12 : decode cX7_mends 12 = .ok (.ireturn, 1) := by decide +kernel
theorem dX7_mends_13 : decode cX7_mends 13 = .ok (.aload_n 0, 1) := by decide +kernel
theorem dX7_mends_14 : decode cX7_mends 14 = .ok (.getfield 19, 3) := by decide +kernel
theorem dX7_mends_17 : decode cX7_mends 17 = .ok (.getfield 123, 3) := by decide +kernel
theorem dX7_mends_20 : decode cX7_mends 20 = .ok (.iload_n 1, 1) := by decide +kernel
theorem dX7_mends_21 : decode cX7_mends 21 = .ok (.invokestatic 126, 3) := by decide +kernel
theorem dX7_mends_24 : decode cX7_mends 24 = .ok (.ifCond .ne 6, 3) := by decide +kernel
theorem dX7_mends_27 : decode cX7_mends 27 = .ok (.bipush (-2), 2) := by decide +kernel
theorem dX7_mends_29 : decode cX7_mends 29 = .ok (.ireturn, 1) := by decide +kernel
theorem dX7_mends_30 : decode cX7_mends 30 = .ok (.aload_n 0, 1) := by decide +kernel
theorem dX7_mends_31 : decode cX7_mends 31 = .ok (.getfield 29, 3) := by decide +kernel
theorem dX7_mends_34 : decode cX7_mends 34 = .ok (.aload_n 0, 1) := by decide +kernel
theorem dX7_mends_35 : decode cX7_mends 35 = .ok (.getfield 19, 3) := by decide +kernel
theorem dX7_mends_38 : decode cX7_mends 38 = .ok (.invokevirtual 78, 3) := by decide +kernel
theorem dX7_mends_41 : decode cX7_mends 41 = .ok (.aload_n 0, 1) := by decide +kernel
theorem dX7_mends_42 : decode cX7_mends 42 = .ok (.getfield 19, 3) := by decide +kernel
theorem dX7_mends_45 : decode cX7_mends 45 = .ok (.dup, 1) := by decide +kernel
theorem dX7_mends_46 : decode cX7_mends 46 = .ok (.getfield 123, 3) := by decide +kernel
theorem dX7_mends_49 : decode cX7_mends 49 = .ok (.iconst 1, 1) := by decide +kernel
theorem dX7_mends_50 : decode cX7_mends 50 = .ok (.iload_n 1, 1) := by decide +kernel
theorem dX7_mends_51 : decode cX7_mends 51 = .ok (.ishl, 1) := by decide +kernel
theorem dX7_mends_52 : decode cX7_mends 52 = .ok (.iconst (-1), 1) := by decide +kernel
theorem dX7_mends_53 : decode cX7_mends 53 = .ok (.ixor, 1) := by decide +kernel
theorem dX7_mends_54 : decode cX7_mends 54 = .ok (.iand, 1) := by decide +kernel
theorem dX7_mends_55 : decode cX7_mends 55 = .ok (.putfield 123, 3) := by decide +kernel
theorem dX7_mends_58 : decode cX7_mends 58 = .ok (.aload_n 0, 1) := by decide +kernel
theorem dX7_mends_59 : decode cX7_mends 59 = .ok (.getfield 19, 3) := by decide +kernel
theorem dX7_mends_62 : decode cX7_mends 62 = .ok (.getfield 123, 3) := by decide +kernel
theorem dX7_mends_65 : decode cX7_mends 65 = .ok (.invokestatic 134, 3) := by decide +kernel
theorem dX7_mends_68 : decode cX7_mends 68 = .ok (.ireturn, 1) := by decide +kernel
theorem dX7_limits_0 : decode cX7_limits 0 = .ok (.iload_n 1, 1) := by decide +kernel
theorem dX7_limits_1 : decode cX7_limits 1 = .ok (.ifCond .lt 9, 3) := by decide +kernel
theorem dX7_limits_4 : decode cX7_limits 4 = .ok (.iload_n 1, 1) := by decide +kernel
theorem dX7_limits_5 : decode cX7_limits 5 = .ok (.bipush 9, 2) := by decide +kernel
theorem dX7_limits_7 : decode cX7_limits 7 = .ok (.if_icmp .le 5, 3) := by decide +kernel
theorem dX7_limits_10 : decode cX7_limits 10 = .ok (.iconst (-1), 1) := by decide +kernel
theorem dX7_limits_11 : decode cX7_limits 11 = .ok (.ireturn, 1) := by decide +kernel
theorem dX7_limits_12 : decode cX7_limits 12 = .ok (.iload_n 1, 1) := by decide +kernel
theorem dX7_limits_13 : decode cX7_limits 13 = .ok (.aload_n 0, 1) := by decide +kernel
theorem dX7_limits_14 : decode cX7_limits 14 = .ok (.getfield 19, 3) := by decide +kernel
theorem dX7_limits_17 : decode cX7_limits 17 = .ok (.getfield 139, 3) := by decide +kernel
theorem dX7_limits_20 : decode cX7_limits 20 = .ok (.if_icmp .ne 6, 3) := by decide +kernel
theorem dX7_limits_23 : decode cX7_limits 23 = .ok (.bipush (-2), 2) := by decide +kernel
theorem dX7_limits_25 : decode cX7_limits 25 = .ok (.ireturn, 1) := by decide +kernel
theorem dX7_limits_26 : decode cX7_limits 26 = .ok (.aload_n 0, 1) := by decide +kernel
theorem dX7_limits_27 : decode cX7_limits 27 = .ok (.getfield 29, 3) := by decide +kernel
theorem dX7_limits_30 : decode cX7_limits 30 = .ok (.aload_n 0, 1) := by decide +kernel
theorem dX7_limits_31 : decode cX7_limits 31 = .ok (.getfield 19, 3) := by decide +kernel
theorem dX7_limits_34 : decode cX7_limits 34 = .ok (.invokevirtual 78, 3) := by decide +kernel
theorem dX7_limits_37 : decode cX7_limits 37 = .ok (.aload_n 0, 1) := by decide +kernel
theorem dX7_limits_38 : decode cX7_limits 38 = .ok (.getfield 19, 3) := by decide +kernel
theorem dX7_limits_41 : decode cX7_limits 41 = .ok (.getfield 139, 3) := by decide +kernel
theorem dX7_limits_44 : decode cX7_limits 44 = .ok (.istore_n 2, 1) := by decide +kernel
theorem dX7_limits_45 : decode cX7_limits 45 = .ok (.aload_n 0, 1) := by decide +kernel
theorem dX7_limits_46 : decode cX7_limits 46 = .ok (.getfield 19, 3) := by decide +kernel
theorem dX7_limits_49 : decode cX7_limits 49 = .ok (.iload_n 1, 1) := by decide +kernel
theorem dX7_limits_50 : decode cX7_limits 50 = .ok (.putfield 139, 3) := by decide +kernel
theorem dX7_limits_53 : decode cX7_limits 53 = .ok (.iload_n 2, 1) := by decide +kernel
theorem dX7_limits_54 : decode cX7_limits 54 = .ok (.ireturn, 1) := by decide +kernel
theorem dX7_undo_0 : decode cX7_undo 0 = .ok (.aload_n 0, 1) := by decide +kernel
theorem dX7_undo_1 : decode cX7_undo 1 = .ok (.getfield 29, 3) := by decide +kernel
theorem dX7_undo_4 : decode cX7_undo 4 = .ok (.aload_n 0, 1) := by decide +kernel
theorem dX7_undo_5 : decode cX7_undo 5 = .ok (.getfield 19, 3) := by decide +kernel
theorem dX7_undo_8 : decode cX7_undo 8 = .ok (.invokevirtual 142, 3) := by decide +kernel
theorem dX7_undo_11 : decode cX7_undo 11 = .ok (.ifCond .eq 13, 3) := by decide +kernel
theorem dX7_undo_14 : decode cX7_undo 14 = .ok (.aload_n 0, 1) := by decide +kernel
theorem dX7_undo_15 : decode cX7_undo 15 = .ok (.getfield 29, 3) := by decide +kernel
theorem dX7_undo_18 : decode cX7_undo 18 = .ok (.getfield 146, 3) := by decide +kernel
theorem dX7_undo_21 : decode cX7_undo 21 = .ok (.goto 5, 3) := by decide +kernel
theorem dX7_undo_24 : decode cX7_undo 24 = .ok (.bipush (-2), 2) := by decide +kernel
theorem dX7_undo_26 : decode cX7_undo 26 = .ok (.ireturn, 1) := by decide +kernel
theorem dX7_link_0 : decode cX7_link 0 = .ok (.aload_n 0, 1) := by decide +kernel
theorem dX7_link_1 : decode cX7_link 1 = .ok (.getfield 19, 3) := by decide +kernel
theorem dX7_link_4 : decode cX7_link 4 = .ok (.iload_n 1, 1) := by decide +kernel
theorem dX7_link_5 : decode cX7_link 5 = .ok (.invokevirtual 120, 3) := by decide +kernel
theorem dX7_link_8 : decode cX7_link 8 = .ok (.ifCond .ne 5, 3) := by decide +kernel
theorem dX7_link_11 : decode cX7_link 11 = .ok (.iconst (-1), 1) := by decide +kernel
theorem dX7_link_12 : decode cX7_link 12 = .ok (.ireturn, 1) := by decide +kernel
theorem dX7_link_13 : decode cX7_link 13 = .ok (.iload_n 2, 1) := by decide +kernel
theorem dX7_link_14 : decode cX7_link 14 = .ok (.tableswitch 117 0 5 #[38, 48, 58, 68, 88, 108], 38) := by decide +kernel
theorem dX7_link_52 : decode cX7_link 52 = .ok (.aload_n 0, 1) := by decide +kernel
theorem dX7_link_53 : decode cX7_link 53 = .ok (.getfield 19, 3) := by decide +kernel
theorem dX7_link_56 : decode cX7_link 56 = .ok (.getfield 149, 3) := by decide +kernel
theorem dX7_link_59 : decode cX7_link 59 = .ok (.iload_n 1, 1) := by decide +kernel
theorem dX7_link_60 : decode cX7_link 60 = .ok (.iaload, 1) := by decide +kernel
theorem dX7_link_61 : decode cX7_link 61 = .ok (.ireturn, 1) := by decide +kernel
theorem dX7_link_62 : decode cX7_link 62 = .ok (.aload_n 0, 1) := by decide +kernel
theorem dX7_link_63 : decode cX7_link 63 = .ok (.getfield 19, 3) := by decide +kernel
theorem dX7_link_66 : decode cX7_link 66 = .ok (.getfield 153, 3) := by decide +kernel
theorem dX7_link_69 : decode cX7_link 69 = .ok (.iload_n 1, 1) := by decide +kernel
theorem dX7_link_70 : decode cX7_link 70 = .ok (.iaload, 1) := by decide +kernel
theorem dX7_link_71 : decode cX7_link 71 = .ok (.ireturn, 1) := by decide +kernel
theorem dX7_link_72 : decode cX7_link 72 = .ok (.aload_n 0, 1) := by decide +kernel
theorem dX7_link_73 : decode cX7_link 73 = .ok (.getfield 19, 3) := by decide +kernel
theorem dX7_link_76 : decode cX7_link 76 = .ok (.getfield 156, 3) := by decide +kernel
theorem dX7_link_79 : decode cX7_link 79 = .ok (.iload_n 1, 1) := by decide +kernel
theorem dX7_link_80 : decode cX7_link 80 = .ok (.iaload, 1) := by decide +kernel
theorem dX7_link_81 : decode cX7_link 81 = .ok (.ireturn, 1) := by decide +kernel
theorem dX7_link_82 : decode cX7_link 82 = .ok (.aload_n 0, 1) := by decide +kernel
theorem dX7_link_83 : decode cX7_link 83 = .ok (.getfield 19, 3) := by decide +kernel
theorem dX7_link_86 : decode cX7_link 86 = .ok (.getfield 102, 3) := by decide +kernel
theorem dX7_link_89 : decode cX7_link 89 = .ok (.iload_n 1, 1) := by decide +kernel
theorem dX7_link_90 : decode cX7_link 90 = .ok (.invokestatic 126, 3) := by decide +kernel
theorem dX7_link_93 : decode cX7_link 93 = .ok (.ifCond .eq 7, 3) := by decide +kernel
theorem dX7_link_96 : decode cX7_link 96 = .ok (.iconst 1, 1) := by decide +kernel
theorem dX7_link_97 : decode cX7_link 97 = .ok (.goto 4, 3) := by decide +kernel
theorem dX7_link_100 : decode cX7_link 100 = .ok (.iconst 0, 1) := by decide +kernel
theorem dX7_link_101 : decode cX7_link 101 = .ok (.ireturn, 1) := by decide +kernel
theorem dX7_link_102 : decode cX7_link 102 = .ok (.aload_n 0, 1) := by decide +kernel
theorem dX7_link_103 : decode cX7_link 103 = .ok (.getfield 19, 3) := by decide +kernel
theorem dX7_link_106 : decode cX7_link 106 = .ok (.getfield 123, 3) := by decide +kernel
theorem dX7_link_109 : decode cX7_link 109 = .ok (.iload_n 1, 1) := by decide +kernel
theorem dX7_link_110 : decode cX7_link 110 = .ok (.invokestatic 126, 3) := by decide +kernel
theorem dX7_link_113 : decode cX7_link 113 = .ok (.ifCond .eq 7, 3) := by decide +kernel
theorem dX7_link_116 : decode cX7_link 116 = .ok (.iconst 1, 1) := by decide +kernel
theorem dX7_link_117 : decode cX7_link 117 = .ok (.goto 4, 3) := by decide +kernel
theorem dX7_link_120 : decode cX7_link 120 = .ok (.iconst 0, 1) := by decide +kernel
theorem dX7_link_121 : decode cX7_link 121 = .ok (.ireturn, 1) := by decide +kernel
theorem dX7_link_122 : decode cX7_link 122 = .ok (.aload_n 0, 1) := by decide +kernel
theorem dX7_link_123 : decode cX7_link 123 = .ok (.getfield 19, 3) := by decide +kernel
theorem dX7_link_126 : decode cX7_link 126 = .ok (.iload_n 1, 1) := by decide +kernel
theorem dX7_link_127 : decode cX7_link 127 = .ok (.invokevirtual 159, 3) := by decide +kernel
theorem dX7_link_130 : decode cX7_link 130 = .ok (.ireturn, 1) := by decide +kernel
theorem dX7_link_131 : decode cX7_link 131 = .ok (.iconst (-1), 1) := by decide +kernel
theorem dX7_link_132 : decode cX7_link 132 = .ok (.ireturn, 1) := by decide +kernel
theorem dX7_node_0 : decode cX7_node 0 = .ok (.aload_n 0, 1) := by decide +kernel
theorem dX7_node_1 : decode cX7_node 1 = .ok (.getfield 19, 3) := by decide +kernel
theorem dX7_node_4 : decode cX7_node 4 = .ok (.iload_n 1, 1) := by decide +kernel
theorem dX7_node_5 : decode cX7_node 5 = .ok (.invokevirtual 85, 3) := by decide +kernel
theorem dX7_node_8 : decode cX7_node 8 = .ok (.ifCond .ne 5, 3) := by decide +kernel
theorem dX7_node_11 : decode cX7_node 11 = .ok (.iconst (-1), 1) := by decide +kernel
theorem dX7_node_12 : decode cX7_node 12 = .ok (.ireturn, 1) := by decide +kernel
theorem dX7_node_13 : decode cX7_node 13 = .ok (.iload_n 2, 1) := by decide +kernel
theorem dX7_node_14 : decode cX7_node 14 = .ok (.tableswitch 164 0 6 #[42, 48, 75, 81, 108, 135, 144], 42) := by decide +kernel
theorem dX7_node_56 : decode cX7_node 56 = .ok (.aload_n 0, 1) := by decide +kernel
theorem dX7_node_57 : decode cX7_node 57 = .ok (.iload_n 1, 1) := by decide +kernel
theorem dX7_node_58 : decode cX7_node 58 = .ok (.invokevirtual 88, 3) := by decide +kernel
theorem dX7_node_61 : decode cX7_node 61 = .ok (.ireturn, 1) := by decide +kernel
theorem dX7_node_62 : decode cX7_node 62 = .ok (.aload_n 0, 1) := by decide +kernel
theorem dX7_node_63 : decode cX7_node 63 = .ok (.getfield 19, 3) := by decide +kernel
theorem dX7_node_66 : decode cX7_node 66 = .ok (.aload_n 0, 1) := by decide +kernel
theorem dX7_node_67 : decode cX7_node 67 = .ok (.getfield 19, 3) := by decide +kernel
theorem dX7_node_70 : decode cX7_node 70 = .ok (.getfield 102, 3) := by decide +kernel
theorem dX7_node_73 : decode cX7_node 73 = .ok (.invokevirtual 162, 3) := by decide +kernel
theorem dX7_node_76 : decode cX7_node 76 = .ok (.iload_n 1, 1) := by decide +kernel
theorem dX7_node_77 : decode cX7_node 77 = .ok (.invokestatic 126, 3) := by decide +kernel
theorem dX7_node_80 : decode cX7_node 80 = .ok (.ifCond .eq 7, 3) := by decide +kernel
theorem dX7_node_83 : decode cX7_node 83 = .ok (.iconst 1, 1) := by decide +kernel
theorem dX7_node_84 : decode cX7_node 84 = .ok (.goto 4, 3) := by decide +kernel
theorem dX7_node_87 : decode cX7_node 87 = .ok (.iconst 0, 1) := by decide +kernel
theorem dX7_node_88 : decode cX7_node 88 = .ok (.ireturn, 1) := by decide +kernel
theorem dX7_node_89 : decode cX7_node 89 = .ok (.aload_n 0, 1) := by decide +kernel
theorem dX7_node_90 : decode cX7_node 90 = .ok (.iload_n 1, 1) := by decide +kernel
theorem dX7_node_91 : decode cX7_node 91 = .ok (.invokevirtual 165, 3) := by decide +kernel
theorem dX7_node_94 : decode cX7_node 94 = .ok (.ireturn, 1) := by decide +kernel
theorem dX7_node_95 : decode cX7_node 95 = .ok (.aload_n 0, 1) := by decide +kernel
theorem dX7_node_96 : decode cX7_node 96 = .ok (.getfield 43, 3) := by decide +kernel
theorem dX7_node_99 : decode cX7_node 99 = .ok (.aload_n 0, 1) := by decide +kernel
theorem dX7_node_100 : decode cX7_node 100 = .ok (.getfield 19, 3) := by decide +kernel
theorem dX7_node_103 : decode cX7_node 103 = .ok (.aload_n 0, 1) := by decide +kernel
theorem dX7_node_104 : decode cX7_node 104 = .ok (.getfield 19, 3) := by decide +kernel
theorem dX7_node_107 : decode cX7_node 107 = .ok (.getfield 102, 3) := by decide +kernel
theorem dX7_node_110 : decode cX7_node 110 = .ok (.invokevirtual 168, 3) := by decide +kernel
theorem dX7_node_113 : decode cX7_node 113 = .ok (.aload_n 0, 1) := by decide +kernel
theorem dX7_node_114 : decode cX7_node 114 = .ok (.getfield 43, 3) := by decide +kernel
theorem dX7_node_117 : decode cX7_node 117 = .ok (.iload_n 1, 1) := by decide +kernel
theorem dX7_node_118 : decode cX7_node 118 = .ok (.invokevirtual 171, 3) := by decide +kernel
theorem dX7_node_121 : decode cX7_node 121 = .ok (.ireturn, 1) := by decide +kernel
theorem dX7_node_122 : decode cX7_node 122 = .ok (.aload_n 0, 1) := by decide +kernel
theorem dX7_node_123 : decode cX7_node 123 = .ok (.getfield 43, 3) := by decide +kernel
theorem dX7_node_126 : decode cX7_node 126 = .ok (.aload_n 0, 1) := by decide +kernel
theorem dX7_node_127 : decode cX7_node 127 = .ok (.getfield 19, 3) := by decide +kernel
theorem dX7_node_130 : decode cX7_node 130 = .ok (.aload_n 0, 1) := by decide +kernel
theorem dX7_node_131 : decode cX7_node 131 = .ok (.getfield 19, 3) := by decide +kernel
theorem dX7_node_134 : decode cX7_node 134 = .ok (.getfield 102, 3) := by decide +kernel
theorem dX7_node_137 : decode cX7_node 137 = .ok (.invokevirtual 168, 3) := by decide +kernel
theorem dX7_node_140 : decode cX7_node 140 = .ok (.aload_n 0, 1) := by decide +kernel
theorem dX7_node_141 : decode cX7_node 141 = .ok (.getfield 43, 3) := by decide +kernel
theorem dX7_node_144 : decode cX7_node 144 = .ok (.iload_n 1, 1) := by decide +kernel
theorem dX7_node_145 : decode cX7_node 145 = .ok (.invokevirtual 174, 3) := by decide +kernel
theorem dX7_node_148 : decode cX7_node 148 = .ok (.ireturn, 1) := by decide +kernel
theorem dX7_node_149 : decode cX7_node 149 = .ok (.aload_n 0, 1) := by decide +kernel
theorem dX7_node_150 : decode cX7_node 150 = .ok (.getfield 19, 3) := by decide +kernel
theorem dX7_node_153 : decode cX7_node 153 = .ok (.iload_n 1, 1) := by decide +kernel
theorem dX7_node_154 : decode cX7_node 154 = .ok (.invokevirtual 177, 3) := by decide +kernel
theorem dX7_node_157 : decode cX7_node 157 = .ok (.ireturn, 1) := by decide +kernel
theorem dX7_node_158 : decode cX7_node 158 = .ok (.aload_n 0, 1) := by decide +kernel
theorem dX7_node_159 : decode cX7_node 159 = .ok (.getfield 19, 3) := by decide +kernel
theorem dX7_node_162 : decode cX7_node 162 = .ok (.iload_n 1, 1) := by decide +kernel
theorem dX7_node_163 : decode cX7_node 163 = .ok (.invokevirtual 180, 3) := by decide +kernel
theorem dX7_node_166 : decode cX7_node 166 = .ok (.aload_n 0, 1) := by decide +kernel
theorem dX7_node_167 : decode cX7_node 167 = .ok (.getfield 19, 3) := by decide +kernel
theorem dX7_node_170 : decode cX7_node 170 = .ok (.getfield 102, 3) := by decide +kernel
theorem dX7_node_173 : decode cX7_node 173 = .ok (.iand, 1) := by decide +kernel
theorem dX7_node_174 : decode cX7_node 174 = .ok (.invokestatic 134, 3) := by decide +kernel
theorem dX7_node_177 : decode cX7_node 177 = .ok (.ireturn, 1) := by decide +kernel
theorem dX7_node_178 : decode cX7_node 178 = .ok (.iconst (-1), 1) := by decide +kernel
theorem dX7_node_179 : decode cX7_node 179 = .ok (.ireturn, 1) := by decide +kernel
theorem dX7_way_0 : decode cX7_way 0 = .ok (.aload_n 0, 1) := by decide +kernel
theorem dX7_way_1 : decode cX7_way 1 = .ok (.getfield 19, 3) := by decide +kernel
theorem dX7_way_4 : decode cX7_way 4 = .ok (.iload_n 1, 1) := by decide +kernel
theorem dX7_way_5 : decode cX7_way 5 = .ok (.invokevirtual 85, 3) := by decide +kernel
theorem dX7_way_8 : decode cX7_way 8 = .ok (.ifCond .eq 7, 3) := by decide +kernel
theorem dX7_way_11 : decode cX7_way 11 = .ok (.iload_n 2, 1) := by decide +kernel
theorem dX7_way_12 : decode cX7_way 12 = .ok (.ifCond .ge 5, 3) := by decide +kernel
theorem dX7_way_15 : decode cX7_way 15 = .ok (.iconst (-1), 1) := by decide +kernel
theorem dX7_way_16 : decode cX7_way 16 = .ok (.ireturn, 1) := by decide +kernel
theorem dX7_way_17 : decode cX7_way 17 = .ok (.aload_n 0, 1) := by decide +kernel
theorem dX7_way_18 : decode cX7_way 18 = .ok (.getfield 43, 3) := by decide +kernel
theorem dX7_way_21 : decode cX7_way 21 = .ok (.aload_n 0, 1) := by decide +kernel
theorem dX7_way_22 : decode cX7_way 22 = .ok (.getfield 19, 3) := by decide +kernel
theorem dX7_way_25 : decode cX7_way 25 = .ok (.aload_n 0, 1) := by decide +kernel
theorem dX7_way_26 : decode cX7_way 26 = .ok (.getfield 19, 3) := by decide +kernel
theorem dX7_way_29 : decode cX7_way 29 = .ok (.getfield 102, 3) := by decide +kernel
theorem dX7_way_32 : decode cX7_way 32 = .ok (.invokevirtual 168, 3) := by decide +kernel
theorem dX7_way_35 : decode cX7_way 35 = .ok (.aload_n 0, 1) := by decide +kernel
theorem dX7_way_36 : decode cX7_way 36 = .ok (.getfield 43, 3) := by decide +kernel
theorem dX7_way_39 : decode cX7_way 39 = .ok (.aload_n 0, 1) := by decide +kernel
theorem dX7_way_40 : decode cX7_way 40 = .ok (.getfield 19, 3) := by decide +kernel
theorem dX7_way_43 : decode cX7_way 43 = .ok (.iload_n 1, 1) := by decide +kernel
theorem dX7_way_44 : decode cX7_way 44 = .ok (.iload_n 2, 1) := by decide +kernel
theorem dX7_way_45 : decode cX7_way 45 = .ok (.invokevirtual 183, 3) := by decide +kernel
theorem dX7_way_48 : decode cX7_way 48 = .ok (.ireturn, 1) := by decide +kernel
theorem dX7_tree_0 : decode cX7_tree 0 = .ok (.iload_n 1, 1) := by decide +kernel
theorem dX7_tree_1 : decode cX7_tree 1 = .ok (.tableswitch 124 0 6 #[43, 58, 77, 92, 100, 108, 116], 43) := by decide +kernel
theorem dX7_tree_44 : decode cX7_tree 44 = .ok (.aload_n 0, 1) := by decide +kernel
theorem dX7_tree_45 : decode cX7_tree 45 = .ok (.getfield 19, 3) := by decide +kernel
theorem dX7_tree_48 : decode cX7_tree 48 = .ok (.aload_n 0, 1) := by decide +kernel
theorem dX7_tree_49 : decode cX7_tree 49 = .ok (.getfield 19, 3) := by decide +kernel
theorem dX7_tree_52 : decode cX7_tree 52 = .ok (.getfield 102, 3) := by decide +kernel
theorem dX7_tree_55 : decode cX7_tree 55 = .ok (.invokevirtual 105, 3) := by decide +kernel
theorem dX7_tree_58 : decode cX7_tree 58 = .ok (.ireturn, 1) := by decide +kernel
theorem dX7_tree_59 : decode cX7_tree 59 = .ok (.aload_n 0, 1) := by decide +kernel
theorem dX7_tree_60 : decode cX7_tree 60 = .ok (.getfield 19, 3) := by decide +kernel
theorem dX7_tree_63 : decode cX7_tree 63 = .ok (.aload_n 0, 1) := by decide +kernel
theorem dX7_tree_64 : decode cX7_tree 64 = .ok (.getfield 36, 3) := by decide +kernel
theorem dX7_tree_67 : decode cX7_tree 67 = .ok (.aload_n 0, 1) := by decide +kernel
theorem dX7_tree_68 : decode cX7_tree 68 = .ok (.getfield 19, 3) := by decide +kernel
theorem dX7_tree_71 : decode cX7_tree 71 = .ok (.invokevirtual 114, 3) := by decide +kernel
theorem dX7_tree_74 : decode cX7_tree 74 = .ok (.invokevirtual 105, 3) := by decide +kernel
theorem dX7_tree_77 : decode cX7_tree 77 = .ok (.ireturn, 1) := by decide +kernel
theorem dX7_tree_78 : decode cX7_tree 78 = .ok (.aload_n 0, 1) := by decide +kernel
theorem dX7_tree_79 : decode cX7_tree 79 = .ok (.getfield 19, 3) := by decide +kernel
theorem dX7_tree_82 : decode cX7_tree 82 = .ok (.aload_n 0, 1) := by decide +kernel
theorem dX7_tree_83 : decode cX7_tree 83 = .ok (.getfield 19, 3) := by decide +kernel
theorem dX7_tree_86 : decode cX7_tree 86 = .ok (.invokestatic 187, 3) := by decide +kernel
theorem dX7_tree_89 : decode cX7_tree 89 = .ok (.invokevirtual 105, 3) := by decide +kernel
theorem dX7_tree_92 : decode cX7_tree 92 = .ok (.ireturn, 1) := by decide +kernel
theorem dX7_tree_93 : decode cX7_tree 93 = .ok (.aload_n 0, 1) := by decide +kernel
theorem dX7_tree_94 : decode cX7_tree 94 = .ok (.getfield 19, 3) := by decide +kernel
theorem dX7_tree_97 : decode cX7_tree 97 = .ok (.invokestatic 187, 3) := by decide +kernel
theorem dX7_tree_100 : decode cX7_tree 100 = .ok (.ireturn, 1) := by decide +kernel
theorem dX7_tree_101 : decode cX7_tree 101 = .ok (.aload_n 0, 1) := by decide +kernel
theorem dX7_tree_102 : decode cX7_tree 102 = .ok (.getfield 19, 3) := by decide +kernel
theorem dX7_tree_105 : decode cX7_tree 105 = .ok (.getfield 102, 3) := by decide +kernel
theorem dX7_tree_108 : decode cX7_tree 108 = .ok (.ireturn, 1) := by decide +kernel
theorem dX7_tree_109 : decode cX7_tree 109 = .ok (.aload_n 0, 1) := by decide +kernel
theorem dX7_tree_110 : decode cX7_tree 110 = .ok (.getfield 19, 3) := by decide +kernel
theorem dX7_tree_113 : decode cX7_tree 113 = .ok (.invokevirtual 192, 3) := by decide +kernel
theorem dX7_tree_116 : decode cX7_tree 116 = .ok (.ireturn, 1) := by decide +kernel
theorem dX7_tree_117 : decode cX7_tree 117 = .ok (.aload_n 0, 1) := by decide +kernel
theorem dX7_tree_118 : decode cX7_tree 118 = .ok (.getfield 19, 3) := by decide +kernel
theorem dX7_tree_121 : decode cX7_tree 121 = .ok (.invokevirtual 195, 3) := by decide +kernel
theorem dX7_tree_124 : decode cX7_tree 124 = .ok (.ireturn, 1) := by decide +kernel
theorem dX7_tree_125 : decode cX7_tree 125 = .ok (.iconst (-1), 1) := by decide +kernel
theorem dX7_tree_126 : decode cX7_tree 126 = .ok (.ireturn, 1) := by decide +kernel
theorem dX7_sees_0 : decode cX7_sees 0 = .ok (.iload_n 2, 1) := by decide +kernel
theorem dX7_sees_1 : decode cX7_sees 1 = .ok (.bipush (-9), 2) := by decide +kernel
theorem dX7_sees_3 : decode cX7_sees 3 = .ok (.if_icmp .eq 13, 3) := by decide +kernel
theorem dX7_sees_6 : decode cX7_sees 6 = .ok (.iload_n 2, 1) := by decide +kernel
theorem dX7_sees_7 : decode cX7_sees 7 = .ok (.ifCond .lt 13, 3) := by decide +kernel
theorem dX7_sees_10 : decode cX7_sees 10 = .ok (.iload_n 2, 1) := by decide +kernel
theorem dX7_sees_11 : decode cX7_sees 11 = .ok (.bipush 99, 2) := by decide +kernel
theorem dX7_sees_13 : decode cX7_sees 13 = .ok (.if_icmp .gt 7, 3) := by decide +kernel
theorem dX7_sees_16 : decode cX7_sees 16 = .ok (.iconst 1, 1) := by decide +kernel
theorem dX7_sees_17 : decode cX7_sees 17 = .ok (.goto 4, 3) := by decide +kernel
theorem dX7_sees_20 : decode cX7_sees 20 = .ok (.iconst 0, 1) := by decide +kernel
theorem dX7_sees_21 : decode cX7_sees 21 = .ok (.istore_n 3, 1) := by decide +kernel
theorem dX7_sees_22 : decode cX7_sees 22 = .ok (.iload_n 1, 1) := by decide +kernel
theorem dX7_sees_23 : decode cX7_sees 23 = .ok (.ifCond .lt 12, 3) := by decide +kernel
theorem dX7_sees_26 : decode cX7_sees 26 = .ok (.iload_n 1, 1) := by decide +kernel
theorem dX7_sees_27 : decode cX7_sees 27 = .ok (.iconst 1, 1) := by decide +kernel
theorem dX7_sees_28 : decode cX7_sees 28 = .ok (.if_icmp .gt 7, 3) := by decide +kernel
theorem dX7_sees_31 : decode cX7_sees 31 = .ok (.iload_n 3, 1) := by decide +kernel
theorem dX7_sees_32 : decode cX7_sees 32 = .ok (.ifCond .ne 5, 3) := by decide +kernel
theorem dX7_sees_35 : decode cX7_sees 35 = .ok (.iconst (-1), 1) := by decide +kernel
theorem dX7_sees_36 : decode cX7_sees 36 = .ok (.ireturn, 1) := by decide +kernel
theorem dX7_sees_37 : decode cX7_sees 37 = .ok (.aload_n 0, 1) := by decide +kernel
theorem dX7_sees_38 : decode cX7_sees 38 = .ok (.getfield 50, 3) := by decide +kernel
theorem dX7_sees_41 : decode cX7_sees 41 = .ok (.iload_n 1, 1) := by decide +kernel
theorem dX7_sees_42 : decode cX7_sees 42 = .ok (.iload_n 2, 1) := by decide +kernel
theorem dX7_sees_43 : decode cX7_sees 43 = .ok (.invokevirtual 198, 3) := by decide +kernel
theorem dX7_sees_46 : decode cX7_sees 46 = .ok (.ifCond .eq 13, 3) := by decide +kernel
theorem dX7_sees_49 : decode cX7_sees 49 = .ok (.aload_n 0, 1) := by decide +kernel
theorem dX7_sees_50 : decode cX7_sees 50 = .ok (.getfield 50, 3) := by decide +kernel
theorem dX7_sees_53 : decode cX7_sees 53 = .ok (.getfield 201, 3) := by decide +kernel
theorem dX7_sees_56 : decode cX7_sees 56 = .ok (.goto 5, 3) := by decide +kernel
theorem dX7_sees_59 : decode cX7_sees 59 = .ok (.bipush (-3), 2) := by decide +kernel
theorem dX7_sees_61 : decode cX7_sees 61 = .ok (.ireturn, 1) := by decide +kernel
theorem dX7_forget_0 : decode cX7_forget 0 = .ok (.aload_n 0, 1) := by decide +kernel
theorem dX7_forget_1 : decode cX7_forget 1 = .ok (.getfield 50, 3) := by decide +kernel
theorem dX7_forget_4 : decode cX7_forget 4 = .ok (.invokevirtual 202, 3) := by decide +kernel
theorem dX7_forget_7 : decode cX7_forget 7 = .ok (.ireturn, 1) := by decide +kernel
theorem dX7_which_0 : decode cX7_which 0 = .ok (.iload_n 1, 1) := by decide +kernel
theorem dX7_which_1 : decode cX7_which 1 = .ok (.ifCond .lt 8, 3) := by decide +kernel
theorem dX7_which_4 : decode cX7_which 4 = .ok (.iload_n 1, 1) := by decide +kernel
theorem dX7_which_5 : decode cX7_which 5 = .ok (.iconst 1, 1) := by decide +kernel
theorem dX7_which_6 : decode cX7_which 6 = .ok (.if_icmp .le 5, 3) := by decide +kernel
theorem dX7_which_9 : decode cX7_which 9 = .ok (.iconst (-1), 1) := by decide +kernel
theorem dX7_which_10 : decode cX7_which 10 = .ok (.ireturn, 1) := by decide +kernel
theorem dX7_which_11 : decode cX7_which 11 = .ok (.aload_n 0, 1) := by decide +kernel
theorem dX7_which_12 : decode cX7_which 12 = .ok (.invokevirtual 203, 3) := by decide +kernel
theorem dX7_which_15 : decode cX7_which 15 = .ok (.istore_n 2, 1) := by decide +kernel
theorem dX7_which_16 : decode cX7_which 16 = .ok (.iload_n 1, 1) := by decide +kernel
theorem dX7_which_17 : decode cX7_which 17 = .ok (.ifCond .ne 8, 3) := by decide +kernel
theorem dX7_which_20 : decode cX7_which 20 = .ok (.iload_n 2, 1) := by decide +kernel
theorem dX7_which_21 : decode cX7_which 21 = .ok (.invokestatic 134, 3) := by decide +kernel
theorem dX7_which_24 : decode cX7_which 24 = .ok (.ireturn, 1) := by decide +kernel
theorem dX7_which_25 : decode cX7_which 25 = .ok (.iload_n 2, 1) := by decide +kernel
theorem dX7_which_26 : decode cX7_which 26 = .ok (.ifCond .ne 8, 3) := by decide +kernel
theorem dX7_which_29 : decode cX7_which 29 = .ok (.bipush (-9), 2) := by decide +kernel
theorem dX7_which_31 : decode cX7_which 31 = .ok (.goto 7, 3) := by decide +kernel
theorem dX7_which_34 : decode cX7_which 34 = .ok (.iload_n 2, 1) := by decide +kernel
theorem dX7_which_35 : decode cX7_which 35 = .ok (.invokestatic 206, 3) := by decide +kernel
theorem dX7_which_38 : decode cX7_which 38 = .ok (.ireturn, 1) := by decide +kernel
theorem dX7_keep_0 : decode cX7_keep 0 = .ok (.iload_n 1, 1) := by decide +kernel
theorem dX7_keep_1 : decode cX7_keep 1 = .ok (.ifCond .lt 8, 3) := by decide +kernel
theorem dX7_keep_4 : decode cX7_keep 4 = .ok (.iload_n 1, 1) := by decide +kernel
theorem dX7_keep_5 : decode cX7_keep 5 = .ok (.iconst 2, 1) := by decide +kernel
theorem dX7_keep_6 : decode cX7_keep 6 = .ok (.if_icmp .lt 5, 3) := by decide +kernel
theorem dX7_keep_9 : decode cX7_keep 9 = .ok (.iconst (-1), 1) := by decide +kernel
theorem dX7_keep_10 : decode cX7_keep 10 = .ok (.ireturn, 1) := by decide +kernel
theorem dX7_keep_11 : decode cX7_keep 11 = .ok (.aload_n 0, 1) := by decide +kernel
theorem dX7_keep_12 : decode cX7_keep 12 = .ok (.getfield 54, 3) := by decide +kernel
theorem dX7_keep_15 : decode cX7_keep 15 = .ok (.iload_n 1, 1) := by decide +kernel
theorem dX7_keep_16 : decode cX7_keep 16 = .ok (.aaload, 1) := by decide +kernel
theorem dX7_keep_17 : decode cX7_keep 17 = .ok (.aload_n 0, 1) := by decide +kernel
theorem dX7_keep_18 : decode cX7_keep 18 = .ok (.getfield 19, 3) := by decide +kernel
theorem dX7_keep_21 : decode cX7_keep 21 = .ok (.invokevirtual 82, 3) := by decide +kernel
theorem dX7_keep_24 : decode cX7_keep 24 = .ok (.aload_n 0, 1) := by decide +kernel
theorem dX7_keep_25 : decode cX7_keep 25 = .ok (.getfield 58, 3) := by decide +kernel
theorem dX7_keep_28 : decode cX7_keep 28 = .ok (.iload_n 1, 1) := by decide +kernel
theorem dX7_keep_29 : decode cX7_keep 29 = .ok (.iconst 1, 1) := by decide +kernel
theorem dX7_keep_30 : decode cX7_keep 30 = .ok (.bastore, 1) := by decide +kernel
theorem dX7_keep_31 : decode cX7_keep 31 = .ok (.aload_n 0, 1) := by decide +kernel
theorem dX7_keep_32 : decode cX7_keep 32 = .ok (.getfield 19, 3) := by decide +kernel
theorem dX7_keep_35 : decode cX7_keep 35 = .ok (.getfield 209, 3) := by decide +kernel
theorem dX7_keep_38 : decode cX7_keep 38 = .ok (.invokestatic 134, 3) := by decide +kernel
theorem dX7_keep_41 : decode cX7_keep 41 = .ok (.ireturn, 1) := by decide +kernel
theorem dX7_back_0 : decode cX7_back 0 = .ok (.iload_n 1, 1) := by decide +kernel
theorem dX7_back_1 : decode cX7_back 1 = .ok (.ifCond .lt 8, 3) := by decide +kernel
theorem dX7_back_4 : decode cX7_back 4 = .ok (.iload_n 1, 1) := by decide +kernel
theorem dX7_back_5 : decode cX7_back 5 = .ok (.iconst 2, 1) := by decide +kernel
theorem dX7_back_6 : decode cX7_back 6 = .ok (.if_icmp .lt 5, 3) := by decide +kernel
theorem dX7_back_9 : decode cX7_back 9 = .ok (.iconst (-1), 1) := by decide +kernel
theorem dX7_back_10 : decode cX7_back 10 = .ok (.ireturn, 1) := by decide +kernel
theorem dX7_back_11 : decode cX7_back 11 = .ok (.aload_n 0, 1) := by decide +kernel
theorem dX7_back_12 : decode cX7_back 12 = .ok (.getfield 58, 3) := by decide +kernel
theorem dX7_back_15 : decode cX7_back 15 = .ok (.iload_n 1, 1) := by decide +kernel
theorem dX7_back_16 : decode cX7_back 16 = .ok (.baload, 1) := by decide +kernel
theorem dX7_back_17 : decode cX7_back 17 = .ok (.ifCond .ne 6, 3) := by decide +kernel
theorem dX7_back_20 : decode cX7_back 20 = .ok (.bipush (-2), 2) := by decide +kernel
theorem dX7_back_22 : decode cX7_back 22 = .ok (.ireturn, 1) := by decide +kernel
theorem dX7_back_23 : decode cX7_back 23 = .ok (.aload_n 0, 1) := by decide +kernel
theorem dX7_back_24 : decode cX7_back 24 = .ok (.getfield 19, 3) := by decide +kernel
theorem dX7_back_27 : decode cX7_back 27 = .ok (.aload_n 0, 1) := by decide +kernel
theorem dX7_back_28 : decode cX7_back 28 = .ok (.getfield 54, 3) := by decide +kernel
theorem dX7_back_31 : decode cX7_back 31 = .ok (.iload_n 1, 1) := by decide +kernel
theorem dX7_back_32 : decode cX7_back 32 = .ok (.aaload, 1) := by decide +kernel
theorem dX7_back_33 : decode cX7_back 33 = .ok (.invokevirtual 82, 3) := by decide +kernel
theorem dX7_back_36 : decode cX7_back 36 = .ok (.aload_n 0, 1) := by decide +kernel
theorem dX7_back_37 : decode cX7_back 37 = .ok (.getfield 29, 3) := by decide +kernel
theorem dX7_back_40 : decode cX7_back 40 = .ok (.invokevirtual 212, 3) := by decide +kernel
theorem dX7_back_43 : decode cX7_back 43 = .ok (.aload_n 0, 1) := by decide +kernel
theorem dX7_back_44 : decode cX7_back 44 = .ok (.getfield 19, 3) := by decide +kernel
theorem dX7_back_47 : decode cX7_back 47 = .ok (.getfield 209, 3) := by decide +kernel
theorem dX7_back_50 : decode cX7_back 50 = .ok (.invokestatic 134, 3) := by decide +kernel
theorem dX7_back_53 : decode cX7_back 53 = .ok (.ireturn, 1) := by decide +kernel
theorem dX7_count_0 : decode cX7_count 0 = .ok (.iload_n 1, 1) := by decide +kernel
theorem dX7_count_1 : decode cX7_count 1 = .ok (.tableswitch 141 0 9 #[55, 63, 71, 79, 87, 98, 106, 117, 125, 133], 55) := by decide +kernel
theorem dX7_count_56 : decode cX7_count 56 = .ok (.aload_n 0, 1) := by decide +kernel
theorem dX7_count_57 : decode cX7_count 57 = .ok (.getfield 19, 3) := by decide +kernel
theorem dX7_count_60 : decode cX7_count 60 = .ok (.getfield 215, 3) := by decide +kernel
theorem dX7_count_63 : decode cX7_count 63 = .ok (.ireturn, 1) := by decide +kernel
theorem dX7_count_64 : decode cX7_count 64 = .ok (.aload_n 0, 1) := by decide +kernel
theorem dX7_count_65 : decode cX7_count 65 = .ok (.getfield 19, 3) := by decide +kernel
theorem dX7_count_68 : decode cX7_count 68 = .ok (.getfield 218, 3) := by decide +kernel
theorem dX7_count_71 : decode cX7_count 71 = .ok (.ireturn, 1) := by decide +kernel
theorem dX7_count_72 : decode cX7_count 72 = .ok (.aload_n 0, 1) := by decide +kernel
theorem dX7_count_73 : decode cX7_count 73 = .ok (.getfield 19, 3) := by decide +kernel
theorem dX7_count_76 : decode cX7_count 76 = .ok (.getfield 221, 3) := by decide +kernel
theorem dX7_count_79 : decode cX7_count 79 = .ok (.ireturn, 1) := by decide +kernel
theorem dX7_count_80 : decode cX7_count 80 = .ok (.aload_n 0, 1) := by decide +kernel
theorem dX7_count_81 : decode cX7_count 81 = .ok (.getfield 19, 3) := by decide +kernel
theorem dX7_count_84 : decode cX7_count 84 = .ok (.getfield 139, 3) := by decide +kernel
theorem dX7_count_87 : decode cX7_count 87 = .ok (.ireturn, 1) := by decide +kernel
theorem dX7_count_88 : decode cX7_count 88 = .ok (.aload_n 0, 1) := by decide +kernel
theorem dX7_count_89 : decode cX7_count 89 = .ok (.getfield 19, 3) := by decide +kernel
theorem dX7_count_92 : decode cX7_count 92 = .ok (.getfield 209, 3) := by decide +kernel
theorem dX7_count_95 : decode cX7_count 95 = .ok (.invokestatic 134, 3) := by decide +kernel
theorem dX7_count_98 : decode cX7_count 98 = .ok (.ireturn, 1) := by decide +kernel
theorem dX7_count_99 : decode cX7_count 99 = .ok (.aload_n 0, 1) := by decide +kernel
theorem dX7_count_100 : decode cX7_count 100 = .ok (.getfield 19, 3) := by decide +kernel
theorem dX7_count_103 : decode cX7_count 103 = .ok (.getfield 224, 3) := by decide +kernel
theorem dX7_count_106 : decode cX7_count 106 = .ok (.ireturn, 1) := by decide +kernel
theorem dX7_count_107 : decode cX7_count 107 = .ok (.aload_n 0, 1) := by decide +kernel
theorem dX7_count_108 : decode cX7_count 108 = .ok (.getfield 19, 3) := by decide +kernel
theorem dX7_count_111 : decode cX7_count 111 = .ok (.getfield 123, 3) := by decide +kernel
theorem dX7_count_114 : decode cX7_count 114 = .ok (.invokestatic 134, 3) := by decide +kernel
theorem dX7_count_117 : decode cX7_count 117 = .ok (.ireturn, 1) := by decide +kernel
theorem dX7_count_118 : decode cX7_count 118 = .ok (.aload_n 0, 1) := by decide +kernel
theorem dX7_count_119 : decode cX7_count 119 = .ok (.getfield 50, 3) := by decide +kernel
theorem dX7_count_122 : decode cX7_count 122 = .ok (.getfield 201, 3) := by decide +kernel
theorem dX7_count_125 : decode cX7_count 125 = .ok (.ireturn, 1) := by decide +kernel
theorem dX7_count_126 : decode cX7_count 126 = .ok (.aload_n 0, 1) := by decide +kernel
theorem dX7_count_127 : decode cX7_count 127 = .ok (.getfield 10, 3) := by decide +kernel
theorem dX7_count_130 : decode cX7_count 130 = .ok (.getfield 66, 3) := by decide +kernel
theorem dX7_count_133 : decode cX7_count 133 = .ok (.ireturn, 1) := by decide +kernel
theorem dX7_count_134 : decode cX7_count 134 = .ok (.aload_n 0, 1) := by decide +kernel
theorem dX7_count_135 : decode cX7_count 135 = .ok (.getfield 29, 3) := by decide +kernel
theorem dX7_count_138 : decode cX7_count 138 = .ok (.getfield 146, 3) := by decide +kernel
theorem dX7_count_141 : decode cX7_count 141 = .ok (.ireturn, 1) := by decide +kernel
theorem dX7_count_142 : decode cX7_count 142 = .ok (.iconst (-1), 1) := by decide +kernel
theorem dX7_count_143 : decode cX7_count 143 = .ok (.ireturn, 1) := by decide +kernel
theorem dX7_has_0 : decode cX7_has 0 = .ok (.iload_n 0, 1) := by decide +kernel
theorem dX7_has_1 : decode cX7_has 1 = .ok (.iload_n 1, 1) := by decide +kernel
theorem dX7_has_2 : decode cX7_has 2 = .ok (.ishr, 1) := by decide +kernel
theorem dX7_has_3 : decode cX7_has 3 = .ok (.iconst 1, 1) := by decide +kernel
theorem dX7_has_4 : decode cX7_has 4 = .ok (.iand, 1) := by decide +kernel
theorem dX7_has_5 : decode cX7_has 5 = .ok (.ifCond .eq 7, 3) := by decide +kernel
theorem dX7_has_8 : decode cX7_has 8 = .ok (.iconst 1, 1) := by decide +kernel
theorem dX7_has_9 : decode cX7_has 9 = .ok (.goto 4, 3) := by decide +kernel
theorem dX7_has_12 : decode cX7_has 12 = .ok (.iconst 0, 1) := by decide +kernel
theorem dX7_has_13 : decode cX7_has 13 = .ok (.ireturn, 1) := by decide +kernel
theorem dX7_role_0 : decode cX7_role 0 = .ok (.iload_n 1, 1) := by decide +kernel
theorem dX7_role_1 : decode cX7_role 1 = .ok (.aload_n 0, 1) := by decide +kernel
theorem dX7_role_2 : decode cX7_role 2 = .ok (.getfield 19, 3) := by decide +kernel
theorem dX7_role_5 : decode cX7_role 5 = .ok (.getfield 221, 3) := by decide +kernel
theorem dX7_role_8 : decode cX7_role 8 = .ok (.if_icmp .ne 5, 3) := by decide +kernel
theorem dX7_role_11 : decode cX7_role 11 = .ok (.iconst 2, 1) := by decide +kernel
theorem dX7_role_12 : decode cX7_role 12 = .ok (.ireturn, 1) := by decide +kernel
theorem dX7_role_13 : decode cX7_role 13 = .ok (.aload_n 0, 1) := by decide +kernel
theorem dX7_role_14 : decode cX7_role 14 = .ok (.getfield 19, 3) := by decide +kernel
theorem dX7_role_17 : decode cX7_role 17 = .ok (.iload_n 1, 1) := by decide +kernel
theorem dX7_role_18 : decode cX7_role 18 = .ok (.invokevirtual 108, 3) := by decide +kernel
theorem dX7_role_21 : decode cX7_role 21 = .ok (.ifCond .eq 7, 3) := by decide +kernel
theorem dX7_role_24 : decode cX7_role 24 = .ok (.iconst 1, 1) := by decide +kernel
theorem dX7_role_25 : decode cX7_role 25 = .ok (.goto 4, 3) := by decide +kernel
theorem dX7_role_28 : decode cX7_role 28 = .ok (.iconst 0, 1) := by decide +kernel
theorem dX7_role_29 : decode cX7_role 29 = .ok (.ireturn, 1) := by decide +kernel
theorem dX7_hasWay_0 : decode cX7_hasWay 0 = .ok (.aload_n 0, 1) := by decide +kernel
theorem dX7_hasWay_1 : decode cX7_hasWay 1 = .ok (.getfield 43, 3) := by decide +kernel
theorem dX7_hasWay_4 : decode cX7_hasWay 4 = .ok (.aload_n 0, 1) := by decide +kernel
theorem dX7_hasWay_5 : decode cX7_hasWay 5 = .ok (.getfield 19, 3) := by decide +kernel
theorem dX7_hasWay_8 : decode cX7_hasWay 8 = .ok (.aload_n 0, 1) := by decide +kernel
theorem dX7_hasWay_9 : decode cX7_hasWay 9 = .ok (.getfield 19, 3) := by decide +kernel
theorem dX7_hasWay_12 : decode cX7_hasWay 12 = .ok (.getfield 102, 3) := by decide +kernel
theorem dX7_hasWay_15 : decode cX7_hasWay 15 = .ok (.invokevirtual 168, 3) := by decide +kernel
theorem dX7_hasWay_18 : decode cX7_hasWay 18 = .ok (.aload_n 0, 1) := by decide +kernel
theorem dX7_hasWay_19 : decode cX7_hasWay 19 = .ok (.getfield 43, 3) := by decide +kernel
theorem dX7_hasWay_22 : decode cX7_hasWay 22 = .ok (.iload_n 1, 1) := by decide +kernel
theorem dX7_hasWay_23 : decode cX7_hasWay 23 = .ok (.invokevirtual 227, 3) := by decide +kernel
theorem dX7_hasWay_26 : decode cX7_hasWay 26 = .ok (.ireturn, 1) := by decide +kernel
theorem dX7_far_0 : decode cX7_far 0 = .ok (.aload_n 0, 1) := by decide +kernel
theorem dX7_far_1 : decode cX7_far 1 = .ok (.getfield 43, 3) := by decide +kernel
theorem dX7_far_4 : decode cX7_far 4 = .ok (.aload_n 0, 1) := by decide +kernel
theorem dX7_far_5 : decode cX7_far 5 = .ok (.getfield 19, 3) := by decide +kernel
theorem dX7_far_8 : decode cX7_far 8 = .ok (.aload_n 0, 1) := by decide +kernel
theorem dX7_far_9 : decode cX7_far 9 = .ok (.getfield 19, 3) := by decide +kernel
theorem dX7_far_12 : decode cX7_far 12 = .ok (.getfield 102, 3) := by decide +kernel
theorem dX7_far_15 : decode cX7_far 15 = .ok (.iconst 1, 1) := by decide +kernel
theorem dX7_far_16 : decode cX7_far 16 = .ok (.aload_n 0, 1) := by decide +kernel
theorem dX7_far_17 : decode cX7_far 17 = .ok (.getfield 19, 3) := by decide +kernel
theorem dX7_far_20 : decode cX7_far 20 = .ok (.getfield 221, 3) := by decide +kernel
theorem dX7_far_23 : decode cX7_far 23 = .ok (.ishl, 1) := by decide +kernel
theorem dX7_far_24 : decode cX7_far 24 = .ok (.invokevirtual 230, 3) := by decide +kernel
theorem dX7_far_27 : decode cX7_far 27 = .ok (.aload_n 0, 1) := by decide +kernel
theorem dX7_far_28 : decode cX7_far 28 = .ok (.getfield 43, 3) := by decide +kernel
theorem dX7_far_31 : decode cX7_far 31 = .ok (.iload_n 1, 1) := by decide +kernel
theorem dX7_far_32 : decode cX7_far 32 = .ok (.invokevirtual 171, 3) := by decide +kernel
theorem dX7_far_35 : decode cX7_far 35 = .ok (.ireturn, 1) := by decide +kernel
theorem dX7_fittingNodes_0 : decode cX7_fittingNodes 0 = .ok (.aload_n 0, 1) := by decide +kernel
theorem dX7_fittingNodes_1 : decode cX7_fittingNodes 1 = .ok (.getfield 43, 3) := by decide +kernel
theorem dX7_fittingNodes_4 : decode cX7_fittingNodes 4 = .ok (.aload_n 0, 1) := by decide +kernel
theorem dX7_fittingNodes_5 : decode cX7_fittingNodes 5 = .ok (.getfield 19, 3) := by decide +kernel
theorem dX7_fittingNodes_8 : decode cX7_fittingNodes 8 = .ok (.aload_n 0, 1) := by decide +kernel
theorem dX7_fittingNodes_9 : decode cX7_fittingNodes 9 = .ok (.getfield 19, 3) := by decide +kernel
theorem dX7_fittingNodes_12 : decode cX7_fittingNodes 12 = .ok (.getfield 102, 3) := by decide +kernel
theorem dX7_fittingNodes_15 : decode cX7_fittingNodes 15 = .ok (.invokevirtual 168, 3) := by decide +kernel
theorem dX7_fittingNodes_18 : decode cX7_fittingNodes 18 = .ok (.iconst 0, 1) := by decide +kernel
theorem dX7_fittingNodes_19 : decode cX7_fittingNodes 19 = .ok (.istore_n 1, 1) := by decide +kernel
theorem dX7_fittingNodes_20 : decode cX7_fittingNodes 20 = .ok (.iconst 0, 1) := by decide +kernel
theorem dX7_fittingNodes_21 : decode cX7_fittingNodes 21 = .ok (.istore_n 2, 1) := by decide +kernel
theorem dX7_fittingNodes_22 : decode cX7_fittingNodes 22 = .ok (.iload_n 2, 1) := by decide +kernel
theorem dX7_fittingNodes_23 : decode cX7_fittingNodes 23 = .ok (.aload_n 0, 1) := by decide +kernel
theorem dX7_fittingNodes_24 : decode cX7_fittingNodes 24 = .ok (.getfield 19, 3) := by decide +kernel
theorem dX7_fittingNodes_27 : decode cX7_fittingNodes 27 = .ok (.getfield 215, 3) := by decide +kernel
theorem dX7_fittingNodes_30 : decode cX7_fittingNodes 30 = .ok (.if_icmp .ge 49, 3) := by decide +kernel
theorem dX7_fittingNodes_33 : decode cX7_fittingNodes 33 = .ok (.aload_n 0, 1) := by decide +kernel
theorem dX7_fittingNodes_34 : decode cX7_fittingNodes 34 = .ok (.iload_n 2, 1) := by decide +kernel
theorem dX7_fittingNodes_35 : decode cX7_fittingNodes 35 = .ok (.invokevirtual 88, 3) := by decide +kernel
theorem dX7_fittingNodes_38 : decode cX7_fittingNodes 38 = .ok (.ifCond .ne 35, 3) := by decide +kernel
theorem dX7_fittingNodes_41 : decode cX7_fittingNodes 41 = .ok (.aload_n 0, 1) := by decide +kernel
theorem dX7_fittingNodes_42 : decode cX7_fittingNodes 42 = .ok (.getfield 50, 3) := by decide +kernel
theorem dX7_fittingNodes_45 : decode cX7_fittingNodes 45 = .ok (.aload_n 0, 1) := by decide +kernel
theorem dX7_fittingNodes_46 : decode cX7_fittingNodes 46 = .ok (.getfield 43, 3) := by decide +kernel
theorem dX7_fittingNodes_49 : decode cX7_fittingNodes 49 = .ok (.iload_n 2, 1) := by decide +kernel
theorem dX7_fittingNodes_50 : decode cX7_fittingNodes 50 = .ok (.invokevirtual 171, 3) := by decide +kernel
theorem dX7_fittingNodes_53 : decode cX7_fittingNodes 53 = .ok (.aload_n 0, 1) := by decide +kernel
theorem dX7_fittingNodes_54 : decode cX7_fittingNodes 54 = .ok (.getfield 43, 3) := by decide +kernel
theorem dX7_fittingNodes_57 : decode cX7_fittingNodes 57 = .ok (.iload_n 2, 1) := by decide +kernel
theorem dX7_fittingNodes_58 : decode cX7_fittingNodes 58 = .ok (.invokevirtual 174, 3) := by decide +kernel
theorem dX7_fittingNodes_61 : decode cX7_fittingNodes 61 = .ok (.invokevirtual 234, 3) := by decide +kernel
theorem dX7_fittingNodes_64 : decode cX7_fittingNodes 64 = .ok (.ifCond .eq 9, 3) := by decide +kernel
theorem dX7_fittingNodes_67 : decode cX7_fittingNodes 67 = .ok (.iload_n 1, 1) := by decide +kernel
theorem dX7_fittingNodes_68 : decode cX7_fittingNodes 68 = .ok (.iconst 1, 1) := by decide +kernel
theorem dX7_fittingNodes_69 : decode cX7_fittingNodes 69 = .ok (.iload_n 2, 1) := by decide +kernel
theorem dX7_fittingNodes_70 : decode cX7_fittingNodes 70 = .ok (.ishl, 1) := by decide +kernel
theorem dX7_fittingNodes_71 : decode cX7_fittingNodes 71 = .ok (.ior, 1) := by decide +kernel
theorem dX7_fittingNodes_72 : decode cX7_fittingNodes 72 = .ok (.istore_n 1, 1) := by decide +kernel
theorem dX7_fittingNodes_73 : decode cX7_fittingNodes 73 = .ok (.iinc 2 1, 3) := by decide +kernel
theorem dX7_fittingNodes_76 : decode cX7_fittingNodes 76 = .ok (.goto (-54), 3) := by decide +kernel
theorem dX7_fittingNodes_79 : decode cX7_fittingNodes 79 = .ok (.iload_n 1, 1) := by decide +kernel
theorem dX7_fittingNodes_80 : decode cX7_fittingNodes 80 = .ok (.ireturn, 1) := by decide +kernel
theorem dJ6_numberOfTrailingZeros_0f7a4_0 : decode cJ6_numberOfTrailingZeros_0f7a4 0 = .ok (.iload_n 0, 1) := by decide +kernel
theorem dJ6_numberOfTrailingZeros_0f7a4_1 : decode cJ6_numberOfTrailingZeros_0f7a4 1 = .ok (.iconst (-1), 1) := by decide +kernel
theorem dJ6_numberOfTrailingZeros_0f7a4_2 : decode cJ6_numberOfTrailingZeros_0f7a4 2 = .ok (.ixor, 1) := by decide +kernel
theorem dJ6_numberOfTrailingZeros_0f7a4_3 : decode cJ6_numberOfTrailingZeros_0f7a4 3 = .ok (.iload_n 0, 1) := by decide +kernel
theorem dJ6_numberOfTrailingZeros_0f7a4_4 : decode cJ6_numberOfTrailingZeros_0f7a4 4 = .ok (.iconst 1, 1) := by decide +kernel
theorem dJ6_numberOfTrailingZeros_0f7a4_5 : decode cJ6_numberOfTrailingZeros_0f7a4 5 = .ok (.isub, 1) := by decide +kernel
theorem dJ6_numberOfTrailingZeros_0f7a4_6 : decode cJ6_numberOfTrailingZeros_0f7a4 6 = .ok (.iand, 1) := by decide +kernel
theorem dJ6_numberOfTrailingZeros_0f7a4_7 : decode cJ6_numberOfTrailingZeros_0f7a4 7 = .ok (.istore_n 0, 1) := by decide +kernel
theorem dJ6_numberOfTrailingZeros_0f7a4_8 : decode cJ6_numberOfTrailingZeros_0f7a4 8 = .ok (.iload_n 0, 1) := by decide +kernel
theorem dJ6_numberOfTrailingZeros_0f7a4_9 : decode cJ6_numberOfTrailingZeros_0f7a4 9 = .ok (.ifCond .gt 8, 3) := by decide +kernel
theorem dJ6_numberOfTrailingZeros_0f7a4_12 : decode cJ6_numberOfTrailingZeros_0f7a4 12 = .ok (.iload_n 0, 1) := by decide +kernel
theorem dJ6_numberOfTrailingZeros_0f7a4_13 : decode cJ6_numberOfTrailingZeros_0f7a4 13 = .ok (.bipush 32, 2) := by decide +kernel
theorem dJ6_numberOfTrailingZeros_0f7a4_15 : decode cJ6_numberOfTrailingZeros_0f7a4 15 = .ok (.iand, 1) := by decide +kernel
theorem dJ6_numberOfTrailingZeros_0f7a4_16 : decode cJ6_numberOfTrailingZeros_0f7a4 16 = .ok (.ireturn, 1) := by decide +kernel
theorem dJ6_numberOfTrailingZeros_0f7a4_17 : decode cJ6_numberOfTrailingZeros_0f7a4 17 = .ok (.iconst 1, 1) := by decide +kernel
theorem dJ6_numberOfTrailingZeros_0f7a4_18 : decode cJ6_numberOfTrailingZeros_0f7a4 18 = .ok (.istore_n 1, 1) := by decide +kernel
theorem dJ6_numberOfTrailingZeros_0f7a4_19 : decode cJ6_numberOfTrailingZeros_0f7a4 19 = .ok (.iload_n 0, 1) := by decide +kernel
theorem dJ6_numberOfTrailingZeros_0f7a4_20 : decode cJ6_numberOfTrailingZeros_0f7a4 20 = .ok (.ldc_w 264, 3) := by decide +kernel
theorem dJ6_numberOfTrailingZeros_0f7a4_23 : decode cJ6_numberOfTrailingZeros_0f7a4 23 = .ok (.if_icmp .le 11, 3) := by decide +kernel
theorem dJ6_numberOfTrailingZeros_0f7a4_26 : decode cJ6_numberOfTrailingZeros_0f7a4 26 = .ok (.iinc 1 16, 3) := by decide +kernel
theorem dJ6_numberOfTrailingZeros_0f7a4_29 : decode cJ6_numberOfTrailingZeros_0f7a4 29 = .ok (.iload_n 0, 1) := by decide +kernel
theorem dJ6_numberOfTrailingZeros_0f7a4_30 : decode cJ6_numberOfTrailingZeros_0f7a4 30 = .ok (.bipush 16, 2) := by decide +kernel
theorem dJ6_numberOfTrailingZeros_0f7a4_32 : decode cJ6_numberOfTrailingZeros_0f7a4 32 = .ok (.iushr, 1) := by decide +kernel
theorem dJ6_numberOfTrailingZeros_0f7a4_33 : decode cJ6_numberOfTrailingZeros_0f7a4 33 = .ok (.istore_n 0, 1) := by decide +kernel
theorem dJ6_numberOfTrailingZeros_0f7a4_34 : decode cJ6_numberOfTrailingZeros_0f7a4 34 = .ok (.iload_n 0, 1) := by decide +kernel
theorem dJ6_numberOfTrailingZeros_0f7a4_35 : decode cJ6_numberOfTrailingZeros_0f7a4 35 = .ok (.sipush 256, 3) := by decide +kernel
theorem dJ6_numberOfTrailingZeros_0f7a4_38 : decode cJ6_numberOfTrailingZeros_0f7a4 38 = .ok (.if_icmp .le 11, 3) := by decide +kernel
theorem dJ6_numberOfTrailingZeros_0f7a4_41 : decode cJ6_numberOfTrailingZeros_0f7a4 41 = .ok (.iinc 1 8, 3) := by decide +kernel
theorem dJ6_numberOfTrailingZeros_0f7a4_44 : decode cJ6_numberOfTrailingZeros_0f7a4 44 = .ok (.iload_n 0, 1) := by decide +kernel
theorem dJ6_numberOfTrailingZeros_0f7a4_45 : decode cJ6_numberOfTrailingZeros_0f7a4 45 = .ok (.bipush 8, 2) := by decide +kernel
theorem dJ6_numberOfTrailingZeros_0f7a4_47 : decode cJ6_numberOfTrailingZeros_0f7a4 47 = .ok (.iushr, 1) := by decide +kernel
theorem dJ6_numberOfTrailingZeros_0f7a4_48 : decode cJ6_numberOfTrailingZeros_0f7a4 48 = .ok (.istore_n 0, 1) := by decide +kernel
theorem dJ6_numberOfTrailingZeros_0f7a4_49 : decode cJ6_numberOfTrailingZeros_0f7a4 49 = .ok (.iload_n 0, 1) := by decide +kernel
theorem dJ6_numberOfTrailingZeros_0f7a4_50 : decode cJ6_numberOfTrailingZeros_0f7a4 50 = .ok (.bipush 16, 2) := by decide +kernel
theorem dJ6_numberOfTrailingZeros_0f7a4_52 : decode cJ6_numberOfTrailingZeros_0f7a4 52 = .ok (.if_icmp .le 10, 3) := by decide +kernel
theorem dJ6_numberOfTrailingZeros_0f7a4_55 : decode cJ6_numberOfTrailingZeros_0f7a4 55 = .ok (.iinc 1 4, 3) := by decide +kernel
theorem dJ6_numberOfTrailingZeros_0f7a4_58 : decode cJ6_numberOfTrailingZeros_0f7a4 58 = .ok (.iload_n 0, 1) := by decide +kernel
theorem dJ6_numberOfTrailingZeros_0f7a4_59 : decode cJ6_numberOfTrailingZeros_0f7a4 59 = .ok (.iconst 4, 1) := by decide +kernel
theorem dJ6_numberOfTrailingZeros_0f7a4_60 : decode cJ6_numberOfTrailingZeros_0f7a4 60 = .ok (.iushr, 1) := by decide +kernel
theorem dJ6_numberOfTrailingZeros_0f7a4_61 : decode cJ6_numberOfTrailingZeros_0f7a4 61 = .ok (.istore_n 0, 1) := by decide +kernel
theorem dJ6_numberOfTrailingZeros_0f7a4_62 : decode cJ6_numberOfTrailingZeros_0f7a4 62 = .ok (.iload_n 0, 1) := by decide +kernel
theorem dJ6_numberOfTrailingZeros_0f7a4_63 : decode cJ6_numberOfTrailingZeros_0f7a4 63 = .ok (.iconst 4, 1) := by decide +kernel
theorem dJ6_numberOfTrailingZeros_0f7a4_64 : decode cJ6_numberOfTrailingZeros_0f7a4 64 = .ok (.if_icmp .le 10, 3) := by decide +kernel
theorem dJ6_numberOfTrailingZeros_0f7a4_67 : decode cJ6_numberOfTrailingZeros_0f7a4 67 = .ok (.iinc 1 2, 3) := by decide +kernel
theorem dJ6_numberOfTrailingZeros_0f7a4_70 : decode cJ6_numberOfTrailingZeros_0f7a4 70 = .ok (.iload_n 0, 1) := by decide +kernel
theorem dJ6_numberOfTrailingZeros_0f7a4_71 : decode cJ6_numberOfTrailingZeros_0f7a4 71 = .ok (.iconst 2, 1) := by decide +kernel
theorem dJ6_numberOfTrailingZeros_0f7a4_72 : decode cJ6_numberOfTrailingZeros_0f7a4 72 = .ok (.iushr, 1) := by decide +kernel
theorem dJ6_numberOfTrailingZeros_0f7a4_73 : decode cJ6_numberOfTrailingZeros_0f7a4 73 = .ok (.istore_n 0, 1) := by decide +kernel
theorem dJ6_numberOfTrailingZeros_0f7a4_74 : decode cJ6_numberOfTrailingZeros_0f7a4 74 = .ok (.iload_n 1, 1) := by decide +kernel
theorem dJ6_numberOfTrailingZeros_0f7a4_75 : decode cJ6_numberOfTrailingZeros_0f7a4 75 = .ok (.iload_n 0, 1) := by decide +kernel
theorem dJ6_numberOfTrailingZeros_0f7a4_76 : decode cJ6_numberOfTrailingZeros_0f7a4 76 = .ok (.iconst 1, 1) := by decide +kernel
theorem dJ6_numberOfTrailingZeros_0f7a4_77 : decode cJ6_numberOfTrailingZeros_0f7a4 77 = .ok (.iushr, 1) := by decide +kernel
theorem dJ6_numberOfTrailingZeros_0f7a4_78 : decode cJ6_numberOfTrailingZeros_0f7a4 78 = .ok (.iadd, 1) := by decide +kernel
theorem dJ6_numberOfTrailingZeros_0f7a4_79 : decode cJ6_numberOfTrailingZeros_0f7a4 79 = .ok (.ireturn, 1) := by decide +kernel
theorem dJ6_bitCount_0f7a4_0 : decode cJ6_bitCount_0f7a4 0 = .ok (.iload_n 0, 1) := by decide +kernel
theorem dJ6_bitCount_0f7a4_1 : decode cJ6_bitCount_0f7a4 1 = .ok (.iload_n 0, 1) := by decide +kernel
theorem dJ6_bitCount_0f7a4_2 : decode cJ6_bitCount_0f7a4 2 = .ok (.iconst 1, 1) := by decide +kernel
theorem dJ6_bitCount_0f7a4_3 : decode cJ6_bitCount_0f7a4 3 = .ok (.iushr, 1) := by decide +kernel
theorem dJ6_bitCount_0f7a4_4 : decode cJ6_bitCount_0f7a4 4 = .ok (.ldc_w 265, 3) := by decide +kernel
theorem dJ6_bitCount_0f7a4_7 : decode cJ6_bitCount_0f7a4 7 = .ok (.iand, 1) := by decide +kernel
theorem dJ6_bitCount_0f7a4_8 : decode cJ6_bitCount_0f7a4 8 = .ok (.isub, 1) := by decide +kernel
theorem dJ6_bitCount_0f7a4_9 : decode cJ6_bitCount_0f7a4 9 = .ok (.istore_n 0, 1) := by decide +kernel
theorem dJ6_bitCount_0f7a4_10 : decode cJ6_bitCount_0f7a4 10 = .ok (.iload_n 0, 1) := by decide +kernel
theorem dJ6_bitCount_0f7a4_11 : decode cJ6_bitCount_0f7a4 11 = .ok (.ldc_w 266, 3) := by decide +kernel
theorem dJ6_bitCount_0f7a4_14 : decode cJ6_bitCount_0f7a4 14 = .ok (.iand, 1) := by decide +kernel
theorem dJ6_bitCount_0f7a4_15 : decode cJ6_bitCount_0f7a4 15 = .ok (.iload_n 0, 1) := by decide +kernel
theorem dJ6_bitCount_0f7a4_16 : decode cJ6_bitCount_0f7a4 16 = .ok (.iconst 2, 1) := by decide +kernel
theorem dJ6_bitCount_0f7a4_17 : decode cJ6_bitCount_0f7a4 17 = .ok (.iushr, 1) := by decide +kernel
theorem dJ6_bitCount_0f7a4_18 : decode cJ6_bitCount_0f7a4 18 = .ok (.ldc_w 266, 3) := by decide +kernel
theorem dJ6_bitCount_0f7a4_21 : decode cJ6_bitCount_0f7a4 21 = .ok (.iand, 1) := by decide +kernel
theorem dJ6_bitCount_0f7a4_22 : decode cJ6_bitCount_0f7a4 22 = .ok (.iadd, 1) := by decide +kernel
theorem dJ6_bitCount_0f7a4_23 : decode cJ6_bitCount_0f7a4 23 = .ok (.istore_n 0, 1) := by decide +kernel
theorem dJ6_bitCount_0f7a4_24 : decode cJ6_bitCount_0f7a4 24 = .ok (.iload_n 0, 1) := by decide +kernel
theorem dJ6_bitCount_0f7a4_25 : decode cJ6_bitCount_0f7a4 25 = .ok (.iload_n 0, 1) := by decide +kernel
theorem dJ6_bitCount_0f7a4_26 : decode cJ6_bitCount_0f7a4 26 = .ok (.iconst 4, 1) := by decide +kernel
theorem dJ6_bitCount_0f7a4_27 : decode cJ6_bitCount_0f7a4 27 = .ok (.iushr, 1) := by decide +kernel
theorem dJ6_bitCount_0f7a4_28 : decode cJ6_bitCount_0f7a4 28 = .ok (.iadd, 1) := by decide +kernel
theorem dJ6_bitCount_0f7a4_29 : decode cJ6_bitCount_0f7a4 29 = .ok (.ldc_w 267, 3) := by decide +kernel
theorem dJ6_bitCount_0f7a4_32 : decode cJ6_bitCount_0f7a4 32 = .ok (.iand, 1) := by decide +kernel
theorem dJ6_bitCount_0f7a4_33 : decode cJ6_bitCount_0f7a4 33 = .ok (.istore_n 0, 1) := by decide +kernel
theorem dJ6_bitCount_0f7a4_34 : decode cJ6_bitCount_0f7a4 34 = .ok (.iload_n 0, 1) := by decide +kernel
theorem dJ6_bitCount_0f7a4_35 : decode cJ6_bitCount_0f7a4 35 = .ok (.iload_n 0, 1) := by decide +kernel
theorem dJ6_bitCount_0f7a4_36 : decode cJ6_bitCount_0f7a4 36 = .ok (.bipush 8, 2) := by decide +kernel
theorem dJ6_bitCount_0f7a4_38 : decode cJ6_bitCount_0f7a4 38 = .ok (.iushr, 1) := by decide +kernel
theorem dJ6_bitCount_0f7a4_39 : decode cJ6_bitCount_0f7a4 39 = .ok (.iadd, 1) := by decide +kernel
theorem dJ6_bitCount_0f7a4_40 : decode cJ6_bitCount_0f7a4 40 = .ok (.istore_n 0, 1) := by decide +kernel
theorem dJ6_bitCount_0f7a4_41 : decode cJ6_bitCount_0f7a4 41 = .ok (.iload_n 0, 1) := by decide +kernel
theorem dJ6_bitCount_0f7a4_42 : decode cJ6_bitCount_0f7a4 42 = .ok (.iload_n 0, 1) := by decide +kernel
theorem dJ6_bitCount_0f7a4_43 : decode cJ6_bitCount_0f7a4 43 = .ok (.bipush 16, 2) := by decide +kernel
theorem dJ6_bitCount_0f7a4_45 : decode cJ6_bitCount_0f7a4 45 = .ok (.iushr, 1) := by decide +kernel
theorem dJ6_bitCount_0f7a4_46 : decode cJ6_bitCount_0f7a4 46 = .ok (.iadd, 1) := by decide +kernel
theorem dJ6_bitCount_0f7a4_47 : decode cJ6_bitCount_0f7a4 47 = .ok (.istore_n 0, 1) := by decide +kernel
theorem dJ6_bitCount_0f7a4_48 : decode cJ6_bitCount_0f7a4 48 = .ok (.iload_n 0, 1) := by decide +kernel
theorem dJ6_bitCount_0f7a4_49 : decode cJ6_bitCount_0f7a4 49 = .ok (.bipush 63, 2) := by decide +kernel
theorem dJ6_bitCount_0f7a4_51 : decode cJ6_bitCount_0f7a4 51 = .ok (.iand, 1) := by decide +kernel
theorem dJ6_bitCount_0f7a4_52 : decode cJ6_bitCount_0f7a4 52 = .ok (.ireturn, 1) := by decide +kernel
theorem dJ0_length_8abf5_0 : decode cJ0_length_8abf5 0 = .ok (.aload_n 0, 1) := by decide +kernel
theorem dJ0_length_8abf5_1 : decode cJ0_length_8abf5 1 = .ok (.getfield 9, 3) := by decide +kernel
theorem dJ0_length_8abf5_4 : decode cJ0_length_8abf5 4 = .ok (.arraylength, 1) := by decide +kernel
theorem dJ0_length_8abf5_5 : decode cJ0_length_8abf5 5 = .ok (.aload_n 0, 1) := by decide +kernel
theorem dJ0_length_8abf5_6 : decode cJ0_length_8abf5 6 = .ok (.invokevirtual 335, 3) := by decide +kernel
theorem dJ0_length_8abf5_9 : decode cJ0_length_8abf5 9 = .ok (.ishr, 1) := by decide +kernel
theorem dJ0_length_8abf5_10 : decode cJ0_length_8abf5 10 = .ok (.ireturn, 1) := by decide +kernel
theorem dJ0_charAt_5068e_0 : decode cJ0_charAt_5068e 0 = .ok (.aload_n 0, 1) := by decide +kernel
theorem dJ0_charAt_5068e_1 : decode cJ0_charAt_5068e 1 = .ok (.invokevirtual 492, 3) := by decide +kernel
theorem dJ0_charAt_5068e_4 : decode cJ0_charAt_5068e 4 = .ok (.ifCond .eq 12, 3) := by decide +kernel
theorem dJ0_charAt_5068e_7 : decode cJ0_charAt_5068e 7 = .ok (.aload_n 0, 1) := by decide +kernel
theorem dJ0_charAt_5068e_8 : decode cJ0_charAt_5068e 8 = .ok (.getfield 9, 3) := by decide +kernel
theorem dJ0_charAt_5068e_11 : decode cJ0_charAt_5068e 11 = .ok (.iload_n 1, 1) := by decide +kernel
theorem dJ0_charAt_5068e_12 : decode cJ0_charAt_5068e 12 = .ok (.invokestatic 495, 3) := by decide +kernel
theorem dJ0_charAt_5068e_15 : decode cJ0_charAt_5068e 15 = .ok (.ireturn, 1) := by decide +kernel
theorem dJ0_charAt_5068e_16 : decode cJ0_charAt_5068e 16 = .ok (.aload_n 0, 1) := by decide +kernel
theorem dJ0_charAt_5068e_17 : decode cJ0_charAt_5068e 17 = .ok (.getfield 9, 3) := by decide +kernel
theorem dJ0_charAt_5068e_20 : decode cJ0_charAt_5068e 20 = .ok (.iload_n 1, 1) := by decide +kernel
theorem dJ0_charAt_5068e_21 : decode cJ0_charAt_5068e 21 = .ok (.invokestatic 498, 3) := by decide +kernel
theorem dJ0_charAt_5068e_24 : decode cJ0_charAt_5068e 24 = .ok (.ireturn, 1) := by decide +kernel
theorem dJ0_coder_7d493_0 : decode cJ0_coder_7d493 0 = .ok (.getstatic 38, 3) := by decide +kernel
theorem dJ0_coder_7d493_3 : decode cJ0_coder_7d493 3 = .ok (.ifCond .eq 10, 3) := by decide +kernel
theorem dJ0_coder_7d493_6 : decode cJ0_coder_7d493 6 = .ok (.aload_n 0, 1) := by decide +kernel
theorem dJ0_coder_7d493_7 : decode cJ0_coder_7d493 7 = .ok (.getfield 15, 3) := by decide +kernel
theorem dJ0_coder_7d493_10 : decode cJ0_coder_7d493 10 = .ok (.goto 4, 3) := by decide +kernel
theorem dJ0_coder_7d493_13 : decode cJ0_coder_7d493 13 = .ok (.iconst 1, 1) := by decide +kernel
theorem dJ0_coder_7d493_14 : decode cJ0_coder_7d493 14 = .ok (.ireturn, 1) := by decide +kernel
theorem dJ0_isLatin1_aae02_0 : decode cJ0_isLatin1_aae02 0 = .ok (.getstatic 38, 3) := by decide +kernel
theorem dJ0_isLatin1_aae02_3 : decode cJ0_isLatin1_aae02 3 = .ok (.ifCond .eq 14, 3) := by decide +kernel
theorem dJ0_isLatin1_aae02_6 : decode cJ0_isLatin1_aae02 6 = .ok (.aload_n 0, 1) := by decide +kernel
theorem dJ0_isLatin1_aae02_7 : decode cJ0_isLatin1_aae02 7 = .ok (.getfield 15, 3) := by decide +kernel
theorem dJ0_isLatin1_aae02_10 : decode cJ0_isLatin1_aae02 10 = .ok (.ifCond .ne 7, 3) := by decide +kernel
theorem dJ0_isLatin1_aae02_13 : decode cJ0_isLatin1_aae02 13 = .ok (.iconst 1, 1) := by decide +kernel
theorem dJ0_isLatin1_aae02_14 : decode cJ0_isLatin1_aae02 14 = .ok (.goto 4, 3) := by decide +kernel
theorem dJ0_isLatin1_aae02_17 : decode cJ0_isLatin1_aae02 17 = .ok (.iconst 0, 1) := by decide +kernel
theorem dJ0_isLatin1_aae02_18 : decode cJ0_isLatin1_aae02 18 = .ok (.ireturn, 1) := by decide +kernel
theorem dJ0_checkIndex_df160_0 : decode cJ0_checkIndex_df160 0 = .ok (.iload_n 0, 1) := by decide +kernel
theorem dJ0_checkIndex_df160_1 : decode cJ0_checkIndex_df160 1 = .ok (.iload_n 1, 1) := by decide +kernel
theorem dJ0_checkIndex_df160_2 : decode cJ0_checkIndex_df160 2 = .ok (.getstatic 1053, 3) := by decide +kernel
theorem dJ0_checkIndex_df160_5 : decode cJ0_checkIndex_df160 5 = .ok (.invokestatic 1059, 3) := by decide +kernel
theorem dJ0_checkIndex_df160_8 : decode cJ0_checkIndex_df160 8 = .ok (.pop, 1) := by decide +kernel
theorem dJ0_checkIndex_df160_9 : decode cJ0_checkIndex_df160 9 = .ok (.return_, 1) := by decide +kernel
theorem dJ1_charAt_3b067_0 : decode cJ1_charAt_3b067 0 = .ok (.iload_n 1, 1) := by decide +kernel
theorem dJ1_charAt_3b067_1 : decode cJ1_charAt_3b067 1 = .ok (.aload_n 0, 1) := by decide +kernel
theorem dJ1_charAt_3b067_2 : decode cJ1_charAt_3b067 2 = .ok (.arraylength, 1) := by decide +kernel
theorem dJ1_charAt_3b067_3 : decode cJ1_charAt_3b067 3 = .ok (.invokestatic 9, 3) := by decide +kernel
theorem dJ1_charAt_3b067_6 : decode cJ1_charAt_3b067 6 = .ok (.aload_n 0, 1) := by decide +kernel
theorem dJ1_charAt_3b067_7 : decode cJ1_charAt_3b067 7 = .ok (.iload_n 1, 1) := by decide +kernel
theorem dJ1_charAt_3b067_8 : decode cJ1_charAt_3b067 8 = .ok (.baload, 1) := by decide +kernel
theorem dJ1_charAt_3b067_9 : decode cJ1_charAt_3b067 9 = .ok (.sipush 255, 3) := by decide +kernel
theorem dJ1_charAt_3b067_12 : decode cJ1_charAt_3b067 12 = .ok (.iand, 1) := by decide +kernel
theorem dJ1_charAt_3b067_13 : decode cJ1_charAt_3b067 13 = .ok (.i2c, 1) := by decide +kernel
theorem dJ1_charAt_3b067_14 : decode cJ1_charAt_3b067 14 = .ok (.ireturn, 1) := by decide +kernel
theorem dJ2_getChar_3b067_0 : decode cJ2_getChar_3b067 0 = .ok (.getstatic 44, 3) := by decide +kernel
theorem dJ2_getChar_3b067_3 : decode cJ2_getChar_3b067 3 = .ok (.ifCond .ne 25, 3) := by decide +kernel
theorem dJ2_getChar_3b067_6 : decode cJ2_getChar_3b067 6 = .ok (.iload_n 1, 1) := by decide +kernel
theorem dJ2_getChar_3b067_7 : decode cJ2_getChar_3b067 7 = .ok (.ifCond .lt 11, 3) := by decide +kernel
theorem dJ2_getChar_3b067_10 : decode cJ2_getChar_3b067 10 = .ok (.iload_n 1, 1) := by decide +kernel
theorem dJ2_getChar_3b067_11 : decode cJ2_getChar_3b067 11 = .ok (.aload_n 0, 1) := by decide +kernel
theorem dJ2_getChar_3b067_12 : decode cJ2_getChar_3b067 12 = .ok (.invokestatic 48, 3) := by decide +kernel
theorem dJ2_getChar_3b067_15 : decode cJ2_getChar_3b067 15 = .ok (.if_icmp .lt 13, 3) := by decide +kernel
theorem dJ2_getChar_3b067_18 : decode cJ2_getChar_3b067 18 = .ok (.new 52, 3) := by decide +kernel
theorem dJ2_getChar_3b067_21 : decode cJ2_getChar_3b067 21 = .ok (.dup, 1) := by decide +kernel
theorem dJ2_getChar_3b067_22 : decode cJ2_getChar_3b067 22 = .ok (.ldc 54, 2) := by decide +kernel
theorem dJ2_getChar_3b067_24 : decode cJ2_getChar_3b067 24 = .ok (.invokespecial 56, 3) := by decide +kernel
theorem dJ2_getChar_3b067_27 : decode cJ2_getChar_3b067 27 = .ok (.athrow, 1) := by decide +kernel
theorem dJ2_getChar_3b067_28 : decode cJ2_getChar_3b067 28 = .ok (.iload_n 1, 1) := by decide +kernel
theorem dJ2_getChar_3b067_29 : decode cJ2_getChar_3b067 29 = .ok (.iconst 1, 1) := by decide +kernel
theorem dJ2_getChar_3b067_30 : decode cJ2_getChar_3b067 30 = .ok (.ishl, 1) := by decide +kernel
theorem dJ2_getChar_3b067_31 : decode cJ2_getChar_3b067 31 = .ok (.istore_n 1, 1) := by decide +kernel
theorem dJ2_getChar_3b067_32 : decode cJ2_getChar_3b067 32 = .ok (.aload_n 0, 1) := by decide +kernel
theorem dJ2_getChar_3b067_33 : decode cJ2_getChar_3b067 33 = .ok (.iload_n 1, 1) := by decide +kernel
theorem dJ2_getChar_3b067_34 : decode cJ2_getChar_3b067 34 = .ok (.iinc 1 1, 3) := by decide +kernel
theorem dJ2_getChar_3b067_37 : decode cJ2_getChar_3b067 37 = .ok (.baload, 1) := by decide +kernel
theorem dJ2_getChar_3b067_38 : decode cJ2_getChar_3b067 38 = .ok (.sipush 255, 3) := by decide +kernel
theorem dJ2_getChar_3b067_41 : decode cJ2_getChar_3b067 41 = .ok (.iand, 1) := by decide +kernel
theorem dJ2_getChar_3b067_42 : decode cJ2_getChar_3b067 42 = .ok (.getstatic 59, 3) := by decide +kernel
theorem dJ2_getChar_3b067_45 : decode cJ2_getChar_3b067 45 = .ok (.ishl, 1) := by decide +kernel
theorem dJ2_getChar_3b067_46 : decode cJ2_getChar_3b067 46 = .ok (.aload_n 0, 1) := by decide +kernel
theorem dJ2_getChar_3b067_47 : decode cJ2_getChar_3b067 47 = .ok (.iload_n 1, 1) := by decide +kernel
theorem dJ2_getChar_3b067_48 : decode cJ2_getChar_3b067 48 = .ok (.baload, 1) := by decide +kernel
theorem dJ2_getChar_3b067_49 : decode cJ2_getChar_3b067 49 = .ok (.sipush 255, 3) := by decide +kernel
theorem dJ2_getChar_3b067_52 : decode cJ2_getChar_3b067 52 = .ok (.iand, 1) := by decide +kernel
theorem dJ2_getChar_3b067_53 : decode cJ2_getChar_3b067 53 = .ok (.getstatic 63, 3) := by decide +kernel
theorem dJ2_getChar_3b067_56 : decode cJ2_getChar_3b067 56 = .ok (.ishl, 1) := by decide +kernel
theorem dJ2_getChar_3b067_57 : decode cJ2_getChar_3b067 57 = .ok (.ior, 1) := by decide +kernel
theorem dJ2_getChar_3b067_58 : decode cJ2_getChar_3b067 58 = .ok (.i2c, 1) := by decide +kernel
theorem dJ2_getChar_3b067_59 : decode cJ2_getChar_3b067 59 = .ok (.ireturn, 1) := by decide +kernel
theorem dJ2_length_9d52b_0 : decode cJ2_length_9d52b 0 = .ok (.aload_n 0, 1) := by decide +kernel
theorem dJ2_length_9d52b_1 : decode cJ2_length_9d52b 1 = .ok (.arraylength, 1) := by decide +kernel
theorem dJ2_length_9d52b_2 : decode cJ2_length_9d52b 2 = .ok (.iconst 1, 1) := by decide +kernel
theorem dJ2_length_9d52b_3 : decode cJ2_length_9d52b 3 = .ok (.ishr, 1) := by decide +kernel
theorem dJ2_length_9d52b_4 : decode cJ2_length_9d52b 4 = .ok (.ireturn, 1) := by decide +kernel
theorem dJ2_charAt_3b067_0 : decode cJ2_charAt_3b067 0 = .ok (.iload_n 1, 1) := by decide +kernel
theorem dJ2_charAt_3b067_1 : decode cJ2_charAt_3b067 1 = .ok (.aload_n 0, 1) := by decide +kernel
theorem dJ2_charAt_3b067_2 : decode cJ2_charAt_3b067 2 = .ok (.invokestatic 67, 3) := by decide +kernel
theorem dJ2_charAt_3b067_5 : decode cJ2_charAt_3b067 5 = .ok (.aload_n 0, 1) := by decide +kernel
theorem dJ2_charAt_3b067_6 : decode cJ2_charAt_3b067 6 = .ok (.iload_n 1, 1) := by decide +kernel
theorem dJ2_charAt_3b067_7 : decode cJ2_charAt_3b067 7 = .ok (.invokestatic 71, 3) := by decide +kernel
theorem dJ2_charAt_3b067_10 : decode cJ2_charAt_3b067 10 = .ok (.ireturn, 1) := by decide +kernel
theorem dJ2_checkIndex_2214a_0 : decode cJ2_checkIndex_2214a 0 = .ok (.iload_n 0, 1) := by decide +kernel
theorem dJ2_checkIndex_2214a_1 : decode cJ2_checkIndex_2214a 1 = .ok (.aload_n 1, 1) := by decide +kernel
theorem dJ2_checkIndex_2214a_2 : decode cJ2_checkIndex_2214a 2 = .ok (.invokestatic 48, 3) := by decide +kernel
theorem dJ2_checkIndex_2214a_5 : decode cJ2_checkIndex_2214a 5 = .ok (.invokestatic 414, 3) := by decide +kernel
theorem dJ2_checkIndex_2214a_8 : decode cJ2_checkIndex_2214a 8 = .ok (.return_, 1) := by decide +kernel
theorem dJ7_fill_53178_0 : decode cJ7_fill_53178 0 = .ok (.iconst 0, 1) := by decide +kernel
theorem dJ7_fill_53178_1 : decode cJ7_fill_53178 1 = .ok (.istore_n 2, 1) := by decide +kernel
theorem dJ7_fill_53178_2 : decode cJ7_fill_53178 2 = .ok (.aload_n 0, 1) := by decide +kernel
theorem dJ7_fill_53178_3 : decode cJ7_fill_53178 3 = .ok (.arraylength, 1) := by decide +kernel
theorem dJ7_fill_53178_4 : decode cJ7_fill_53178 4 = .ok (.istore_n 3, 1) := by decide +kernel
theorem dJ7_fill_53178_5 : decode cJ7_fill_53178 5 = .ok (.iload_n 2, 1) := by decide +kernel
theorem dJ7_fill_53178_6 : decode cJ7_fill_53178 6 = .ok (.iload_n 3, 1) := by decide +kernel
theorem dJ7_fill_53178_7 : decode cJ7_fill_53178 7 = .ok (.if_icmp .ge 13, 3) := by decide +kernel
theorem dJ7_fill_53178_10 : decode cJ7_fill_53178 10 = .ok (.aload_n 0, 1) := by decide +kernel
theorem dJ7_fill_53178_11 : decode cJ7_fill_53178 11 = .ok (.iload_n 2, 1) := by decide +kernel
theorem dJ7_fill_53178_12 : decode cJ7_fill_53178 12 = .ok (.iload_n 1, 1) := by decide +kernel
theorem dJ7_fill_53178_13 : decode cJ7_fill_53178 13 = .ok (.iastore, 1) := by decide +kernel
theorem dJ7_fill_53178_14 : decode cJ7_fill_53178 14 = .ok (.iinc 2 1, 3) := by decide +kernel
theorem dJ7_fill_53178_17 : decode cJ7_fill_53178 17 = .ok (.goto (-12), 3) := by decide +kernel
theorem dJ7_fill_53178_20 : decode cJ7_fill_53178 20 = .ok (.return_, 1) := by decide +kernel
theorem dJ3_checkIndex_8e157_0 : decode cJ3_checkIndex_8e157 0 = .ok (.iload_n 0, 1) := by decide +kernel
theorem dJ3_checkIndex_8e157_1 : decode cJ3_checkIndex_8e157 1 = .ok (.ifCond .lt 8, 3) := by decide +kernel
theorem dJ3_checkIndex_8e157_4 : decode cJ3_checkIndex_8e157 4 = .ok (.iload_n 0, 1) := by decide +kernel
theorem dJ3_checkIndex_8e157_5 : decode cJ3_checkIndex_8e157 5 = .ok (.iload_n 1, 1) := by decide +kernel
theorem dJ3_checkIndex_8e157_6 : decode cJ3_checkIndex_8e157 6 = .ok (.if_icmp .lt 10, 3) := by decide +kernel
theorem dJ3_checkIndex_8e157_9 : decode cJ3_checkIndex_8e157 9 = .ok (.aload_n 2, 1) := by decide +kernel
theorem dJ3_checkIndex_8e157_10 : decode cJ3_checkIndex_8e157 10 = .ok (.iload_n 0, 1) := by decide +kernel
theorem dJ3_checkIndex_8e157_11 : decode cJ3_checkIndex_8e157 11 = .ok (.iload_n 1, 1) := by decide +kernel
theorem dJ3_checkIndex_8e157_12 : decode cJ3_checkIndex_8e157 12 = .ok (.invokestatic 95, 3) := by decide +kernel
theorem dJ3_checkIndex_8e157_15 : decode cJ3_checkIndex_8e157 15 = .ok (.athrow, 1) := by decide +kernel
theorem dJ3_checkIndex_8e157_16 : decode cJ3_checkIndex_8e157 16 = .ok (.iload_n 0, 1) := by decide +kernel
theorem dJ3_checkIndex_8e157_17 : decode cJ3_checkIndex_8e157 17 = .ok (.ireturn, 1) := by decide +kernel
