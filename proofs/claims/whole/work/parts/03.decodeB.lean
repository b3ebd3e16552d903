theorem dX8_init_0 : decode cX8_init 0 = .ok (.aload_n 0, 1) := by decide +kernel
theorem dX8_init_1 : decode cX8_init 1 = .ok (.invokespecial 1, 3) := by decide +kernel
theorem dX8_init_4 : decode cX8_init 4 = .ok (.aload_n 0, 1) := by decide +kernel
theorem dX8_init_5 : decode cX8_init 5 = .ok (.bipush 52, 2) := by decide +kernel
theorem dX8_init_7 : decode cX8_init 7 = .ok (.newarray .int, 2) := by decide +kernel
theorem dX8_init_9 : decode cX8_init 9 = .ok (.putfield 7, 3) := by decide +kernel
theorem dX8_init_12 : decode cX8_init 12 = .ok (.aload_n 0, 1) := by decide +kernel
theorem dX8_init_13 : decode cX8_init 13 = .ok (.bipush 52, 2) := by decide +kernel
theorem dX8_init_15 : decode cX8_init 15 = .ok (.newarray .int, 2) := by decide +kernel
theorem dX8_init_17 : decode cX8_init 17 = .ok (.putfield 13, 3) := by decide +kernel
theorem dX8_init_20 : decode cX8_init 20 = .ok (.aload_n 0, 1) := by decide +kernel
theorem dX8_init_21 : decode cX8_init 21 = .ok (.sipush 312, 3) := by decide +kernel
theorem dX8_init_24 : decode cX8_init 24 = .ok (.newarray .int, 2) := by decide +kernel
theorem dX8_init_26 : decode cX8_init 26 = .ok (.putfield 16, 3) := by decide +kernel
theorem dX8_init_29 : decode cX8_init 29 = .ok (.aload_n 0, 1) := by decide +kernel
theorem dX8_init_30 : decode cX8_init 30 = .ok (.bipush 104, 2) := by decide +kernel
theorem dX8_init_32 : decode cX8_init 32 = .ok (.newarray .int, 2) := by decide +kernel
theorem dX8_init_34 : decode cX8_init 34 = .ok (.putfield 19, 3) := by decide +kernel
theorem dX8_init_37 : decode cX8_init 37 = .ok (.aload_n 0, 1) := by decide +kernel
theorem dX8_init_38 : decode cX8_init 38 = .ok (.iconst 2, 1) := by decide +kernel
theorem dX8_init_39 : decode cX8_init 39 = .ok (.newarray .boolean, 2) := by decide +kernel
theorem dX8_init_41 : decode cX8_init 41 = .ok (.putfield 22, 3) := by decide +kernel
theorem dX8_init_44 : decode cX8_init 44 = .ok (.aload_n 0, 1) := by decide +kernel
theorem dX8_init_45 : decode cX8_init 45 = .ok (.bipush 12, 2) := by decide +kernel
theorem dX8_init_47 : decode cX8_init 47 = .ok (.newarray .int, 2) := by decide +kernel
theorem dX8_init_49 : decode cX8_init 49 = .ok (.putfield 26, 3) := by decide +kernel
theorem dX8_init_52 : decode cX8_init 52 = .ok (.aload_n 0, 1) := by decide +kernel
theorem dX8_init_53 : decode cX8_init 53 = .ok (.bipush 120, 2) := by decide +kernel
theorem dX8_init_55 : decode cX8_init 55 = .ok (.newarray .byte, 2) := by decide +kernel
theorem dX8_init_57 : decode cX8_init 57 = .ok (.putfield 29, 3) := by decide +kernel
theorem dX8_init_60 : decode cX8_init 60 = .ok (.aload_n 0, 1) := by decide +kernel
theorem dX8_init_61 : decode cX8_init 61 = .ok (.bipush 7, 2) := by decide +kernel
theorem dX8_init_63 : decode cX8_init 63 = .ok (.newarray .int, 2) := by decide +kernel
theorem dX8_init_65 : decode cX8_init 65 = .ok (.putfield 33, 3) := by decide +kernel
theorem dX8_init_68 : decode cX8_init 68 = .ok (.aload_n 0, 1) := by decide +kernel
theorem dX8_init_69 : decode cX8_init 69 = .ok (.getfield 7, 3) := by decide +kernel
theorem dX8_init_72 : decode cX8_init 72 = .ok (.iconst 0, 1) := by decide +kernel
theorem dX8_init_73 : decode cX8_init 73 = .ok (.iconst 2, 1) := by decide +kernel
theorem dX8_init_74 : decode cX8_init 74 = .ok (.iastore, 1) := by decide +kernel
theorem dX8_init_75 : decode cX8_init 75 = .ok (.return_, 1) := by decide +kernel
theorem dX8_in_0 : decode cX8_in 0 = .ok (.iload_n 0, 1) := by decide +kernel
theorem dX8_in_1 : decode cX8_in 1 = .ok (.iload_n 1, 1) := by decide +kernel
theorem dX8_in_2 : decode cX8_in 2 = .ok (.if_icmp .lt 12, 3) := by decide +kernel
theorem dX8_in_5 : decode cX8_in 5 = .ok (.iload_n 0, 1) := by decide +kernel
theorem dX8_in_6 : decode cX8_in 6 = .ok (.iload_n 2, 1) := by decide +kernel
theorem dX8_in_7 : decode cX8_in 7 = .ok (.if_icmp .gt 7, 3) := by decide +kernel
theorem dX8_in_10 : decode cX8_in 10 = .ok (.iconst 1, 1) := by decide +kernel
theorem dX8_in_11 : decode cX8_in 11 = .ok (.goto 4, 3) := by decide +kernel
theorem dX8_in_14 : decode cX8_in 14 = .ok (.iconst 0, 1) := by decide +kernel
theorem dX8_in_15 : decode cX8_in 15 = .ok (.ireturn, 1) := by decide +kernel
theorem dX8_has_0 : decode cX8_has 0 = .ok (.iload_n 0, 1) := by decide +kernel
theorem dX8_has_1 : decode cX8_has 1 = .ok (.iload_n 1, 1) := by decide +kernel
theorem dX8_has_2 : decode cX8_has 2 = .ok (.ishr, 1) := by decide +kernel
theorem dX8_has_3 : decode cX8_has 3 = .ok (.iconst 1, 1) := by decide +kernel
theorem dX8_has_4 : decode cX8_has 4 = .ok (.iand, 1) := by decide +kernel
theorem dX8_has_5 : decode cX8_has 5 = .ok (.iconst 1, 1) := by decide +kernel
theorem dX8_has_6 : decode cX8_has 6 = .ok (.if_icmp .ne 7, 3) := by decide +kernel
theorem dX8_has_9 : decode cX8_has 9 = .ok (.iconst 1, 1) := by decide +kernel
theorem dX8_has_10 : decode cX8_has 10 = .ok (.goto 4, 3) := by decide +kernel
theorem dX8_has_13 : decode cX8_has 13 = .ok (.iconst 0, 1) := by decide +kernel
theorem dX8_has_14 : decode cX8_has 14 = .ok (.ireturn, 1) := by decide +kernel
theorem dX8_bits_0 : decode cX8_bits 0 = .ok (.iconst 0, 1) := by decide +kernel
theorem dX8_bits_1 : decode cX8_bits 1 = .ok (.istore_n 1, 1) := by decide +kernel
theorem dX8_bits_2 : decode cX8_bits 2 = .ok (.iconst 0, 1) := by decide +kernel
theorem dX8_bits_3 : decode cX8_bits 3 = .ok (.istore_n 2, 1) := by decide +kernel
theorem dX8_bits_4 : decode cX8_bits 4 = .ok (.iload_n 2, 1) := by decide +kernel
theorem dX8_bits_5 : decode cX8_bits 5 = .ok (.bipush 12, 2) := by decide +kernel
theorem dX8_bits_7 : decode cX8_bits 7 = .ok (.if_icmp .ge 17, 3) := by decide +kernel
theorem dX8_bits_10 : decode cX8_bits 10 = .ok (.iload_n 1, 1) := by decide +kernel
theorem dX8_bits_11 : decode cX8_bits 11 = .ok (.iload_n 0, 1) := by decide +kernel
theorem dX8_bits_12 : decode cX8_bits 12 = .ok (.iload_n 2, 1) := by decide +kernel
theorem dX8_bits_13 : decode cX8_bits 13 = .ok (.ishr, 1) := by decide +kernel
theorem dX8_bits_14 : decode cX8_bits 14 = .ok (.iconst 1, 1) := by decide +kernel
theorem dX8_bits_15 : decode cX8_bits 15 = .ok (.iand, 1) := by decide +kernel
theorem dX8_bits_16 : decode cX8_bits 16 = .ok (.iadd, 1) := by decide +kernel
theorem dX8_bits_17 : decode cX8_bits 17 = .ok (.istore_n 1, 1) := by decide +kernel
theorem dX8_bits_18 : decode cX8_bits 18 = .ok (.iinc 2 1, 3) := by decide +kernel
theorem dX8_bits_21 : decode cX8_bits 21 = .ok (.goto (-17), 3) := by decide +kernel
theorem dX8_bits_24 : decode cX8_bits 24 = .ok (.iload_n 1, 1) := by decide +kernel
theorem dX8_bits_25 : decode cX8_bits 25 = .ok (.ireturn, 1) := by decide +kernel
theorem dX8_type_0 : decode cX8_type 0 = .ok (.aload_n 0, 1) := by decide +kernel
theorem dX8_type_1 : decode cX8_type 1 = .ok (.iconst 0, 1) := by decide +kernel
theorem dX8_type_2 : decode cX8_type 2 = .ok (.putfield 36, 3) := by decide +kernel
theorem dX8_type_5 : decode cX8_type 5 = .ok (.iload_n 1, 1) := by decide +kernel
theorem dX8_type_6 : decode cX8_type 6 = .ok (.iconst 0, 1) := by decide +kernel
theorem dX8_type_7 : decode cX8_type 7 = .ok (.sipush 255, 3) := by decide +kernel
theorem dX8_type_10 : decode cX8_type 10 = .ok (.invokestatic 40, 3) := by decide +kernel
theorem dX8_type_13 : decode cX8_type 13 = .ok (.ifCond .ne 5, 3) := by decide +kernel
theorem dX8_type_16 : decode cX8_type 16 = .ok (.iconst (-1), 1) := by decide +kernel
theorem dX8_type_17 : decode cX8_type 17 = .ok (.ireturn, 1) := by decide +kernel
theorem dX8_type_18 : decode cX8_type 18 = .ok (.aload_n 0, 1) := by decide +kernel
theorem dX8_type_19 : decode cX8_type 19 = .ok (.getfield 44, 3) := by decide +kernel
theorem dX8_type_22 : decode cX8_type 22 = .ok (.bipush 120, 2) := by decide +kernel
theorem dX8_type_24 : decode cX8_type 24 = .ok (.if_icmp .ne 6, 3) := by decide +kernel
theorem dX8_type_27 : decode cX8_type 27 = .ok (.bipush (-3), 2) := by decide +kernel
theorem dX8_type_29 : decode cX8_type 29 = .ok (.ireturn, 1) := by decide +kernel
theorem dX8_type_30 : decode cX8_type 30 = .ok (.aload_n 0, 1) := by decide +kernel
theorem dX8_type_31 : decode cX8_type 31 = .ok (.getfield 29, 3) := by decide +kernel
theorem dX8_type_34 : decode cX8_type 34 = .ok (.aload_n 0, 1) := by decide +kernel
theorem dX8_type_35 : decode cX8_type 35 = .ok (.getfield 44, 3) := by decide +kernel
theorem dX8_type_38 : decode cX8_type 38 = .ok (.iload_n 1, 1) := by decide +kernel
theorem dX8_type_39 : decode cX8_type 39 = .ok (.i2b, 1) := by decide +kernel
theorem dX8_type_40 : decode cX8_type 40 = .ok (.bastore, 1) := by decide +kernel
theorem dX8_type_41 : decode cX8_type 41 = .ok (.aload_n 0, 1) := by decide +kernel
theorem dX8_type_42 : decode cX8_type 42 = .ok (.dup, 1) := by decide +kernel
theorem dX8_type_43 : decode cX8_type 43 = .ok (.getfield 44, 3) := by decide +kernel
theorem dX8_type_46 : decode cX8_type 46 = .ok (.iconst 1, 1) := by decide +kernel
theorem dX8_type_47 : decode cX8_type 47 = .ok (.iadd, 1) := by decide +kernel
theorem dX8_type_48 : decode cX8_type 48 = .ok (.putfield 44, 3) := by decide +kernel
theorem dX8_type_51 : decode cX8_type 51 = .ok (.aload_n 0, 1) := by decide +kernel
theorem dX8_type_52 : decode cX8_type 52 = .ok (.getfield 44, 3) := by decide +kernel
theorem dX8_type_55 : decode cX8_type 55 = .ok (.ireturn, 1) := by decide +kernel
theorem dX8_clear_0 : decode cX8_clear 0 = .ok (.aload_n 0, 1) := by decide +kernel
theorem dX8_clear_1 : decode cX8_clear 1 = .ok (.iconst 0, 1) := by decide +kernel
theorem dX8_clear_2 : decode cX8_clear 2 = .ok (.putfield 36, 3) := by decide +kernel
theorem dX8_clear_5 : decode cX8_clear 5 = .ok (.aload_n 0, 1) := by decide +kernel
theorem dX8_clear_6 : decode cX8_clear 6 = .ok (.getfield 44, 3) := by decide +kernel
theorem dX8_clear_9 : decode cX8_clear 9 = .ok (.istore_n 1, 1) := by decide +kernel
theorem dX8_clear_10 : decode cX8_clear 10 = .ok (.aload_n 0, 1) := by decide +kernel
theorem dX8_clear_11 : decode cX8_clear 11 = .ok (.iconst 0, 1) := by decide +kernel
theorem dX8_clear_12 : decode cX8_clear 12 = .ok (.putfield 44, 3) := by decide +kernel
theorem dX8_clear_15 : decode cX8_clear 15 = .ok (.iload_n 1, 1) := by decide +kernel
theorem dX8_clear_16 : decode cX8_clear 16 = .ok (.ireturn, 1) := by decide +kernel
theorem dX8_at_0 : decode cX8_at 0 = .ok (.iload_n 1, 1) := by decide +kernel
theorem dX8_at_1 : decode cX8_at 1 = .ok (.aload_n 0, 1) := by decide +kernel
theorem dX8_at_2 : decode cX8_at 2 = .ok (.getfield 44, 3) := by decide +kernel
theorem dX8_at_5 : decode cX8_at 5 = .ok (.if_icmp .ge 16, 3) := by decide +kernel
theorem dX8_at_8 : decode cX8_at 8 = .ok (.aload_n 0, 1) := by decide +kernel
theorem dX8_at_9 : decode cX8_at 9 = .ok (.getfield 29, 3) := by decide +kernel
theorem dX8_at_12 : decode cX8_at 12 = .ok (.iload_n 1, 1) := by decide +kernel
theorem dX8_at_13 : decode cX8_at 13 = .ok (.baload, 1) := by decide +kernel
theorem dX8_at_14 : decode cX8_at 14 = .ok (.sipush 255, 3) := by decide +kernel
theorem dX8_at_17 : decode cX8_at 17 = .ok (.iand, 1) := by decide +kernel
theorem dX8_at_18 : decode cX8_at 18 = .ok (.goto 4, 3) := by decide +kernel
theorem dX8_at_21 : decode cX8_at 21 = .ok (.iconst (-1), 1) := by decide +kernel
theorem dX8_at_22 : decode cX8_at 22 = .ok (.ireturn, 1) := by decide +kernel
theorem dX8_code_0 : decode cX8_code 0 = .ok (.iconst 0, 1) := by decide +kernel
theorem dX8_code_1 : decode cX8_code 1 = .ok (.istore_n 1, 1) := by decide +kernel
theorem dX8_code_2 : decode cX8_code 2 = .ok (.aload_n 0, 1) := by decide +kernel
theorem dX8_code_3 : decode cX8_code 3 = .ok (.getfield 47, 3) := by decide +kernel
theorem dX8_code_6 : decode cX8_code 6 = .ok (.istore_n 2, 1) := by decide +kernel
theorem dX8_code_7 : decode cX8_code 7 = .ok (.iload_n 2, 1) := by decide +kernel
theorem dX8_code_8 : decode cX8_code 8 = .ok (.aload_n 0, 1) := by decide +kernel
theorem dX8_code_9 : decode cX8_code 9 = .ok (.getfield 50, 3) := by decide +kernel
theorem dX8_code_12 : decode cX8_code 12 = .ok (.if_icmp .ge 23, 3) := by decide +kernel
theorem dX8_code_15 : decode cX8_code 15 = .ok (.bipush 27, 2) := by decide +kernel
theorem dX8_code_17 : decode cX8_code 17 = .ok (.iload_n 1, 1) := by decide +kernel
theorem dX8_code_18 : decode cX8_code 18 = .ok (.imul, 1) := by decide +kernel
theorem dX8_code_19 : decode cX8_code 19 = .ok (.aload_n 0, 1) := by decide +kernel
theorem dX8_code_20 : decode cX8_code 20 = .ok (.iload_n 2, 1) := by decide +kernel
theorem dX8_code_21 : decode cX8_code 21 = .ok (.invokevirtual 53, 3) := by decide +kernel
theorem dX8_code_24 : decode cX8_code 24 = .ok (.iadd, 1) := by decide +kernel
theorem dX8_code_25 : decode cX8_code 25 = .ok (.bipush 96, 2) := by decide +kernel
theorem dX8_code_27 : decode cX8_code 27 = .ok (.isub, 1) := by decide +kernel
theorem dX8_code_28 : decode cX8_code 28 = .ok (.istore_n 1, 1) := by decide +kernel
theorem dX8_code_29 : decode cX8_code 29 = .ok (.iinc 2 1, 3) := by decide +kernel
theorem dX8_code_32 : decode cX8_code 32 = .ok (.goto (-25), 3) := by decide +kernel
theorem dX8_code_35 : decode cX8_code 35 = .ok (.iload_n 1, 1) := by decide +kernel
theorem dX8_code_36 : decode cX8_code 36 = .ok (.ireturn, 1) := by decide +kernel
theorem dX8_wordOf_0 : decode cX8_wordOf 0 = .ok (.aload_n 0, 1) := by decide +kernel
theorem dX8_wordOf_1 : decode cX8_wordOf 1 = .ok (.getfield 50, 3) := by decide +kernel
theorem dX8_wordOf_4 : decode cX8_wordOf 4 = .ok (.aload_n 0, 1) := by decide +kernel
theorem dX8_wordOf_5 : decode cX8_wordOf 5 = .ok (.getfield 47, 3) := by decide +kernel
theorem dX8_wordOf_8 : decode cX8_wordOf 8 = .ok (.isub, 1) := by decide +kernel
theorem dX8_wordOf_9 : decode cX8_wordOf 9 = .ok (.bipush 6, 2) := by decide +kernel
theorem dX8_wordOf_11 : decode cX8_wordOf 11 = .ok (.if_icmp .le 6, 3) := by decide +kernel
theorem dX8_wordOf_14 : decode cX8_wordOf 14 = .ok (.bipush 7, 2) := by decide +kernel
theorem dX8_wordOf_16 : decode cX8_wordOf 16 = .ok (.ireturn, 1) := by decide +kernel
theorem dX8_wordOf_17 : decode cX8_wordOf 17 = .ok (.aload_n 0, 1) := by decide +kernel
theorem dX8_wordOf_18 : decode cX8_wordOf 18 = .ok (.invokevirtual 57, 3) := by decide +kernel
theorem dX8_wordOf_21 : decode cX8_wordOf 21 = .ok (.lookupswitch 51 #[(243146, 49), (6564179, 47), (7738489, 43), (281027399, 45)], 43) := by decide +kernel
theorem dX8_wordOf_64 : decode cX8_wordOf 64 = .ok (.iconst 1, 1) := by decide +kernel
theorem dX8_wordOf_65 : decode cX8_wordOf 65 = .ok (.ireturn, 1) := by decide +kernel
theorem dX8_wordOf_66 : decode cX8_wordOf 66 = .ok (.iconst 2, 1) := by decide +kernel
theorem dX8_wordOf_67 : decode cX8_wordOf 67 = .ok (.ireturn, 1) := by decide +kernel
theorem dX8_wordOf_68 : decode cX8_wordOf 68 = .ok (.iconst 3, 1) := by decide +kernel
theorem dX8_wordOf_69 : decode cX8_wordOf 69 = .ok (.ireturn, 1) := by decide +kernel
theorem dX8_wordOf_70 : decode cX8_wordOf 70 = .ok (.iconst 4, 1) := by decide +kernel
theorem dX8_wordOf_71 : decode cX8_wordOf 71 = .ok (.ireturn, 1) := by decide +kernel
theorem dX8_wordOf_72 : decode cX8_wordOf 72 = .ok (.bipush 7, 2) := by decide +kernel
theorem dX8_wordOf_74 : decode cX8_wordOf 74 = .ok (.ireturn, 1) := by decide +kernel
theorem dX8_steps_0 : decode cX8_steps 0 = .ok (.aload_n 0, 1) := by decide +kernel
theorem dX8_steps_1 : decode cX8_steps 1 = .ok (.aload_n 0, 1) := by decide +kernel
theorem dX8_steps_2 : decode cX8_steps 2 = .ok (.getfield 50, 3) := by decide +kernel
theorem dX8_steps_5 : decode cX8_steps 5 = .ok (.putfield 47, 3) := by decide +kernel
theorem dX8_steps_8 : decode cX8_steps 8 = .ok (.aload_n 0, 1) := by decide +kernel
theorem dX8_steps_9 : decode cX8_steps 9 = .ok (.aload_n 0, 1) := by decide +kernel
theorem dX8_steps_10 : decode cX8_steps 10 = .ok (.getfield 47, 3) := by decide +kernel
theorem dX8_steps_13 : decode cX8_steps 13 = .ok (.invokevirtual 53, 3) := by decide +kernel
theorem dX8_steps_16 : decode cX8_steps 16 = .ok (.bipush 32, 2) := by decide +kernel
theorem dX8_steps_18 : decode cX8_steps 18 = .ok (.if_icmp .ne 16, 3) := by decide +kernel
theorem dX8_steps_21 : decode cX8_steps 21 = .ok (.aload_n 0, 1) := by decide +kernel
theorem dX8_steps_22 : decode cX8_steps 22 = .ok (.dup, 1) := by decide +kernel
theorem dX8_steps_23 : decode cX8_steps 23 = .ok (.getfield 47, 3) := by decide +kernel
theorem dX8_steps_26 : decode cX8_steps 26 = .ok (.iconst 1, 1) := by decide +kernel
theorem dX8_steps_27 : decode cX8_steps 27 = .ok (.iadd, 1) := by decide +kernel
theorem dX8_steps_28 : decode cX8_steps 28 = .ok (.putfield 47, 3) := by decide +kernel
theorem dX8_steps_31 : decode cX8_steps 31 = .ok (.goto (-23), 3) := by decide +kernel
theorem dX8_steps_34 : decode cX8_steps 34 = .ok (.aload_n 0, 1) := by decide +kernel
theorem dX8_steps_35 : decode cX8_steps 35 = .ok (.aload_n 0, 1) := by decide +kernel
theorem dX8_steps_36 : decode cX8_steps 36 = .ok (.getfield 47, 3) := by decide +kernel
theorem dX8_steps_39 : decode cX8_steps 39 = .ok (.putfield 50, 3) := by decide +kernel
theorem dX8_steps_42 : decode cX8_steps 42 = .ok (.aload_n 0, 1) := by decide +kernel
theorem dX8_steps_43 : decode cX8_steps 43 = .ok (.aload_n 0, 1) := by decide +kernel
theorem dX8_steps_44 : decode cX8_steps 44 = .ok (.getfield 50, 3) := by decide +kernel
theorem dX8_steps_47 : decode cX8_steps 47 = .ok (.invokevirtual 53, 3) := by decide +kernel
theorem dX8_steps_50 : decode cX8_steps 50 = .ok (.ifCond .ge 11, 3) := by decide +kernel
theorem dX8_steps_53 : decode cX8_steps 53 = .ok (.aload_n 0, 1) := by decide +kernel
theorem dX8_steps_54 : decode cX8_steps 54 = .ok (.iconst 0, 1) := by decide +kernel
theorem dX8_steps_55 : decode cX8_steps 55 = .ok (.putfield 61, 3) := by decide +kernel
theorem dX8_steps_58 : decode cX8_steps 58 = .ok (.goto 172, 3) := by decide +kernel
theorem dX8_steps_61 : decode cX8_steps 61 = .ok (.aload_n 0, 1) := by decide +kernel
theorem dX8_steps_62 : decode cX8_steps 62 = .ok (.aload_n 0, 1) := by decide +kernel
theorem dX8_steps_63 : decode cX8_steps 63 = .ok (.getfield 50, 3) := by decide +kernel
theorem dX8_steps_66 : decode cX8_steps 66 = .ok (.invokevirtual 53, 3) := by decide +kernel
theorem dX8_steps_69 : decode cX8_steps 69 = .ok (.bipush 48, 2) := by decide +kernel
theorem dX8_steps_71 : decode cX8_steps 71 = .ok (.bipush 57, 2) := by decide +kernel
theorem dX8_steps_73 : decode cX8_steps 73 = .ok (.invokestatic 40, 3) := by decide +kernel
theorem dX8_steps_76 : decode cX8_steps 76 = .ok (.ifCond .eq 60, 3) := by decide +kernel
theorem dX8_steps_79 : decode cX8_steps 79 = .ok (.aload_n 0, 1) := by decide +kernel
theorem dX8_steps_80 : decode cX8_steps 80 = .ok (.aload_n 0, 1) := by decide +kernel
theorem dX8_steps_81 : decode cX8_steps 81 = .ok (.getfield 50, 3) := by decide +kernel
theorem dX8_steps_84 : decode cX8_steps 84 = .ok (.invokevirtual 53, 3) := by decide +kernel
theorem dX8_steps_87 : decode cX8_steps 87 = .ok (.bipush 48, 2) := by decide +kernel
theorem dX8_steps_89 : decode cX8_steps 89 = .ok (.bipush 57, 2) := by decide +kernel
theorem dX8_steps_91 : decode cX8_steps 91 = .ok (.invokestatic 40, 3) := by decide +kernel
theorem dX8_steps_94 : decode cX8_steps 94 = .ok (.ifCond .eq 16, 3) := by decide +kernel
theorem dX8_steps_97 : decode cX8_steps 97 = .ok (.aload_n 0, 1) := by decide +kernel
theorem dX8_steps_98 : decode cX8_steps 98 = .ok (.dup, 1) := by decide +kernel
theorem dX8_steps_99 : decode cX8_steps 99 = .ok (.getfield 50, 3) := by decide +kernel
theorem dX8_steps_102 : decode cX8_steps 102 = .ok (.iconst 1, 1) := by decide +kernel
theorem dX8_steps_103 : decode cX8_steps 103 = .ok (.iadd, 1) := by decide +kernel
theorem dX8_steps_104 : decode cX8_steps 104 = .ok (.putfield 50, 3) := by decide +kernel
theorem dX8_steps_107 : decode cX8_steps 107 = .ok (.goto (-28), 3) := by decide +kernel
theorem dX8_steps_110 : decode cX8_steps 110 = .ok (.aload_n 0, 1) := by decide +kernel
theorem dX8_steps_111 : decode cX8_steps 111 = .ok (.aload_n 0, 1) := by decide +kernel
theorem dX8_steps_112 : decode cX8_steps 112 = .ok (.getfield 50, 3) := by decide +kernel
theorem dX8_steps_115 : decode cX8_steps 115 = .ok (.aload_n 0, 1) := by decide +kernel
theorem dX8_steps_116 : decode cX8_steps 116 = .ok (.getfield 47, 3) := by decide +kernel
theorem dX8_steps_119 : decode cX8_steps 119 = .ok (.isub, 1) := by decide +kernel
theorem dX8_steps_120 : decode cX8_steps 120 = .ok (.iconst 1, 1) := by decide +kernel
theorem dX8_steps_121 : decode cX8_steps 121 = .ok (.if_icmp .ne 7, 3) := by decide +kernel
theorem dX8_steps_124 : decode cX8_steps 124 = .ok (.iconst 5, 1) := by decide +kernel
theorem dX8_steps_125 : decode cX8_steps 125 = .ok (.goto 5, 3) := by decide +kernel
theorem dX8_steps_128 : decode cX8_steps 128 = .ok (.bipush 7, 2) := by decide +kernel
theorem dX8_steps_130 : decode cX8_steps 130 = .ok (.putfield 61, 3) := by decide +kernel
theorem dX8_steps_133 : decode cX8_steps 133 = .ok (.goto 97, 3) := by decide +kernel
theorem dX8_steps_136 : decode cX8_steps 136 = .ok (.aload_n 0, 1) := by decide +kernel
theorem dX8_steps_137 : decode cX8_steps 137 = .ok (.aload_n 0, 1) := by decide +kernel
theorem dX8_steps_138 : decode cX8_steps 138 = .ok (.getfield 50, 3) := by decide +kernel
theorem dX8_steps_141 : decode cX8_steps 141 = .ok (.invokevirtual 53, 3) := by decide +kernel
theorem dX8_steps_144 : decode cX8_steps 144 = .ok (.bipush 97, 2) := by decide +kernel
theorem dX8_steps_146 : decode cX8_steps 146 = .ok (.bipush 122, 2) := by decide +kernel
theorem dX8_steps_148 : decode cX8_steps 148 = .ok (.invokestatic 40, 3) := by decide +kernel
theorem dX8_steps_151 : decode cX8_steps 151 = .ok (.ifCond .eq 45, 3) := by decide +kernel
theorem dX8_steps_154 : decode cX8_steps 154 = .ok (.aload_n 0, 1) := by decide +kernel
theorem dX8_steps_155 : decode cX8_steps 155 = .ok (.aload_n 0, 1) := by decide +kernel
theorem dX8_steps_156 : decode cX8_steps 156 = .ok (.getfield 50, 3) := by decide +kernel
theorem dX8_steps_159 : decode cX8_steps 159 = .ok (.invokevirtual 53, 3) := by decide +kernel
theorem dX8_steps_162 : decode cX8_steps 162 = .ok (.bipush 97, 2) := by decide +kernel
theorem dX8_steps_164 : decode cX8_steps 164 = .ok (.bipush 122, 2) := by decide +kernel
theorem dX8_steps_166 : decode cX8_steps 166 = .ok (.invokestatic 40, 3) := by decide +kernel
theorem dX8_steps_169 : decode cX8_steps 169 = .ok (.ifCond .eq 16, 3) := by decide +kernel
theorem dX8_steps_172 : decode cX8_steps 172 = .ok (.aload_n 0, 1) := by decide +kernel
theorem dX8_steps_173 : decode cX8_steps 173 = .ok (.dup, 1) := by decide +kernel
theorem dX8_steps_174 : decode cX8_steps 174 = .ok (.getfield 50, 3) := by decide +kernel
theorem dX8_steps_177 : decode cX8_steps 177 = .ok (.iconst 1, 1) := by decide +kernel
theorem dX8_steps_178 : decode cX8_steps 178 = .ok (.iadd, 1) := by decide +kernel
theorem dX8_steps_179 : decode cX8_steps 179 = .ok (.putfield 50, 3) := by decide +kernel
theorem dX8_steps_182 : decode cX8_steps 182 = .ok (.goto (-28), 3) := by decide +kernel
theorem dX8_steps_185 : decode cX8_steps 185 = .ok (.aload_n 0, 1) := by decide +kernel
theorem dX8_steps_186 : decode cX8_steps 186 = .ok (.aload_n 0, 1) := by decide +kernel
theorem dX8_steps_187 : decode cX8_steps 187 = .ok (.invokevirtual 64, 3) := by decide +kernel
theorem dX8_steps_190 : decode cX8_steps 190 = .ok (.putfield 61, 3) := by decide +kernel
theorem dX8_steps_193 : decode cX8_steps 193 = .ok (.goto 37, 3) := by decide +kernel
theorem dX8_steps_196 : decode cX8_steps 196 = .ok (.aload_n 0, 1) := by decide +kernel
theorem dX8_steps_197 : decode cX8_steps 197 = .ok (.aload_n 0, 1) := by decide +kernel
theorem dX8_steps_198 : decode cX8_steps 198 = .ok (.aload_n 0, 1) := by decide +kernel
theorem dX8_steps_199 : decode cX8_steps 199 = .ok (.getfield 50, 3) := by decide +kernel
theorem dX8_steps_202 : decode cX8_steps 202 = .ok (.invokevirtual 53, 3) := by decide +kernel
theorem dX8_steps_205 : decode cX8_steps 205 = .ok (.bipush 59, 2) := by decide +kernel
theorem dX8_steps_207 : decode cX8_steps 207 = .ok (.if_icmp .ne 8, 3) := by decide +kernel
theorem dX8_steps_210 : decode cX8_steps 210 = .ok (.bipush 6, 2) := by decide +kernel
theorem dX8_steps_212 : decode cX8_steps 212 = .ok (.goto 5, 3) := by decide +kernel
theorem dX8_steps_215 : decode cX8_steps 215 = .ok (.bipush 7, 2) := by decide +kernel
theorem dX8_steps_217 : decode cX8_steps 217 = .ok (.putfield 61, 3) := by decide +kernel
theorem dX8_steps_220 : decode cX8_steps 220 = .ok (.aload_n 0, 1) := by decide +kernel
theorem dX8_steps_221 : decode cX8_steps 221 = .ok (.dup, 1) := by decide +kernel
theorem dX8_steps_222 : decode cX8_steps 222 = .ok (.getfield 50, 3) := by decide +kernel
theorem dX8_steps_225 : decode cX8_steps 225 = .ok (.iconst 1, 1) := by decide +kernel
theorem dX8_steps_226 : decode cX8_steps 226 = .ok (.iadd, 1) := by decide +kernel
theorem dX8_steps_227 : decode cX8_steps 227 = .ok (.putfield 50, 3) := by decide +kernel
theorem dX8_steps_230 : decode cX8_steps 230 = .ok (.return_, 1) := by decide +kernel
theorem dX8_takes_0 : decode cX8_takes 0 = .ok (.aload_n 0, 1) := by decide +kernel
theorem dX8_takes_1 : decode cX8_takes 1 = .ok (.getfield 67, 3) := by decide +kernel
theorem dX8_takes_4 : decode cX8_takes 4 = .ok (.bipush (-9), 2) := by decide +kernel
theorem dX8_takes_6 : decode cX8_takes 6 = .ok (.if_icmp .ne 22, 3) := by decide +kernel
theorem dX8_takes_9 : decode cX8_takes 9 = .ok (.iload_n 1, 1) := by decide +kernel
theorem dX8_takes_10 : decode cX8_takes 10 = .ok (.ifCond .eq 10, 3) := by decide +kernel
theorem dX8_takes_13 : decode cX8_takes 13 = .ok (.aload_n 0, 1) := by decide +kernel
theorem dX8_takes_14 : decode cX8_takes 14 = .ok (.invokevirtual 70, 3) := by decide +kernel
theorem dX8_takes_17 : decode cX8_takes 17 = .ok (.goto 11, 3) := by decide +kernel
theorem dX8_takes_20 : decode cX8_takes 20 = .ok (.aload_n 0, 1) := by decide +kernel
theorem dX8_takes_21 : decode cX8_takes 21 = .ok (.aload_n 0, 1) := by decide +kernel
theorem dX8_takes_22 : decode cX8_takes 22 = .ok (.getfield 47, 3) := by decide +kernel
theorem dX8_takes_25 : decode cX8_takes 25 = .ok (.putfield 67, 3) := by decide +kernel
theorem dX8_takes_28 : decode cX8_takes 28 = .ok (.return_, 1) := by decide +kernel
theorem dX8_figure_0 : decode cX8_figure 0 = .ok (.aload_n 0, 1) := by decide +kernel
theorem dX8_figure_1 : decode cX8_figure 1 = .ok (.getfield 61, 3) := by decide +kernel
theorem dX8_figure_4 : decode cX8_figure 4 = .ok (.iconst 5, 1) := by decide +kernel
theorem dX8_figure_5 : decode cX8_figure 5 = .ok (.if_icmp .ne 17, 3) := by decide +kernel
theorem dX8_figure_8 : decode cX8_figure 8 = .ok (.aload_n 0, 1) := by decide +kernel
theorem dX8_figure_9 : decode cX8_figure 9 = .ok (.aload_n 0, 1) := by decide +kernel
theorem dX8_figure_10 : decode cX8_figure 10 = .ok (.getfield 47, 3) := by decide +kernel
theorem dX8_figure_13 : decode cX8_figure 13 = .ok (.invokevirtual 53, 3) := by decide +kernel
theorem dX8_figure_16 : decode cX8_figure 16 = .ok (.bipush 48, 2) := by decide +kernel
theorem dX8_figure_18 : decode cX8_figure 18 = .ok (.isub, 1) := by decide +kernel
theorem dX8_figure_19 : decode cX8_figure 19 = .ok (.goto 5, 3) := by decide +kernel
theorem dX8_figure_22 : decode cX8_figure 22 = .ok (.bipush (-9), 2) := by decide +kernel
theorem dX8_figure_24 : decode cX8_figure 24 = .ok (.istore_n 3, 1) := by decide +kernel
theorem dX8_figure_25 : decode cX8_figure 25 = .ok (.aload_n 0, 1) := by decide +kernel
theorem dX8_figure_26 : decode cX8_figure 26 = .ok (.aload_n 0, 1) := by decide +kernel
theorem dX8_figure_27 : decode cX8_figure 27 = .ok (.getfield 61, 3) := by decide +kernel
theorem dX8_figure_30 : decode cX8_figure 30 = .ok (.iconst 5, 1) := by decide +kernel
theorem dX8_figure_31 : decode cX8_figure 31 = .ok (.if_icmp .ne 16, 3) := by decide +kernel
theorem dX8_figure_34 : decode cX8_figure 34 = .ok (.iload_n 3, 1) := by decide +kernel
theorem dX8_figure_35 : decode cX8_figure 35 = .ok (.iload_n 1, 1) := by decide +kernel
theorem dX8_figure_36 : decode cX8_figure 36 = .ok (.iload_n 2, 1) := by decide +kernel
theorem dX8_figure_37 : decode cX8_figure 37 = .ok (.invokestatic 40, 3) := by decide +kernel
theorem dX8_figure_40 : decode cX8_figure 40 = .ok (.ifCond .eq 7, 3) := by decide +kernel
theorem dX8_figure_43 : decode cX8_figure 43 = .ok (.iconst 1, 1) := by decide +kernel
theorem dX8_figure_44 : decode cX8_figure 44 = .ok (.goto 4, 3) := by decide +kernel
theorem dX8_figure_47 : decode cX8_figure 47 = .ok (.iconst 0, 1) := by decide +kernel
theorem dX8_figure_48 : decode cX8_figure 48 = .ok (.invokevirtual 73, 3) := by decide +kernel
theorem dX8_figure_51 : decode cX8_figure 51 = .ok (.iload_n 3, 1) := by decide +kernel
theorem dX8_figure_52 : decode cX8_figure 52 = .ok (.ireturn, 1) := by decide +kernel
theorem dX8_areLinked_0 : decode cX8_areLinked 0 = .ok (.iconst 0, 1) := by decide +kernel
theorem dX8_areLinked_1 : decode cX8_areLinked 1 = .ok (.istore_n 3, 1) := by decide +kernel
theorem dX8_areLinked_2 : decode cX8_areLinked 2 = .ok (.iconst 0, 1) := by decide +kernel
theorem dX8_areLinked_3 : decode cX8_areLinked 3 = .ok (.istore 4, 2) := by decide +kernel
theorem dX8_areLinked_5 : decode cX8_areLinked 5 = .ok (.iload 4, 2) := by decide +kernel
theorem dX8_areLinked_7 : decode cX8_areLinked 7 = .ok (.aload_n 0, 1) := by decide +kernel
theorem dX8_areLinked_8 : decode cX8_areLinked 8 = .ok (.getfield 13, 3) := by decide +kernel
theorem dX8_areLinked_11 : decode cX8_areLinked 11 = .ok (.iconst 1, 1) := by decide +kernel
theorem dX8_areLinked_12 : decode cX8_areLinked 12 = .ok (.iaload, 1) := by decide +kernel
theorem dX8_areLinked_13 : decode cX8_areLinked 13 = .ok (.if_icmp .ge 75, 3) := by decide +kernel
theorem dX8_areLinked_16 : decode cX8_areLinked 16 = .ok (.iload_n 3, 1) := by decide +kernel
theorem dX8_areLinked_17 : decode cX8_areLinked 17 = .ok (.ifCond .ne 59, 3) := by decide +kernel
theorem dX8_areLinked_20 : decode cX8_areLinked 20 = .ok (.aload_n 0, 1) := by decide +kernel
theorem dX8_areLinked_21 : decode cX8_areLinked 21 = .ok (.getfield 13, 3) := by decide +kernel
theorem dX8_areLinked_24 : decode cX8_areLinked 24 = .ok (.bipush 16, 2) := by decide +kernel
theorem dX8_areLinked_26 : decode cX8_areLinked 26 = .ok (.iload 4, 2) := by decide +kernel
theorem dX8_areLinked_28 : decode cX8_areLinked 28 = .ok (.iadd, 1) := by decide +kernel
theorem dX8_areLinked_29 : decode cX8_areLinked 29 = .ok (.iaload, 1) := by decide +kernel
theorem dX8_areLinked_30 : decode cX8_areLinked 30 = .ok (.iload_n 1, 1) := by decide +kernel
theorem dX8_areLinked_31 : decode cX8_areLinked 31 = .ok (.if_icmp .ne 17, 3) := by decide +kernel
theorem dX8_areLinked_34 : decode cX8_areLinked 34 = .ok (.aload_n 0, 1) := by decide +kernel
theorem dX8_areLinked_35 : decode cX8_areLinked 35 = .ok (.getfield 13, 3) := by decide +kernel
theorem dX8_areLinked_38 : decode cX8_areLinked 38 = .ok (.bipush 28, 2) := by decide +kernel
theorem dX8_areLinked_40 : decode cX8_areLinked 40 = .ok (.iload 4, 2) := by decide +kernel
theorem dX8_areLinked_42 : decode cX8_areLinked 42 = .ok (.iadd, 1) := by decide +kernel
theorem dX8_areLinked_43 : decode cX8_areLinked 43 = .ok (.iaload, 1) := by decide +kernel
theorem dX8_areLinked_44 : decode cX8_areLinked 44 = .ok (.iload_n 2, 1) := by decide +kernel
theorem dX8_areLinked_45 : decode cX8_areLinked 45 = .ok (.if_icmp .eq 31, 3) := by decide +kernel
theorem dX8_areLinked_48 : decode cX8_areLinked 48 = .ok (.aload_n 0, 1) := by decide +kernel
theorem dX8_areLinked_49 : decode cX8_areLinked 49 = .ok (.getfield 13, 3) := by decide +kernel
theorem dX8_areLinked_52 : decode cX8_areLinked 52 = .ok (.bipush 16, 2) := by decide +kernel
theorem dX8_areLinked_54 : decode cX8_areLinked 54 = .ok (.iload 4, 2) := by decide +kernel
theorem dX8_areLinked_56 : decode cX8_areLinked 56 = .ok (.iadd, 1) := by decide +kernel
theorem dX8_areLinked_57 : decode cX8_areLinked 57 = .ok (.iaload, 1) := by decide +kernel
theorem dX8_areLinked_58 : decode cX8_areLinked 58 = .ok (.iload_n 2, 1) := by decide +kernel
theorem dX8_areLinked_59 : decode cX8_areLinked 59 = .ok (.if_icmp .ne 21, 3) := by decide +kernel
theorem dX8_areLinked_62 : decode cX8_areLinked 62 = .ok (.aload_n 0, 1) := by decide +kernel
theorem dX8_areLinked_63 : decode cX8_areLinked 63 = .ok (.getfield 13, 3) := by decide +kernel
theorem dX8_areLinked_66 : decode cX8_areLinked 66 = .ok (.bipush 28, 2) := by decide +kernel
theorem dX8_areLinked_68 : decode cX8_areLinked 68 = .ok (.iload 4, 2) := by decide +kernel
theorem dX8_areLinked_70 : decode cX8_areLinked 70 = .ok (.iadd, 1) := by decide +kernel
theorem dX8_areLinked_71 : decode cX8_areLinked 71 = .ok (.iaload, 1) := by decide +kernel
theorem dX8_areLinked_72 : decode cX8_areLinked 72 = .ok (.iload_n 1, 1) := by decide +kernel
theorem dX8_areLinked_73 : decode cX8_areLinked 73 = .ok (.if_icmp .ne 7, 3) := by decide +kernel
theorem dX8_areLinked_76 : decode cX8_areLinked 76 = .ok (.iconst 1, 1) := by decide +kernel
theorem dX8_areLinked_77 : decode cX8_areLinked 77 = .ok (.goto 4, 3) := by decide +kernel
theorem dX8_areLinked_80 : decode cX8_areLinked 80 = .ok (.iconst 0, 1) := by decide +kernel
theorem dX8_areLinked_81 : decode cX8_areLinked 81 = .ok (.istore_n 3, 1) := by decide +kernel
theorem dX8_areLinked_82 : decode cX8_areLinked 82 = .ok (.iinc 4 1, 3) := by decide +kernel
theorem dX8_areLinked_85 : decode cX8_areLinked 85 = .ok (.goto (-80), 3) := by decide +kernel
theorem dX8_areLinked_88 : decode cX8_areLinked 88 = .ok (.iload_n 3, 1) := by decide +kernel
theorem dX8_areLinked_89 : decode cX8_areLinked 89 = .ok (.ireturn, 1) := by decide +kernel
theorem dX8_readsLink_0 : decode cX8_readsLink 0 = .ok (.aload_n 0, 1) := by decide +kernel
theorem dX8_readsLink_1 : decode cX8_readsLink 1 = .ok (.aload_n 0, 1) := by decide +kernel
theorem dX8_readsLink_2 : decode cX8_readsLink 2 = .ok (.getfield 13, 3) := by decide +kernel
theorem dX8_readsLink_5 : decode cX8_readsLink 5 = .ok (.iconst 1, 1) := by decide +kernel
theorem dX8_readsLink_6 : decode cX8_readsLink 6 = .ok (.iaload, 1) := by decide +kernel
theorem dX8_readsLink_7 : decode cX8_readsLink 7 = .ok (.bipush 12, 2) := by decide +kernel
theorem dX8_readsLink_9 : decode cX8_readsLink 9 = .ok (.if_icmp .ge 7, 3) := by decide +kernel
theorem dX8_readsLink_12 : decode cX8_readsLink 12 = .ok (.iconst 1, 1) := by decide +kernel
theorem dX8_readsLink_13 : decode cX8_readsLink 13 = .ok (.goto 4, 3) := by decide +kernel
theorem dX8_readsLink_16 : decode cX8_readsLink 16 = .ok (.iconst 0, 1) := by decide +kernel
theorem dX8_readsLink_17 : decode cX8_readsLink 17 = .ok (.invokevirtual 73, 3) := by decide +kernel
theorem dX8_readsLink_20 : decode cX8_readsLink 20 = .ok (.aload_n 0, 1) := by decide +kernel
theorem dX8_readsLink_21 : decode cX8_readsLink 21 = .ok (.iconst 0, 1) := by decide +kernel
theorem dX8_readsLink_22 : decode cX8_readsLink 22 = .ok (.aload_n 0, 1) := by decide +kernel
theorem dX8_readsLink_23 : decode cX8_readsLink 23 = .ok (.getfield 13, 3) := by decide +kernel
theorem dX8_readsLink_26 : decode cX8_readsLink 26 = .ok (.iconst 0, 1) := by decide +kernel
theorem dX8_readsLink_27 : decode cX8_readsLink 27 = .ok (.iaload, 1) := by decide +kernel
theorem dX8_readsLink_28 : decode cX8_readsLink 28 = .ok (.iconst 1, 1) := by decide +kernel
theorem dX8_readsLink_29 : decode cX8_readsLink 29 = .ok (.isub, 1) := by decide +kernel
theorem dX8_readsLink_30 : decode cX8_readsLink 30 = .ok (.invokevirtual 77, 3) := by decide +kernel
theorem dX8_readsLink_33 : decode cX8_readsLink 33 = .ok (.istore_n 1, 1) := by decide +kernel
theorem dX8_readsLink_34 : decode cX8_readsLink 34 = .ok (.aload_n 0, 1) := by decide +kernel
theorem dX8_readsLink_35 : decode cX8_readsLink 35 = .ok (.getfield 61, 3) := by decide +kernel
theorem dX8_readsLink_38 : decode cX8_readsLink 38 = .ok (.iconst 5, 1) := by decide +kernel
theorem dX8_readsLink_39 : decode cX8_readsLink 39 = .ok (.if_icmp .ne 17, 3) := by decide +kernel
theorem dX8_readsLink_42 : decode cX8_readsLink 42 = .ok (.aload_n 0, 1) := by decide +kernel
theorem dX8_readsLink_43 : decode cX8_readsLink 43 = .ok (.aload_n 0, 1) := by decide +kernel
theorem dX8_readsLink_44 : decode cX8_readsLink 44 = .ok (.getfield 47, 3) := by decide +kernel
theorem dX8_readsLink_47 : decode cX8_readsLink 47 = .ok (.invokevirtual 53, 3) := by decide +kernel
theorem dX8_readsLink_50 : decode cX8_readsLink 50 = .ok (.bipush 48, 2) := by decide +kernel
theorem dX8_readsLink_52 : decode cX8_readsLink 52 = .ok (.isub, 1) := by decide +kernel
theorem dX8_readsLink_53 : decode cX8_readsLink 53 = .ok (.goto 5, 3) := by decide +kernel
theorem dX8_readsLink_56 : decode cX8_readsLink 56 = .ok (.bipush (-9), 2) := by decide +kernel
theorem dX8_readsLink_58 : decode cX8_readsLink 58 = .ok (.istore_n 2, 1) := by decide +kernel
theorem dX8_readsLink_59 : decode cX8_readsLink 59 = .ok (.aload_n 0, 1) := by decide +kernel
theorem dX8_readsLink_60 : decode cX8_readsLink 60 = .ok (.iload_n 2, 1) := by decide +kernel
theorem dX8_readsLink_61 : decode cX8_readsLink 61 = .ok (.iconst 0, 1) := by decide +kernel
theorem dX8_readsLink_62 : decode cX8_readsLink 62 = .ok (.aload_n 0, 1) := by decide +kernel
theorem dX8_readsLink_63 : decode cX8_readsLink 63 = .ok (.getfield 13, 3) := by decide +kernel
theorem dX8_readsLink_66 : decode cX8_readsLink 66 = .ok (.iconst 0, 1) := by decide +kernel
theorem dX8_readsLink_67 : decode cX8_readsLink 67 = .ok (.iaload, 1) := by decide +kernel
theorem dX8_readsLink_68 : decode cX8_readsLink 68 = .ok (.iconst 1, 1) := by decide +kernel
theorem dX8_readsLink_69 : decode cX8_readsLink 69 = .ok (.isub, 1) := by decide +kernel
theorem dX8_readsLink_70 : decode cX8_readsLink 70 = .ok (.invokestatic 40, 3) := by decide +kernel
theorem dX8_readsLink_73 : decode cX8_readsLink 73 = .ok (.ifCond .eq 21, 3) := by decide +kernel
theorem dX8_readsLink_76 : decode cX8_readsLink 76 = .ok (.iload_n 2, 1) := by decide +kernel
theorem dX8_readsLink_77 : decode cX8_readsLink 77 = .ok (.iload_n 1, 1) := by decide +kernel
theorem dX8_readsLink_78 : decode cX8_readsLink 78 = .ok (.if_icmp .eq 16, 3) := by decide +kernel
theorem dX8_readsLink_81 : decode cX8_readsLink 81 = .ok (.aload_n 0, 1) := by decide +kernel
theorem dX8_readsLink_82 : decode cX8_readsLink 82 = .ok (.iload_n 1, 1) := by decide +kernel
theorem dX8_readsLink_83 : decode cX8_readsLink 83 = .ok (.iload_n 2, 1) := by decide +kernel
theorem dX8_readsLink_84 : decode cX8_readsLink 84 = .ok (.invokevirtual 81, 3) := by decide +kernel
theorem dX8_readsLink_87 : decode cX8_readsLink 87 = .ok (.ifCond .ne 7, 3) := by decide +kernel
theorem dX8_readsLink_90 : decode cX8_readsLink 90 = .ok (.iconst 1, 1) := by decide +kernel
theorem dX8_readsLink_91 : decode cX8_readsLink 91 = .ok (.goto 4, 3) := by decide +kernel
theorem dX8_readsLink_94 : decode cX8_readsLink 94 = .ok (.iconst 0, 1) := by decide +kernel
theorem dX8_readsLink_95 : decode cX8_readsLink 95 = .ok (.invokevirtual 73, 3) := by decide +kernel
theorem dX8_readsLink_98 : decode cX8_readsLink 98 = .ok (.aload_n 0, 1) := by decide +kernel
theorem dX8_readsLink_99 : decode cX8_readsLink 99 = .ok (.iconst 1, 1) := by decide +kernel
theorem dX8_readsLink_100 : decode cX8_readsLink 100 = .ok (.bipush 9, 2) := by decide +kernel
theorem dX8_readsLink_102 : decode cX8_readsLink 102 = .ok (.invokevirtual 77, 3) := by decide +kernel
theorem dX8_readsLink_105 : decode cX8_readsLink 105 = .ok (.istore_n 3, 1) := by decide +kernel
theorem dX8_readsLink_106 : decode cX8_readsLink 106 = .ok (.aload_n 0, 1) := by decide +kernel
theorem dX8_readsLink_107 : decode cX8_readsLink 107 = .ok (.getfield 67, 3) := by decide +kernel
theorem dX8_readsLink_110 : decode cX8_readsLink 110 = .ok (.bipush (-9), 2) := by decide +kernel
theorem dX8_readsLink_112 : decode cX8_readsLink 112 = .ok (.if_icmp .ne 54, 3) := by decide +kernel
theorem dX8_readsLink_115 : decode cX8_readsLink 115 = .ok (.aload_n 0, 1) := by decide +kernel
theorem dX8_readsLink_116 : decode cX8_readsLink 116 = .ok (.getfield 13, 3) := by decide +kernel
theorem dX8_readsLink_119 : decode cX8_readsLink 119 = .ok (.iconst 1, 1) := by decide +kernel
theorem dX8_readsLink_120 : decode cX8_readsLink 120 = .ok (.iaload, 1) := by decide +kernel
theorem dX8_readsLink_121 : decode cX8_readsLink 121 = .ok (.istore 4, 2) := by decide +kernel
theorem dX8_readsLink_123 : decode cX8_readsLink 123 = .ok (.aload_n 0, 1) := by decide +kernel
theorem dX8_readsLink_124 : decode cX8_readsLink 124 = .ok (.getfield 13, 3) := by decide +kernel
theorem dX8_readsLink_127 : decode cX8_readsLink 127 = .ok (.bipush 16, 2) := by decide +kernel
theorem dX8_readsLink_129 : decode cX8_readsLink 129 = .ok (.iload 4, 2) := by decide +kernel
theorem dX8_readsLink_131 : decode cX8_readsLink 131 = .ok (.iadd, 1) := by decide +kernel
theorem dX8_readsLink_132 : decode cX8_readsLink 132 = .ok (.iload_n 1, 1) := by decide +kernel
theorem dX8_readsLink_133 : decode cX8_readsLink 133 = .ok (.iastore, 1) := by decide +kernel
theorem dX8_readsLink_134 : decode cX8_readsLink 134 = .ok (.aload_n 0, 1) := by decide +kernel
theorem dX8_readsLink_135 : decode cX8_readsLink 135 = .ok (.getfield 13, 3) := by decide +kernel
theorem dX8_readsLink_138 : decode cX8_readsLink 138 = .ok (.bipush 28, 2) := by decide +kernel
theorem dX8_readsLink_140 : decode cX8_readsLink 140 = .ok (.iload 4, 2) := by decide +kernel
theorem dX8_readsLink_142 : decode cX8_readsLink 142 = .ok (.iadd, 1) := by decide +kernel
theorem dX8_readsLink_143 : decode cX8_readsLink 143 = .ok (.iload_n 2, 1) := by decide +kernel
theorem dX8_readsLink_144 : decode cX8_readsLink 144 = .ok (.iastore, 1) := by decide +kernel
theorem dX8_readsLink_145 : decode cX8_readsLink 145 = .ok (.aload_n 0, 1) := by decide +kernel
theorem dX8_readsLink_146 : decode cX8_readsLink 146 = .ok (.getfield 13, 3) := by decide +kernel
theorem dX8_readsLink_149 : decode cX8_readsLink 149 = .ok (.bipush 40, 2) := by decide +kernel
theorem dX8_readsLink_151 : decode cX8_readsLink 151 = .ok (.iload 4, 2) := by decide +kernel
theorem dX8_readsLink_153 : decode cX8_readsLink 153 = .ok (.iadd, 1) := by decide +kernel
theorem dX8_readsLink_154 : decode cX8_readsLink 154 = .ok (.iload_n 3, 1) := by decide +kernel
theorem dX8_readsLink_155 : decode cX8_readsLink 155 = .ok (.iastore, 1) := by decide +kernel
theorem dX8_readsLink_156 : decode cX8_readsLink 156 = .ok (.aload_n 0, 1) := by decide +kernel
theorem dX8_readsLink_157 : decode cX8_readsLink 157 = .ok (.getfield 13, 3) := by decide +kernel
theorem dX8_readsLink_160 : decode cX8_readsLink 160 = .ok (.iconst 1, 1) := by decide +kernel
theorem dX8_readsLink_161 : decode cX8_readsLink 161 = .ok (.dup2, 1) := by decide +kernel
theorem dX8_readsLink_162 : decode cX8_readsLink 162 = .ok (.iaload, 1) := by decide +kernel
theorem dX8_readsLink_163 : decode cX8_readsLink 163 = .ok (.iconst 1, 1) := by decide +kernel
theorem dX8_readsLink_164 : decode cX8_readsLink 164 = .ok (.iadd, 1) := by decide +kernel
theorem dX8_readsLink_165 : decode cX8_readsLink 165 = .ok (.iastore, 1) := by decide +kernel
theorem dX8_readsLink_166 : decode cX8_readsLink 166 = .ok (.return_, 1) := by decide +kernel
theorem dX8_reads_0 : decode cX8_reads 0 = .ok (.iconst 0, 1) := by decide +kernel
theorem dX8_reads_1 : decode cX8_reads 1 = .ok (.istore_n 1, 1) := by decide +kernel
theorem dX8_reads_2 : decode cX8_reads 2 = .ok (.iload_n 1, 1) := by decide +kernel
theorem dX8_reads_3 : decode cX8_reads 3 = .ok (.bipush 52, 2) := by decide +kernel
theorem dX8_reads_5 : decode cX8_reads 5 = .ok (.if_icmp .ge 16, 3) := by decide +kernel
theorem dX8_reads_8 : decode cX8_reads 8 = .ok (.aload_n 0, 1) := by decide +kernel
theorem dX8_reads_9 : decode cX8_reads 9 = .ok (.getfield 13, 3) := by decide +kernel
theorem dX8_reads_12 : decode cX8_reads 12 = .ok (.iload_n 1, 1) := by decide +kernel
theorem dX8_reads_13 : decode cX8_reads 13 = .ok (.iconst 0, 1) := by decide +kernel
theorem dX8_reads_14 : decode cX8_reads 14 = .ok (.iastore, 1) := by decide +kernel
theorem dX8_reads_15 : decode cX8_reads 15 = .ok (.iinc 1 1, 3) := by decide +kernel
theorem dX8_reads_18 : decode cX8_reads 18 = .ok (.goto (-16), 3) := by decide +kernel
theorem dX8_reads_21 : decode cX8_reads 21 = .ok (.aload_n 0, 1) := by decide +kernel
theorem dX8_reads_22 : decode cX8_reads 22 = .ok (.getfield 13, 3) := by decide +kernel
theorem dX8_reads_25 : decode cX8_reads 25 = .ok (.iconst 0, 1) := by decide +kernel
theorem dX8_reads_26 : decode cX8_reads 26 = .ok (.iconst 2, 1) := by decide +kernel
theorem dX8_reads_27 : decode cX8_reads 27 = .ok (.iastore, 1) := by decide +kernel
theorem dX8_reads_28 : decode cX8_reads 28 = .ok (.iconst 0, 1) := by decide +kernel
theorem dX8_reads_29 : decode cX8_reads 29 = .ok (.istore_n 1, 1) := by decide +kernel
theorem dX8_reads_30 : decode cX8_reads 30 = .ok (.aload_n 0, 1) := by decide +kernel
theorem dX8_reads_31 : decode cX8_reads 31 = .ok (.bipush (-9), 2) := by decide +kernel
theorem dX8_reads_33 : decode cX8_reads 33 = .ok (.putfield 67, 3) := by decide +kernel
theorem dX8_reads_36 : decode cX8_reads 36 = .ok (.aload_n 0, 1) := by decide +kernel
theorem dX8_reads_37 : decode cX8_reads 37 = .ok (.iconst 0, 1) := by decide +kernel
theorem dX8_reads_38 : decode cX8_reads 38 = .ok (.putfield 50, 3) := by decide +kernel
theorem dX8_reads_41 : decode cX8_reads 41 = .ok (.aload_n 0, 1) := by decide +kernel
theorem dX8_reads_42 : decode cX8_reads 42 = .ok (.invokevirtual 70, 3) := by decide +kernel
theorem dX8_reads_45 : decode cX8_reads 45 = .ok (.iconst 0, 1) := by decide +kernel
theorem dX8_reads_46 : decode cX8_reads 46 = .ok (.istore_n 2, 1) := by decide +kernel
theorem dX8_reads_47 : decode cX8_reads 47 = .ok (.aload_n 0, 1) := by decide +kernel
theorem dX8_reads_48 : decode cX8_reads 48 = .ok (.getfield 67, 3) := by decide +kernel
theorem dX8_reads_51 : decode cX8_reads 51 = .ok (.bipush (-9), 2) := by decide +kernel
theorem dX8_reads_53 : decode cX8_reads 53 = .ok (.if_icmp .ne 166, 3) := by decide +kernel
theorem dX8_reads_56 : decode cX8_reads 56 = .ok (.aload_n 0, 1) := by decide +kernel
theorem dX8_reads_57 : decode cX8_reads 57 = .ok (.getfield 61, 3) := by decide +kernel
theorem dX8_reads_60 : decode cX8_reads 60 = .ok (.ifCond .eq 159, 3) := by decide +kernel
theorem dX8_reads_63 : decode cX8_reads 63 = .ok (.aload_n 0, 1) := by decide +kernel
theorem dX8_reads_64 : decode cX8_reads 64 = .ok (.getfield 61, 3) := by decide +kernel
theorem dX8_reads_67 : decode cX8_reads 67 = .ok (.tableswitch 123 1 4 #[29, 58, 95, 116], 29) := by decide +kernel
theorem dX8_reads_96 : decode cX8_reads 96 = .ok (.aload_n 0, 1) := by decide +kernel
theorem dX8_reads_97 : decode cX8_reads 97 = .ok (.iload_n 2, 1) := by decide +kernel
theorem dX8_reads_98 : decode cX8_reads 98 = .ok (.ifCond .ne 7, 3) := by decide +kernel
theorem dX8_reads_101 : decode cX8_reads 101 = .ok (.iconst 1, 1) := by decide +kernel
theorem dX8_reads_102 : decode cX8_reads 102 = .ok (.goto 4, 3) := by decide +kernel
theorem dX8_reads_105 : decode cX8_reads 105 = .ok (.iconst 0, 1) := by decide +kernel
theorem dX8_reads_106 : decode cX8_reads 106 = .ok (.invokevirtual 73, 3) := by decide +kernel
theorem dX8_reads_109 : decode cX8_reads 109 = .ok (.aload_n 0, 1) := by decide +kernel
theorem dX8_reads_110 : decode cX8_reads 110 = .ok (.getfield 13, 3) := by decide +kernel
theorem dX8_reads_113 : decode cX8_reads 113 = .ok (.iconst 0, 1) := by decide +kernel
theorem dX8_reads_114 : decode cX8_reads 114 = .ok (.aload_n 0, 1) := by decide +kernel
theorem dX8_reads_115 : decode cX8_reads 115 = .ok (.iconst 2, 1) := by decide +kernel
theorem dX8_reads_116 : decode cX8_reads 116 = .ok (.bipush 7, 2) := by decide +kernel
theorem dX8_reads_118 : decode cX8_reads 118 = .ok (.invokevirtual 77, 3) := by decide +kernel
theorem dX8_reads_121 : decode cX8_reads 121 = .ok (.iastore, 1) := by decide +kernel
theorem dX8_reads_122 : decode cX8_reads 122 = .ok (.goto 73, 3) := by decide +kernel
theorem dX8_reads_125 : decode cX8_reads 125 = .ok (.aload_n 0, 1) := by decide +kernel
theorem dX8_reads_126 : decode cX8_reads 126 = .ok (.iload_n 1, 1) := by decide +kernel
theorem dX8_reads_127 : decode cX8_reads 127 = .ok (.ifCond .ne 7, 3) := by decide +kernel
theorem dX8_reads_130 : decode cX8_reads 130 = .ok (.iconst 1, 1) := by decide +kernel
theorem dX8_reads_131 : decode cX8_reads 131 = .ok (.goto 4, 3) := by decide +kernel
theorem dX8_reads_134 : decode cX8_reads 134 = .ok (.iconst 0, 1) := by decide +kernel
theorem dX8_reads_135 : decode cX8_reads 135 = .ok (.invokevirtual 73, 3) := by decide +kernel
theorem dX8_reads_138 : decode cX8_reads 138 = .ok (.iconst 1, 1) := by decide +kernel
theorem dX8_reads_139 : decode cX8_reads 139 = .ok (.istore_n 1, 1) := by decide +kernel
theorem dX8_reads_140 : decode cX8_reads 140 = .ok (.aload_n 0, 1) := by decide +kernel
theorem dX8_reads_141 : decode cX8_reads 141 = .ok (.getfield 13, 3) := by decide +kernel
theorem dX8_reads_144 : decode cX8_reads 144 = .ok (.iconst 2, 1) := by decide +kernel
theorem dX8_reads_145 : decode cX8_reads 145 = .ok (.aload_n 0, 1) := by decide +kernel
theorem dX8_reads_146 : decode cX8_reads 146 = .ok (.iconst 0, 1) := by decide +kernel
theorem dX8_reads_147 : decode cX8_reads 147 = .ok (.aload_n 0, 1) := by decide +kernel
theorem dX8_reads_148 : decode cX8_reads 148 = .ok (.getfield 13, 3) := by decide +kernel
theorem dX8_reads_151 : decode cX8_reads 151 = .ok (.iconst 0, 1) := by decide +kernel
theorem dX8_reads_152 : decode cX8_reads 152 = .ok (.iaload, 1) := by decide +kernel
theorem dX8_reads_153 : decode cX8_reads 153 = .ok (.iconst 1, 1) := by decide +kernel
theorem dX8_reads_154 : decode cX8_reads 154 = .ok (.isub, 1) := by decide +kernel
theorem dX8_reads_155 : decode cX8_reads 155 = .ok (.invokevirtual 77, 3) := by decide +kernel
theorem dX8_reads_158 : decode cX8_reads 158 = .ok (.iastore, 1) := by decide +kernel
theorem dX8_reads_159 : decode cX8_reads 159 = .ok (.goto 36, 3) := by decide +kernel
theorem dX8_reads_162 : decode cX8_reads 162 = .ok (.aload_n 0, 1) := by decide +kernel
theorem dX8_reads_163 : decode cX8_reads 163 = .ok (.iconst 1, 1) := by decide +kernel
theorem dX8_reads_164 : decode cX8_reads 164 = .ok (.invokevirtual 73, 3) := by decide +kernel
theorem dX8_reads_167 : decode cX8_reads 167 = .ok (.aload_n 0, 1) := by decide +kernel
theorem dX8_reads_168 : decode cX8_reads 168 = .ok (.getfield 13, 3) := by decide +kernel
theorem dX8_reads_171 : decode cX8_reads 171 = .ok (.iconst 3, 1) := by decide +kernel
theorem dX8_reads_172 : decode cX8_reads 172 = .ok (.aload_n 0, 1) := by decide +kernel
theorem dX8_reads_173 : decode cX8_reads 173 = .ok (.iconst 0, 1) := by decide +kernel
theorem dX8_reads_174 : decode cX8_reads 174 = .ok (.bipush 9, 2) := by decide +kernel
theorem dX8_reads_176 : decode cX8_reads 176 = .ok (.invokevirtual 77, 3) := by decide +kernel
theorem dX8_reads_179 : decode cX8_reads 179 = .ok (.iastore, 1) := by decide +kernel
theorem dX8_reads_180 : decode cX8_reads 180 = .ok (.goto 15, 3) := by decide +kernel
theorem dX8_reads_183 : decode cX8_reads 183 = .ok (.aload_n 0, 1) := by decide +kernel
theorem dX8_reads_184 : decode cX8_reads 184 = .ok (.invokevirtual 85, 3) := by decide +kernel
theorem dX8_reads_187 : decode cX8_reads 187 = .ok (.goto 8, 3) := by decide +kernel
theorem dX8_reads_190 : decode cX8_reads 190 = .ok (.aload_n 0, 1) := by decide +kernel
theorem dX8_reads_191 : decode cX8_reads 191 = .ok (.iconst 0, 1) := by decide +kernel
theorem dX8_reads_192 : decode cX8_reads 192 = .ok (.invokevirtual 73, 3) := by decide +kernel
theorem dX8_reads_195 : decode cX8_reads 195 = .ok (.aload_n 0, 1) := by decide +kernel
theorem dX8_reads_196 : decode cX8_reads 196 = .ok (.aload_n 0, 1) := by decide +kernel
theorem dX8_reads_197 : decode cX8_reads 197 = .ok (.getfield 61, 3) := by decide +kernel
theorem dX8_reads_200 : decode cX8_reads 200 = .ok (.bipush 6, 2) := by decide +kernel
theorem dX8_reads_202 : decode cX8_reads 202 = .ok (.if_icmp .ne 7, 3) := by decide +kernel
theorem dX8_reads_205 : decode cX8_reads 205 = .ok (.iconst 1, 1) := by decide +kernel
theorem dX8_reads_206 : decode cX8_reads 206 = .ok (.goto 4, 3) := by decide +kernel
theorem dX8_reads_209 : decode cX8_reads 209 = .ok (.iconst 0, 1) := by decide +kernel
theorem dX8_reads_210 : decode cX8_reads 210 = .ok (.invokevirtual 73, 3) := by decide +kernel
theorem dX8_reads_213 : decode cX8_reads 213 = .ok (.iinc 2 1, 3) := by decide +kernel
theorem dX8_reads_216 : decode cX8_reads 216 = .ok (.goto (-169), 3) := by decide +kernel
theorem dX8_reads_219 : decode cX8_reads 219 = .ok (.iload_n 2, 1) := by decide +kernel
theorem dX8_reads_220 : decode cX8_reads 220 = .ok (.ireturn, 1) := by decide +kernel
theorem dX8_tells_0 : decode cX8_tells 0 = .ok (.aload_n 0, 1) := by decide +kernel
theorem dX8_tells_1 : decode cX8_tells 1 = .ok (.iconst 0, 1) := by decide +kernel
theorem dX8_tells_2 : decode cX8_tells 2 = .ok (.putfield 36, 3) := by decide +kernel
theorem dX8_tells_5 : decode cX8_tells 5 = .ok (.aload_n 0, 1) := by decide +kernel
theorem dX8_tells_6 : decode cX8_tells 6 = .ok (.invokevirtual 88, 3) := by decide +kernel
theorem dX8_tells_9 : decode cX8_tells 9 = .ok (.istore_n 1, 1) := by decide +kernel
theorem dX8_tells_10 : decode cX8_tells 10 = .ok (.aload_n 0, 1) := by decide +kernel
theorem dX8_tells_11 : decode cX8_tells 11 = .ok (.getfield 67, 3) := by decide +kernel
theorem dX8_tells_14 : decode cX8_tells 14 = .ok (.bipush (-9), 2) := by decide +kernel
theorem dX8_tells_16 : decode cX8_tells 16 = .ok (.if_icmp .eq 11, 3) := by decide +kernel
theorem dX8_tells_19 : decode cX8_tells 19 = .ok (.bipush (-10), 2) := by decide +kernel
theorem dX8_tells_21 : decode cX8_tells 21 = .ok (.aload_n 0, 1) := by decide +kernel
theorem dX8_tells_22 : decode cX8_tells 22 = .ok (.getfield 67, 3) := by decide +kernel
theorem dX8_tells_25 : decode cX8_tells 25 = .ok (.isub, 1) := by decide +kernel
theorem dX8_tells_26 : decode cX8_tells 26 = .ok (.ireturn, 1) := by decide +kernel
theorem dX8_tells_27 : decode cX8_tells 27 = .ok (.aload_n 0, 1) := by decide +kernel
theorem dX8_tells_28 : decode cX8_tells 28 = .ok (.invokevirtual 91, 3) := by decide +kernel
theorem dX8_tells_31 : decode cX8_tells 31 = .ok (.iconst 0, 1) := by decide +kernel
theorem dX8_tells_32 : decode cX8_tells 32 = .ok (.istore_n 2, 1) := by decide +kernel
theorem dX8_tells_33 : decode cX8_tells 33 = .ok (.iload_n 2, 1) := by decide +kernel
theorem dX8_tells_34 : decode cX8_tells 34 = .ok (.bipush 52, 2) := by decide +kernel
theorem dX8_tells_36 : decode cX8_tells 36 = .ok (.if_icmp .ge 21, 3) := by decide +kernel
theorem dX8_tells_39 : decode cX8_tells 39 = .ok (.aload_n 0, 1) := by decide +kernel
theorem dX8_tells_40 : decode cX8_tells 40 = .ok (.getfield 7, 3) := by decide +kernel
theorem dX8_tells_43 : decode cX8_tells 43 = .ok (.iload_n 2, 1) := by decide +kernel
theorem dX8_tells_44 : decode cX8_tells 44 = .ok (.aload_n 0, 1) := by decide +kernel
theorem dX8_tells_45 : decode cX8_tells 45 = .ok (.getfield 13, 3) := by decide +kernel
theorem dX8_tells_48 : decode cX8_tells 48 = .ok (.iload_n 2, 1) := by decide +kernel
theorem dX8_tells_49 : decode cX8_tells 49 = .ok (.iaload, 1) := by decide +kernel
theorem dX8_tells_50 : decode cX8_tells 50 = .ok (.iastore, 1) := by decide +kernel
theorem dX8_tells_51 : decode cX8_tells 51 = .ok (.iinc 2 1, 3) := by decide +kernel
theorem dX8_tells_54 : decode cX8_tells 54 = .ok (.goto (-21), 3) := by decide +kernel
theorem dX8_tells_57 : decode cX8_tells 57 = .ok (.aload_n 0, 1) := by decide +kernel
theorem dX8_tells_58 : decode cX8_tells 58 = .ok (.iconst 0, 1) := by decide +kernel
theorem dX8_tells_59 : decode cX8_tells 59 = .ok (.putfield 44, 3) := by decide +kernel
theorem dX8_tells_62 : decode cX8_tells 62 = .ok (.iload_n 1, 1) := by decide +kernel
theorem dX8_tells_63 : decode cX8_tells 63 = .ok (.ireturn, 1) := by decide +kernel
theorem dX8_nodesOf_0 : decode cX8_nodesOf 0 = .ok (.iconst 1, 1) := by decide +kernel
theorem dX8_nodesOf_1 : decode cX8_nodesOf 1 = .ok (.aload_n 0, 1) := by decide +kernel
theorem dX8_nodesOf_2 : decode cX8_nodesOf 2 = .ok (.getfield 7, 3) := by decide +kernel
theorem dX8_nodesOf_5 : decode cX8_nodesOf 5 = .ok (.iconst 2, 1) := by decide +kernel
theorem dX8_nodesOf_6 : decode cX8_nodesOf 6 = .ok (.iaload, 1) := by decide +kernel
theorem dX8_nodesOf_7 : decode cX8_nodesOf 7 = .ok (.ishl, 1) := by decide +kernel
theorem dX8_nodesOf_8 : decode cX8_nodesOf 8 = .ok (.istore_n 2, 1) := by decide +kernel
theorem dX8_nodesOf_9 : decode cX8_nodesOf 9 = .ok (.iconst 0, 1) := by decide +kernel
theorem dX8_nodesOf_10 : decode cX8_nodesOf 10 = .ok (.istore_n 3, 1) := by decide +kernel
theorem dX8_nodesOf_11 : decode cX8_nodesOf 11 = .ok (.iload_n 3, 1) := by decide +kernel
theorem dX8_nodesOf_12 : decode cX8_nodesOf 12 = .ok (.iload_n 2, 1) := by decide +kernel
theorem dX8_nodesOf_13 : decode cX8_nodesOf 13 = .ok (.if_icmp .eq 115, 3) := by decide +kernel
theorem dX8_nodesOf_16 : decode cX8_nodesOf 16 = .ok (.iload_n 2, 1) := by decide +kernel
theorem dX8_nodesOf_17 : decode cX8_nodesOf 17 = .ok (.istore_n 3, 1) := by decide +kernel
theorem dX8_nodesOf_18 : decode cX8_nodesOf 18 = .ok (.iconst 0, 1) := by decide +kernel
theorem dX8_nodesOf_19 : decode cX8_nodesOf 19 = .ok (.istore 4, 2) := by decide +kernel
theorem dX8_nodesOf_21 : decode cX8_nodesOf 21 = .ok (.iload 4, 2) := by decide +kernel
theorem dX8_nodesOf_23 : decode cX8_nodesOf 23 = .ok (.aload_n 0, 1) := by decide +kernel
theorem dX8_nodesOf_24 : decode cX8_nodesOf 24 = .ok (.getfield 7, 3) := by decide +kernel
theorem dX8_nodesOf_27 : decode cX8_nodesOf 27 = .ok (.iconst 1, 1) := by decide +kernel
theorem dX8_nodesOf_28 : decode cX8_nodesOf 28 = .ok (.iaload, 1) := by decide +kernel
theorem dX8_nodesOf_29 : decode cX8_nodesOf 29 = .ok (.if_icmp .ge 96, 3) := by decide +kernel
theorem dX8_nodesOf_32 : decode cX8_nodesOf 32 = .ok (.iload_n 1, 1) := by decide +kernel
theorem dX8_nodesOf_33 : decode cX8_nodesOf 33 = .ok (.iload 4, 2) := by decide +kernel
theorem dX8_nodesOf_35 : decode cX8_nodesOf 35 = .ok (.invokestatic 94, 3) := by decide +kernel
theorem dX8_nodesOf_38 : decode cX8_nodesOf 38 = .ok (.ifCond .eq 41, 3) := by decide +kernel
theorem dX8_nodesOf_41 : decode cX8_nodesOf 41 = .ok (.iload_n 2, 1) := by decide +kernel
theorem dX8_nodesOf_42 : decode cX8_nodesOf 42 = .ok (.aload_n 0, 1) := by decide +kernel
theorem dX8_nodesOf_43 : decode cX8_nodesOf 43 = .ok (.getfield 7, 3) := by decide +kernel
theorem dX8_nodesOf_46 : decode cX8_nodesOf 46 = .ok (.bipush 16, 2) := by decide +kernel
theorem dX8_nodesOf_48 : decode cX8_nodesOf 48 = .ok (.iload 4, 2) := by decide +kernel
theorem dX8_nodesOf_50 : decode cX8_nodesOf 50 = .ok (.iadd, 1) := by decide +kernel
theorem dX8_nodesOf_51 : decode cX8_nodesOf 51 = .ok (.iaload, 1) := by decide +kernel
theorem dX8_nodesOf_52 : decode cX8_nodesOf 52 = .ok (.invokestatic 94, 3) := by decide +kernel
theorem dX8_nodesOf_55 : decode cX8_nodesOf 55 = .ok (.ifCond .ne 20, 3) := by decide +kernel
theorem dX8_nodesOf_58 : decode cX8_nodesOf 58 = .ok (.iload_n 2, 1) := by decide +kernel
theorem dX8_nodesOf_59 : decode cX8_nodesOf 59 = .ok (.aload_n 0, 1) := by decide +kernel
theorem dX8_nodesOf_60 : decode cX8_nodesOf 60 = .ok (.getfield 7, 3) := by decide +kernel
theorem dX8_nodesOf_63 : decode cX8_nodesOf 63 = .ok (.bipush 28, 2) := by decide +kernel
theorem dX8_nodesOf_65 : decode cX8_nodesOf 65 = .ok (.iload 4, 2) := by decide +kernel
theorem dX8_nodesOf_67 : decode cX8_nodesOf 67 = .ok (.iadd, 1) := by decide +kernel
theorem dX8_nodesOf_68 : decode cX8_nodesOf 68 = .ok (.iaload, 1) := by decide +kernel
theorem dX8_nodesOf_69 : decode cX8_nodesOf 69 = .ok (.invokestatic 94, 3) := by decide +kernel
theorem dX8_nodesOf_72 : decode cX8_nodesOf 72 = .ok (.ifCond .eq 7, 3) := by decide +kernel
theorem dX8_nodesOf_75 : decode cX8_nodesOf 75 = .ok (.iconst 1, 1) := by decide +kernel
theorem dX8_nodesOf_76 : decode cX8_nodesOf 76 = .ok (.goto 4, 3) := by decide +kernel
theorem dX8_nodesOf_79 : decode cX8_nodesOf 79 = .ok (.iconst 0, 1) := by decide +kernel
theorem dX8_nodesOf_80 : decode cX8_nodesOf 80 = .ok (.istore 5, 2) := by decide +kernel
theorem dX8_nodesOf_82 : decode cX8_nodesOf 82 = .ok (.iload_n 2, 1) := by decide +kernel
theorem dX8_nodesOf_83 : decode cX8_nodesOf 83 = .ok (.iload 5, 2) := by decide +kernel
theorem dX8_nodesOf_85 : decode cX8_nodesOf 85 = .ok (.ifCond .eq 31, 3) := by decide +kernel
theorem dX8_nodesOf_88 : decode cX8_nodesOf 88 = .ok (.iconst 1, 1) := by decide +kernel
theorem dX8_nodesOf_89 : decode cX8_nodesOf 89 = .ok (.aload_n 0, 1) := by decide +kernel
theorem dX8_nodesOf_90 : decode cX8_nodesOf 90 = .ok (.getfield 7, 3) := by decide +kernel
theorem dX8_nodesOf_93 : decode cX8_nodesOf 93 = .ok (.bipush 16, 2) := by decide +kernel
theorem dX8_nodesOf_95 : decode cX8_nodesOf 95 = .ok (.iload 4, 2) := by decide +kernel
theorem dX8_nodesOf_97 : decode cX8_nodesOf 97 = .ok (.iadd, 1) := by decide +kernel
theorem dX8_nodesOf_98 : decode cX8_nodesOf 98 = .ok (.iaload, 1) := by decide +kernel
theorem dX8_nodesOf_99 : decode cX8_nodesOf 99 = .ok (.ishl, 1) := by decide +kernel
theorem dX8_nodesOf_100 : decode cX8_nodesOf 100 = .ok (.iconst 1, 1) := by decide +kernel
theorem dX8_nodesOf_101 : decode cX8_nodesOf 101 = .ok (.aload_n 0, 1) := by decide +kernel
theorem dX8_nodesOf_102 : decode cX8_nodesOf 102 = .ok (.getfield 7, 3) := by decide +kernel
theorem dX8_nodesOf_105 : decode cX8_nodesOf 105 = .ok (.bipush 28, 2) := by decide +kernel
theorem dX8_nodesOf_107 : decode cX8_nodesOf 107 = .ok (.iload 4, 2) := by decide +kernel
theorem dX8_nodesOf_109 : decode cX8_nodesOf 109 = .ok (.iadd, 1) := by decide +kernel
theorem dX8_nodesOf_110 : decode cX8_nodesOf 110 = .ok (.iaload, 1) := by decide +kernel
theorem dX8_nodesOf_111 : decode cX8_nodesOf 111 = .ok (.ishl, 1) := by decide +kernel
theorem dX8_nodesOf_112 : decode cX8_nodesOf 112 = .ok (.ior, 1) := by decide +kernel
theorem dX8_nodesOf_113 : decode cX8_nodesOf 113 = .ok (.goto 4, 3) := by decide +kernel
theorem dX8_nodesOf_116 : decode cX8_nodesOf 116 = .ok (.iconst 0, 1) := by decide +kernel
theorem dX8_nodesOf_117 : decode cX8_nodesOf 117 = .ok (.ior, 1) := by decide +kernel
theorem dX8_nodesOf_118 : decode cX8_nodesOf 118 = .ok (.istore_n 2, 1) := by decide +kernel
theorem dX8_nodesOf_119 : decode cX8_nodesOf 119 = .ok (.iinc 4 1, 3) := by decide +kernel
theorem dX8_nodesOf_122 : decode cX8_nodesOf 122 = .ok (.goto (-101), 3) := by decide +kernel
theorem dX8_nodesOf_125 : decode cX8_nodesOf 125 = .ok (.goto (-114), 3) := by decide +kernel
theorem dX8_nodesOf_128 : decode cX8_nodesOf 128 = .ok (.iload_n 2, 1) := by decide +kernel
theorem dX8_nodesOf_129 : decode cX8_nodesOf 129 = .ok (.ireturn, 1) := by decide +kernel
theorem dX8_costOf_0 : decode cX8_costOf 0 = .ok (.iconst 0, 1) := by decide +kernel
theorem dX8_costOf_1 : decode cX8_costOf 1 = .ok (.istore_n 2, 1) := by decide +kernel
theorem dX8_costOf_2 : decode cX8_costOf 2 = .ok (.iconst 0, 1) := by decide +kernel
theorem dX8_costOf_3 : decode cX8_costOf 3 = .ok (.istore_n 3, 1) := by decide +kernel
theorem dX8_costOf_4 : decode cX8_costOf 4 = .ok (.iload_n 3, 1) := by decide +kernel
theorem dX8_costOf_5 : decode cX8_costOf 5 = .ok (.aload_n 0, 1) := by decide +kernel
theorem dX8_costOf_6 : decode cX8_costOf 6 = .ok (.getfield 7, 3) := by decide +kernel
theorem dX8_costOf_9 : decode cX8_costOf 9 = .ok (.iconst 1, 1) := by decide +kernel
theorem dX8_costOf_10 : decode cX8_costOf 10 = .ok (.iaload, 1) := by decide +kernel
theorem dX8_costOf_11 : decode cX8_costOf 11 = .ok (.if_icmp .ge 33, 3) := by decide +kernel
theorem dX8_costOf_14 : decode cX8_costOf 14 = .ok (.iload_n 2, 1) := by decide +kernel
theorem dX8_costOf_15 : decode cX8_costOf 15 = .ok (.iload_n 1, 1) := by decide +kernel
theorem dX8_costOf_16 : decode cX8_costOf 16 = .ok (.iload_n 3, 1) := by decide +kernel
theorem dX8_costOf_17 : decode cX8_costOf 17 = .ok (.invokestatic 94, 3) := by decide +kernel
theorem dX8_costOf_20 : decode cX8_costOf 20 = .ok (.ifCond .eq 15, 3) := by decide +kernel
theorem dX8_costOf_23 : decode cX8_costOf 23 = .ok (.aload_n 0, 1) := by decide +kernel
theorem dX8_costOf_24 : decode cX8_costOf 24 = .ok (.getfield 7, 3) := by decide +kernel
theorem dX8_costOf_27 : decode cX8_costOf 27 = .ok (.bipush 40, 2) := by decide +kernel
theorem dX8_costOf_29 : decode cX8_costOf 29 = .ok (.iload_n 3, 1) := by decide +kernel
theorem dX8_costOf_30 : decode cX8_costOf 30 = .ok (.iadd, 1) := by decide +kernel
theorem dX8_costOf_31 : decode cX8_costOf 31 = .ok (.iaload, 1) := by decide +kernel
theorem dX8_costOf_32 : decode cX8_costOf 32 = .ok (.goto 4, 3) := by decide +kernel
theorem dX8_costOf_35 : decode cX8_costOf 35 = .ok (.iconst 0, 1) := by decide +kernel
theorem dX8_costOf_36 : decode cX8_costOf 36 = .ok (.iadd, 1) := by decide +kernel
theorem dX8_costOf_37 : decode cX8_costOf 37 = .ok (.istore_n 2, 1) := by decide +kernel
theorem dX8_costOf_38 : decode cX8_costOf 38 = .ok (.iinc 3 1, 3) := by decide +kernel
theorem dX8_costOf_41 : decode cX8_costOf 41 = .ok (.goto (-37), 3) := by decide +kernel
theorem dX8_costOf_44 : decode cX8_costOf 44 = .ok (.iload_n 2, 1) := by decide +kernel
theorem dX8_costOf_45 : decode cX8_costOf 45 = .ok (.ireturn, 1) := by decide +kernel
theorem dX8_beyond_0 : decode cX8_beyond 0 = .ok (.aload_n 0, 1) := by decide +kernel
theorem dX8_beyond_1 : decode cX8_beyond 1 = .ok (.getfield 7, 3) := by decide +kernel
theorem dX8_beyond_4 : decode cX8_beyond 4 = .ok (.bipush 16, 2) := by decide +kernel
theorem dX8_beyond_6 : decode cX8_beyond 6 = .ok (.iload_n 1, 1) := by decide +kernel
theorem dX8_beyond_7 : decode cX8_beyond 7 = .ok (.iadd, 1) := by decide +kernel
theorem dX8_beyond_8 : decode cX8_beyond 8 = .ok (.iaload, 1) := by decide +kernel
theorem dX8_beyond_9 : decode cX8_beyond 9 = .ok (.iload_n 2, 1) := by decide +kernel
theorem dX8_beyond_10 : decode cX8_beyond 10 = .ok (.if_icmp .ne 15, 3) := by decide +kernel
theorem dX8_beyond_13 : decode cX8_beyond 13 = .ok (.aload_n 0, 1) := by decide +kernel
theorem dX8_beyond_14 : decode cX8_beyond 14 = .ok (.getfield 7, 3) := by decide +kernel
theorem dX8_beyond_17 : decode cX8_beyond 17 = .ok (.bipush 28, 2) := by decide +kernel
theorem dX8_beyond_19 : decode cX8_beyond 19 = .ok (.iload_n 1, 1) := by decide +kernel
theorem dX8_beyond_20 : decode cX8_beyond 20 = .ok (.iadd, 1) := by decide +kernel
theorem dX8_beyond_21 : decode cX8_beyond 21 = .ok (.iaload, 1) := by decide +kernel
theorem dX8_beyond_22 : decode cX8_beyond 22 = .ok (.goto 30, 3) := by decide +kernel
theorem dX8_beyond_25 : decode cX8_beyond 25 = .ok (.aload_n 0, 1) := by decide +kernel
theorem dX8_beyond_26 : decode cX8_beyond 26 = .ok (.getfield 7, 3) := by decide +kernel
theorem dX8_beyond_29 : decode cX8_beyond 29 = .ok (.bipush 28, 2) := by decide +kernel
theorem dX8_beyond_31 : decode cX8_beyond 31 = .ok (.iload_n 1, 1) := by decide +kernel
theorem dX8_beyond_32 : decode cX8_beyond 32 = .ok (.iadd, 1) := by decide +kernel
theorem dX8_beyond_33 : decode cX8_beyond 33 = .ok (.iaload, 1) := by decide +kernel
theorem dX8_beyond_34 : decode cX8_beyond 34 = .ok (.iload_n 2, 1) := by decide +kernel
theorem dX8_beyond_35 : decode cX8_beyond 35 = .ok (.if_icmp .ne 15, 3) := by decide +kernel
theorem dX8_beyond_38 : decode cX8_beyond 38 = .ok (.aload_n 0, 1) := by decide +kernel
theorem dX8_beyond_39 : decode cX8_beyond 39 = .ok (.getfield 7, 3) := by decide +kernel
theorem dX8_beyond_42 : decode cX8_beyond 42 = .ok (.bipush 16, 2) := by decide +kernel
theorem dX8_beyond_44 : decode cX8_beyond 44 = .ok (.iload_n 1, 1) := by decide +kernel
theorem dX8_beyond_45 : decode cX8_beyond 45 = .ok (.iadd, 1) := by decide +kernel
theorem dX8_beyond_46 : decode cX8_beyond 46 = .ok (.iaload, 1) := by decide +kernel
theorem dX8_beyond_47 : decode cX8_beyond 47 = .ok (.goto 5, 3) := by decide +kernel
theorem dX8_beyond_50 : decode cX8_beyond 50 = .ok (.bipush (-9), 2) := by decide +kernel
theorem dX8_beyond_52 : decode cX8_beyond 52 = .ok (.ireturn, 1) := by decide +kernel
theorem dX8_measures_0 : decode cX8_measures 0 = .ok (.iconst 0, 1) := by decide +kernel
theorem dX8_measures_1 : decode cX8_measures 1 = .ok (.istore_n 2, 1) := by decide +kernel
theorem dX8_measures_2 : decode cX8_measures 2 = .ok (.iload_n 2, 1) := by decide +kernel
theorem dX8_measures_3 : decode cX8_measures 3 = .ok (.aload_n 0, 1) := by decide +kernel
theorem dX8_measures_4 : decode cX8_measures 4 = .ok (.getfield 7, 3) := by decide +kernel
theorem dX8_measures_7 : decode cX8_measures 7 = .ok (.iconst 0, 1) := by decide +kernel
theorem dX8_measures_8 : decode cX8_measures 8 = .ok (.iaload, 1) := by decide +kernel
theorem dX8_measures_9 : decode cX8_measures 9 = .ok (.if_icmp .ge 29, 3) := by decide +kernel
theorem dX8_measures_12 : decode cX8_measures 12 = .ok (.aload_n 0, 1) := by decide +kernel
theorem dX8_measures_13 : decode cX8_measures 13 = .ok (.getfield 33, 3) := by decide +kernel
theorem dX8_measures_16 : decode cX8_measures 16 = .ok (.iload_n 2, 1) := by decide +kernel
theorem dX8_measures_17 : decode cX8_measures 17 = .ok (.iload_n 1, 1) := by decide +kernel
theorem dX8_measures_18 : decode cX8_measures 18 = .ok (.iload_n 2, 1) := by decide +kernel
theorem dX8_measures_19 : decode cX8_measures 19 = .ok (.invokestatic 94, 3) := by decide +kernel
theorem dX8_measures_22 : decode cX8_measures 22 = .ok (.ifCond .eq 7, 3) := by decide +kernel
theorem dX8_measures_25 : decode cX8_measures 25 = .ok (.iconst 0, 1) := by decide +kernel
theorem dX8_measures_26 : decode cX8_measures 26 = .ok (.goto 5, 3) := by decide +kernel
theorem dX8_measures_29 : decode cX8_measures 29 = .ok (.ldc 97, 2) := by decide +kernel
theorem dX8_measures_31 : decode cX8_measures 31 = .ok (.iastore, 1) := by decide +kernel
theorem dX8_measures_32 : decode cX8_measures 32 = .ok (.iinc 2 1, 3) := by decide +kernel
theorem dX8_measures_35 : decode cX8_measures 35 = .ok (.goto (-33), 3) := by decide +kernel
theorem dX8_measures_38 : decode cX8_measures 38 = .ok (.iconst 0, 1) := by decide +kernel
theorem dX8_measures_39 : decode cX8_measures 39 = .ok (.istore_n 2, 1) := by decide +kernel
theorem dX8_measures_40 : decode cX8_measures 40 = .ok (.iload_n 2, 1) := by decide +kernel
theorem dX8_measures_41 : decode cX8_measures 41 = .ok (.aload_n 0, 1) := by decide +kernel
theorem dX8_measures_42 : decode cX8_measures 42 = .ok (.getfield 7, 3) := by decide +kernel
theorem dX8_measures_45 : decode cX8_measures 45 = .ok (.iconst 0, 1) := by decide +kernel
theorem dX8_measures_46 : decode cX8_measures 46 = .ok (.iaload, 1) := by decide +kernel
theorem dX8_measures_47 : decode cX8_measures 47 = .ok (.if_icmp .ge 178, 3) := by decide +kernel
theorem dX8_measures_50 : decode cX8_measures 50 = .ok (.iconst 0, 1) := by decide +kernel
theorem dX8_measures_51 : decode cX8_measures 51 = .ok (.istore_n 3, 1) := by decide +kernel
theorem dX8_measures_52 : decode cX8_measures 52 = .ok (.iload_n 3, 1) := by decide +kernel
theorem dX8_measures_53 : decode cX8_measures 53 = .ok (.aload_n 0, 1) := by decide +kernel
theorem dX8_measures_54 : decode cX8_measures 54 = .ok (.getfield 7, 3) := by decide +kernel
theorem dX8_measures_57 : decode cX8_measures 57 = .ok (.iconst 1, 1) := by decide +kernel
theorem dX8_measures_58 : decode cX8_measures 58 = .ok (.iaload, 1) := by decide +kernel
theorem dX8_measures_59 : decode cX8_measures 59 = .ok (.if_icmp .ge 160, 3) := by decide +kernel
theorem dX8_measures_62 : decode cX8_measures 62 = .ok (.aload_n 0, 1) := by decide +kernel
theorem dX8_measures_63 : decode cX8_measures 63 = .ok (.getfield 7, 3) := by decide +kernel
theorem dX8_measures_66 : decode cX8_measures 66 = .ok (.bipush 16, 2) := by decide +kernel
theorem dX8_measures_68 : decode cX8_measures 68 = .ok (.iload_n 3, 1) := by decide +kernel
theorem dX8_measures_69 : decode cX8_measures 69 = .ok (.iadd, 1) := by decide +kernel
theorem dX8_measures_70 : decode cX8_measures 70 = .ok (.iaload, 1) := by decide +kernel
theorem dX8_measures_71 : decode cX8_measures 71 = .ok (.istore 4, 2) := by decide +kernel
theorem dX8_measures_73 : decode cX8_measures 73 = .ok (.aload_n 0, 1) := by decide +kernel
theorem dX8_measures_74 : decode cX8_measures 74 = .ok (.getfield 7, 3) := by decide +kernel
theorem dX8_measures_77 : decode cX8_measures 77 = .ok (.bipush 28, 2) := by decide +kernel
theorem dX8_measures_79 : decode cX8_measures 79 = .ok (.iload_n 3, 1) := by decide +kernel
theorem dX8_measures_80 : decode cX8_measures 80 = .ok (.iadd, 1) := by decide +kernel
theorem dX8_measures_81 : decode cX8_measures 81 = .ok (.iaload, 1) := by decide +kernel
theorem dX8_measures_82 : decode cX8_measures 82 = .ok (.istore 5, 2) := by decide +kernel
theorem dX8_measures_84 : decode cX8_measures 84 = .ok (.aload_n 0, 1) := by decide +kernel
theorem dX8_measures_85 : decode cX8_measures 85 = .ok (.getfield 7, 3) := by decide +kernel
theorem dX8_measures_88 : decode cX8_measures 88 = .ok (.bipush 6, 2) := by decide +kernel
theorem dX8_measures_90 : decode cX8_measures 90 = .ok (.iaload, 1) := by decide +kernel
theorem dX8_measures_91 : decode cX8_measures 91 = .ok (.iload_n 3, 1) := by decide +kernel
theorem dX8_measures_92 : decode cX8_measures 92 = .ok (.invokestatic 94, 3) := by decide +kernel
theorem dX8_measures_95 : decode cX8_measures 95 = .ok (.ifCond .eq 8, 3) := by decide +kernel
theorem dX8_measures_98 : decode cX8_measures 98 = .ok (.ldc 97, 2) := by decide +kernel
theorem dX8_measures_100 : decode cX8_measures 100 = .ok (.goto 17, 3) := by decide +kernel
theorem dX8_measures_103 : decode cX8_measures 103 = .ok (.bipush 16, 2) := by decide +kernel
theorem dX8_measures_105 : decode cX8_measures 105 = .ok (.aload_n 0, 1) := by decide +kernel
theorem dX8_measures_106 : decode cX8_measures 106 = .ok (.getfield 7, 3) := by decide +kernel
theorem dX8_measures_109 : decode cX8_measures 109 = .ok (.bipush 40, 2) := by decide +kernel
theorem dX8_measures_111 : decode cX8_measures 111 = .ok (.iload_n 3, 1) := by decide +kernel
theorem dX8_measures_112 : decode cX8_measures 112 = .ok (.iadd, 1) := by decide +kernel
theorem dX8_measures_113 : decode cX8_measures 113 = .ok (.iaload, 1) := by decide +kernel
theorem dX8_measures_114 : decode cX8_measures 114 = .ok (.imul, 1) := by decide +kernel
theorem dX8_measures_115 : decode cX8_measures 115 = .ok (.iconst 1, 1) := by decide +kernel
theorem dX8_measures_116 : decode cX8_measures 116 = .ok (.iadd, 1) := by decide +kernel
theorem dX8_measures_117 : decode cX8_measures 117 = .ok (.istore 6, 2) := by decide +kernel
theorem dX8_measures_119 : decode cX8_measures 119 = .ok (.aload_n 0, 1) := by decide +kernel
theorem dX8_measures_120 : decode cX8_measures 120 = .ok (.getfield 33, 3) := by decide +kernel
theorem dX8_measures_123 : decode cX8_measures 123 = .ok (.iload 4, 2) := by decide +kernel
theorem dX8_measures_125 : decode cX8_measures 125 = .ok (.aload_n 0, 1) := by decide +kernel
theorem dX8_measures_126 : decode cX8_measures 126 = .ok (.getfield 33, 3) := by decide +kernel
theorem dX8_measures_129 : decode cX8_measures 129 = .ok (.iload 5, 2) := by decide +kernel
theorem dX8_measures_131 : decode cX8_measures 131 = .ok (.iaload, 1) := by decide +kernel
theorem dX8_measures_132 : decode cX8_measures 132 = .ok (.iload 6, 2) := by decide +kernel
theorem dX8_measures_134 : decode cX8_measures 134 = .ok (.iadd, 1) := by decide +kernel
theorem dX8_measures_135 : decode cX8_measures 135 = .ok (.aload_n 0, 1) := by decide +kernel
theorem dX8_measures_136 : decode cX8_measures 136 = .ok (.getfield 33, 3) := by decide +kernel
theorem dX8_measures_139 : decode cX8_measures 139 = .ok (.iload 4, 2) := by decide +kernel
theorem dX8_measures_141 : decode cX8_measures 141 = .ok (.iaload, 1) := by decide +kernel
theorem dX8_measures_142 : decode cX8_measures 142 = .ok (.if_icmp .ge 16, 3) := by decide +kernel
theorem dX8_measures_145 : decode cX8_measures 145 = .ok (.aload_n 0, 1) := by decide +kernel
theorem dX8_measures_146 : decode cX8_measures 146 = .ok (.getfield 33, 3) := by decide +kernel
theorem dX8_measures_149 : decode cX8_measures 149 = .ok (.iload 5, 2) := by decide +kernel
theorem dX8_measures_151 : decode cX8_measures 151 = .ok (.iaload, 1) := by decide +kernel
theorem dX8_measures_152 : decode cX8_measures 152 = .ok (.iload 6, 2) := by decide +kernel
theorem dX8_measures_154 : decode cX8_measures 154 = .ok (.iadd, 1) := by decide +kernel
theorem dX8_measures_155 : decode cX8_measures 155 = .ok (.goto 10, 3) := by decide +kernel
theorem dX8_measures_158 : decode cX8_measures 158 = .ok (.aload_n 0, 1) := by decide +kernel
theorem dX8_measures_159 : decode cX8_measures 159 = .ok (.getfield 33, 3) := by decide +kernel
theorem dX8_measures_162 : decode cX8_measures 162 = .ok (.iload 4, 2) := by decide +kernel
theorem dX8_measures_164 : decode cX8_measures 164 = .ok (.iaload, 1) := by decide +kernel
theorem dX8_measures_165 : decode cX8_measures 165 = .ok (.iastore, 1) := by decide +kernel
theorem dX8_measures_166 : decode cX8_measures 166 = .ok (.aload_n 0, 1) := by decide +kernel
theorem dX8_measures_167 : decode cX8_measures 167 = .ok (.getfield 33, 3) := by decide +kernel
theorem dX8_measures_170 : decode cX8_measures 170 = .ok (.iload 5, 2) := by decide +kernel
theorem dX8_measures_172 : decode cX8_measures 172 = .ok (.aload_n 0, 1) := by decide +kernel
theorem dX8_measures_173 : decode cX8_measures 173 = .ok (.getfield 33, 3) := by decide +kernel
theorem dX8_measures_176 : decode cX8_measures 176 = .ok (.iload 4, 2) := by decide +kernel
theorem dX8_measures_178 : decode cX8_measures 178 = .ok (.iaload, 1) := by decide +kernel
theorem dX8_measures_179 : decode cX8_measures 179 = .ok (.iload 6, 2) := by decide +kernel
theorem dX8_measures_181 : decode cX8_measures 181 = .ok (.iadd, 1) := by decide +kernel
theorem dX8_measures_182 : decode cX8_measures 182 = .ok (.aload_n 0, 1) := by decide +kernel
theorem dX8_measures_183 : decode cX8_measures 183 = .ok (.getfield 33, 3) := by decide +kernel
theorem dX8_measures_186 : decode cX8_measures 186 = .ok (.iload 5, 2) := by decide +kernel
theorem dX8_measures_188 : decode cX8_measures 188 = .ok (.iaload, 1) := by decide +kernel
theorem dX8_measures_189 : decode cX8_measures 189 = .ok (.if_icmp .ge 16, 3) := by decide +kernel
theorem dX8_measures_192 : decode cX8_measures 192 = .ok (.aload_n 0, 1) := by decide +kernel
theorem dX8_measures_193 : decode cX8_measures 193 = .ok (.getfield 33, 3) := by decide +kernel
theorem dX8_measures_196 : decode cX8_measures 196 = .ok (.iload 4, 2) := by decide +kernel
theorem dX8_measures_198 : decode cX8_measures 198 = .ok (.iaload, 1) := by decide +kernel
theorem dX8_measures_199 : decode cX8_measures 199 = .ok (.iload 6, 2) := by decide +kernel
theorem dX8_measures_201 : decode cX8_measures 201 = .ok (.iadd, 1) := by decide +kernel
theorem dX8_measures_202 : decode cX8_measures 202 = .ok (.goto 10, 3) := by decide +kernel
theorem dX8_measures_205 : decode cX8_measures 205 = .ok (.aload_n 0, 1) := by decide +kernel
theorem dX8_measures_206 : decode cX8_measures 206 = .ok (.getfield 33, 3) := by decide +kernel
theorem dX8_measures_209 : decode cX8_measures 209 = .ok (.iload 5, 2) := by decide +kernel
theorem dX8_measures_211 : decode cX8_measures 211 = .ok (.iaload, 1) := by decide +kernel
theorem dX8_measures_212 : decode cX8_measures 212 = .ok (.iastore, 1) := by decide +kernel
theorem dX8_measures_213 : decode cX8_measures 213 = .ok (.iinc 3 1, 3) := by decide +kernel
theorem dX8_measures_216 : decode cX8_measures 216 = .ok (.goto (-164), 3) := by decide +kernel
theorem dX8_measures_219 : decode cX8_measures 219 = .ok (.iinc 2 1, 3) := by decide +kernel
theorem dX8_measures_222 : decode cX8_measures 222 = .ok (.goto (-182), 3) := by decide +kernel
theorem dX8_measures_225 : decode cX8_measures 225 = .ok (.return_, 1) := by decide +kernel
theorem dX8_nextLink_0 : decode cX8_nextLink 0 = .ok (.bipush (-9), 2) := by decide +kernel
theorem dX8_nextLink_2 : decode cX8_nextLink 2 = .ok (.istore_n 2, 1) := by decide +kernel
theorem dX8_nextLink_3 : decode cX8_nextLink 3 = .ok (.bipush 7, 2) := by decide +kernel
theorem dX8_nextLink_5 : decode cX8_nextLink 5 = .ok (.istore_n 3, 1) := by decide +kernel
theorem dX8_nextLink_6 : decode cX8_nextLink 6 = .ok (.iconst 0, 1) := by decide +kernel
theorem dX8_nextLink_7 : decode cX8_nextLink 7 = .ok (.istore 4, 2) := by decide +kernel
theorem dX8_nextLink_9 : decode cX8_nextLink 9 = .ok (.iload 4, 2) := by decide +kernel
theorem dX8_nextLink_11 : decode cX8_nextLink 11 = .ok (.aload_n 0, 1) := by decide +kernel
theorem dX8_nextLink_12 : decode cX8_nextLink 12 = .ok (.getfield 7, 3) := by decide +kernel
theorem dX8_nextLink_15 : decode cX8_nextLink 15 = .ok (.iconst 1, 1) := by decide +kernel
theorem dX8_nextLink_16 : decode cX8_nextLink 16 = .ok (.iaload, 1) := by decide +kernel
theorem dX8_nextLink_17 : decode cX8_nextLink 17 = .ok (.if_icmp .ge 84, 3) := by decide +kernel
theorem dX8_nextLink_20 : decode cX8_nextLink 20 = .ok (.aload_n 0, 1) := by decide +kernel
theorem dX8_nextLink_21 : decode cX8_nextLink 21 = .ok (.iload 4, 2) := by decide +kernel
theorem dX8_nextLink_23 : decode cX8_nextLink 23 = .ok (.iload_n 1, 1) := by decide +kernel
theorem dX8_nextLink_24 : decode cX8_nextLink 24 = .ok (.invokevirtual 98, 3) := by decide +kernel
theorem dX8_nextLink_27 : decode cX8_nextLink 27 = .ok (.istore 5, 2) := by decide +kernel
theorem dX8_nextLink_29 : decode cX8_nextLink 29 = .ok (.iload 5, 2) := by decide +kernel
theorem dX8_nextLink_31 : decode cX8_nextLink 31 = .ok (.bipush (-9), 2) := by decide +kernel
theorem dX8_nextLink_33 : decode cX8_nextLink 33 = .ok (.if_icmp .eq 62, 3) := by decide +kernel
theorem dX8_nextLink_36 : decode cX8_nextLink 36 = .ok (.aload_n 0, 1) := by decide +kernel
theorem dX8_nextLink_37 : decode cX8_nextLink 37 = .ok (.getfield 7, 3) := by decide +kernel
theorem dX8_nextLink_40 : decode cX8_nextLink 40 = .ok (.bipush 6, 2) := by decide +kernel
theorem dX8_nextLink_42 : decode cX8_nextLink 42 = .ok (.iaload, 1) := by decide +kernel
theorem dX8_nextLink_43 : decode cX8_nextLink 43 = .ok (.iload 4, 2) := by decide +kernel
theorem dX8_nextLink_45 : decode cX8_nextLink 45 = .ok (.invokestatic 94, 3) := by decide +kernel
theorem dX8_nextLink_48 : decode cX8_nextLink 48 = .ok (.ifCond .ne 47, 3) := by decide +kernel
theorem dX8_nextLink_51 : decode cX8_nextLink 51 = .ok (.aload_n 0, 1) := by decide +kernel
theorem dX8_nextLink_52 : decode cX8_nextLink 52 = .ok (.getfield 33, 3) := by decide +kernel
theorem dX8_nextLink_55 : decode cX8_nextLink 55 = .ok (.iload 5, 2) := by decide +kernel
theorem dX8_nextLink_57 : decode cX8_nextLink 57 = .ok (.iaload, 1) := by decide +kernel
theorem dX8_nextLink_58 : decode cX8_nextLink 58 = .ok (.bipush 16, 2) := by decide +kernel
theorem dX8_nextLink_60 : decode cX8_nextLink 60 = .ok (.aload_n 0, 1) := by decide +kernel
theorem dX8_nextLink_61 : decode cX8_nextLink 61 = .ok (.getfield 7, 3) := by decide +kernel
theorem dX8_nextLink_64 : decode cX8_nextLink 64 = .ok (.bipush 40, 2) := by decide +kernel
theorem dX8_nextLink_66 : decode cX8_nextLink 66 = .ok (.iload 4, 2) := by decide +kernel
theorem dX8_nextLink_68 : decode cX8_nextLink 68 = .ok (.iadd, 1) := by decide +kernel
theorem dX8_nextLink_69 : decode cX8_nextLink 69 = .ok (.iaload, 1) := by decide +kernel
theorem dX8_nextLink_70 : decode cX8_nextLink 70 = .ok (.imul, 1) := by decide +kernel
theorem dX8_nextLink_71 : decode cX8_nextLink 71 = .ok (.iadd, 1) := by decide +kernel
theorem dX8_nextLink_72 : decode cX8_nextLink 72 = .ok (.iconst 1, 1) := by decide +kernel
theorem dX8_nextLink_73 : decode cX8_nextLink 73 = .ok (.iadd, 1) := by decide +kernel
theorem dX8_nextLink_74 : decode cX8_nextLink 74 = .ok (.aload_n 0, 1) := by decide +kernel
theorem dX8_nextLink_75 : decode cX8_nextLink 75 = .ok (.getfield 33, 3) := by decide +kernel
theorem dX8_nextLink_78 : decode cX8_nextLink 78 = .ok (.iload_n 1, 1) := by decide +kernel
theorem dX8_nextLink_79 : decode cX8_nextLink 79 = .ok (.iaload, 1) := by decide +kernel
theorem dX8_nextLink_80 : decode cX8_nextLink 80 = .ok (.if_icmp .ne 15, 3) := by decide +kernel
theorem dX8_nextLink_83 : decode cX8_nextLink 83 = .ok (.iload 5, 2) := by decide +kernel
theorem dX8_nextLink_85 : decode cX8_nextLink 85 = .ok (.iload_n 3, 1) := by decide +kernel
theorem dX8_nextLink_86 : decode cX8_nextLink 86 = .ok (.if_icmp .ge 9, 3) := by decide +kernel
theorem dX8_nextLink_89 : decode cX8_nextLink 89 = .ok (.iload 4, 2) := by decide +kernel
theorem dX8_nextLink_91 : decode cX8_nextLink 91 = .ok (.istore_n 2, 1) := by decide +kernel
theorem dX8_nextLink_92 : decode cX8_nextLink 92 = .ok (.iload 5, 2) := by decide +kernel
theorem dX8_nextLink_94 : decode cX8_nextLink 94 = .ok (.istore_n 3, 1) := by decide +kernel
theorem dX8_nextLink_95 : decode cX8_nextLink 95 = .ok (.iinc 4 1, 3) := by decide +kernel
theorem dX8_nextLink_98 : decode cX8_nextLink 98 = .ok (.goto (-89), 3) := by decide +kernel
theorem dX8_nextLink_101 : decode cX8_nextLink 101 = .ok (.iload_n 2, 1) := by decide +kernel
theorem dX8_nextLink_102 : decode cX8_nextLink 102 = .ok (.ireturn, 1) := by decide +kernel
theorem dX8_wayOf_0 : decode cX8_wayOf 0 = .ok (.iconst 0, 1) := by decide +kernel
theorem dX8_wayOf_1 : decode cX8_wayOf 1 = .ok (.istore_n 2, 1) := by decide +kernel
theorem dX8_wayOf_2 : decode cX8_wayOf 2 = .ok (.iload_n 1, 1) := by decide +kernel
theorem dX8_wayOf_3 : decode cX8_wayOf 3 = .ok (.istore_n 3, 1) := by decide +kernel
theorem dX8_wayOf_4 : decode cX8_wayOf 4 = .ok (.aload_n 0, 1) := by decide +kernel
theorem dX8_wayOf_5 : decode cX8_wayOf 5 = .ok (.getfield 33, 3) := by decide +kernel
theorem dX8_wayOf_8 : decode cX8_wayOf 8 = .ok (.iload_n 3, 1) := by decide +kernel
theorem dX8_wayOf_9 : decode cX8_wayOf 9 = .ok (.iaload, 1) := by decide +kernel
theorem dX8_wayOf_10 : decode cX8_wayOf 10 = .ok (.ifCond .le 28, 3) := by decide +kernel
theorem dX8_wayOf_13 : decode cX8_wayOf 13 = .ok (.aload_n 0, 1) := by decide +kernel
theorem dX8_wayOf_14 : decode cX8_wayOf 14 = .ok (.iload_n 3, 1) := by decide +kernel
theorem dX8_wayOf_15 : decode cX8_wayOf 15 = .ok (.invokevirtual 101, 3) := by decide +kernel
theorem dX8_wayOf_18 : decode cX8_wayOf 18 = .ok (.istore 4, 2) := by decide +kernel
theorem dX8_wayOf_20 : decode cX8_wayOf 20 = .ok (.iload_n 2, 1) := by decide +kernel
theorem dX8_wayOf_21 : decode cX8_wayOf 21 = .ok (.iconst 1, 1) := by decide +kernel
theorem dX8_wayOf_22 : decode cX8_wayOf 22 = .ok (.iload 4, 2) := by decide +kernel
theorem dX8_wayOf_24 : decode cX8_wayOf 24 = .ok (.ishl, 1) := by decide +kernel
theorem dX8_wayOf_25 : decode cX8_wayOf 25 = .ok (.ior, 1) := by decide +kernel
theorem dX8_wayOf_26 : decode cX8_wayOf 26 = .ok (.istore_n 2, 1) := by decide +kernel
theorem dX8_wayOf_27 : decode cX8_wayOf 27 = .ok (.aload_n 0, 1) := by decide +kernel
theorem dX8_wayOf_28 : decode cX8_wayOf 28 = .ok (.iload 4, 2) := by decide +kernel
theorem dX8_wayOf_30 : decode cX8_wayOf 30 = .ok (.iload_n 3, 1) := by decide +kernel
theorem dX8_wayOf_31 : decode cX8_wayOf 31 = .ok (.invokevirtual 98, 3) := by decide +kernel
theorem dX8_wayOf_34 : decode cX8_wayOf 34 = .ok (.istore_n 3, 1) := by decide +kernel
theorem dX8_wayOf_35 : decode cX8_wayOf 35 = .ok (.goto (-31), 3) := by decide +kernel
theorem dX8_wayOf_38 : decode cX8_wayOf 38 = .ok (.iload_n 2, 1) := by decide +kernel
theorem dX8_wayOf_39 : decode cX8_wayOf 39 = .ok (.ireturn, 1) := by decide +kernel
theorem dX8_pruned_0 : decode cX8_pruned 0 = .ok (.iload_n 1, 1) := by decide +kernel
theorem dX8_pruned_1 : decode cX8_pruned 1 = .ok (.istore_n 2, 1) := by decide +kernel
theorem dX8_pruned_2 : decode cX8_pruned 2 = .ok (.iconst 1, 1) := by decide +kernel
theorem dX8_pruned_3 : decode cX8_pruned 3 = .ok (.istore_n 3, 1) := by decide +kernel
theorem dX8_pruned_4 : decode cX8_pruned 4 = .ok (.iload_n 3, 1) := by decide +kernel
theorem dX8_pruned_5 : decode cX8_pruned 5 = .ok (.ifCond .eq 155, 3) := by decide +kernel
theorem dX8_pruned_8 : decode cX8_pruned 8 = .ok (.iconst 0, 1) := by decide +kernel
theorem dX8_pruned_9 : decode cX8_pruned 9 = .ok (.istore_n 3, 1) := by decide +kernel
theorem dX8_pruned_10 : decode cX8_pruned 10 = .ok (.iconst 0, 1) := by decide +kernel
theorem dX8_pruned_11 : decode cX8_pruned 11 = .ok (.istore 4, 2) := by decide +kernel
theorem dX8_pruned_13 : decode cX8_pruned 13 = .ok (.iload 4, 2) := by decide +kernel
theorem dX8_pruned_15 : decode cX8_pruned 15 = .ok (.aload_n 0, 1) := by decide +kernel
theorem dX8_pruned_16 : decode cX8_pruned 16 = .ok (.getfield 7, 3) := by decide +kernel
theorem dX8_pruned_19 : decode cX8_pruned 19 = .ok (.iconst 0, 1) := by decide +kernel
theorem dX8_pruned_20 : decode cX8_pruned 20 = .ok (.iaload, 1) := by decide +kernel
theorem dX8_pruned_21 : decode cX8_pruned 21 = .ok (.if_icmp .ge 136, 3) := by decide +kernel
theorem dX8_pruned_24 : decode cX8_pruned 24 = .ok (.iconst 0, 1) := by decide +kernel
theorem dX8_pruned_25 : decode cX8_pruned 25 = .ok (.istore 5, 2) := by decide +kernel
theorem dX8_pruned_27 : decode cX8_pruned 27 = .ok (.bipush (-9), 2) := by decide +kernel
theorem dX8_pruned_29 : decode cX8_pruned 29 = .ok (.istore 6, 2) := by decide +kernel
theorem dX8_pruned_31 : decode cX8_pruned 31 = .ok (.iconst 0, 1) := by decide +kernel
theorem dX8_pruned_32 : decode cX8_pruned 32 = .ok (.istore 7, 2) := by decide +kernel
theorem dX8_pruned_34 : decode cX8_pruned 34 = .ok (.iload 7, 2) := by decide +kernel
theorem dX8_pruned_36 : decode cX8_pruned 36 = .ok (.aload_n 0, 1) := by decide +kernel
theorem dX8_pruned_37 : decode cX8_pruned 37 = .ok (.getfield 7, 3) := by decide +kernel
theorem dX8_pruned_40 : decode cX8_pruned 40 = .ok (.iconst 1, 1) := by decide +kernel
theorem dX8_pruned_41 : decode cX8_pruned 41 = .ok (.iaload, 1) := by decide +kernel
theorem dX8_pruned_42 : decode cX8_pruned 42 = .ok (.if_icmp .ge 67, 3) := by decide +kernel
theorem dX8_pruned_45 : decode cX8_pruned 45 = .ok (.iload_n 2, 1) := by decide +kernel
theorem dX8_pruned_46 : decode cX8_pruned 46 = .ok (.iload 7, 2) := by decide +kernel
theorem dX8_pruned_48 : decode cX8_pruned 48 = .ok (.invokestatic 94, 3) := by decide +kernel
theorem dX8_pruned_51 : decode cX8_pruned 51 = .ok (.ifCond .eq 20, 3) := by decide +kernel
theorem dX8_pruned_54 : decode cX8_pruned 54 = .ok (.aload_n 0, 1) := by decide +kernel
theorem dX8_pruned_55 : decode cX8_pruned 55 = .ok (.iload 7, 2) := by decide +kernel
theorem dX8_pruned_57 : decode cX8_pruned 57 = .ok (.iload 4, 2) := by decide +kernel
theorem dX8_pruned_59 : decode cX8_pruned 59 = .ok (.invokevirtual 98, 3) := by decide +kernel
theorem dX8_pruned_62 : decode cX8_pruned 62 = .ok (.bipush (-9), 2) := by decide +kernel
theorem dX8_pruned_64 : decode cX8_pruned 64 = .ok (.if_icmp .eq 7, 3) := by decide +kernel
theorem dX8_pruned_67 : decode cX8_pruned 67 = .ok (.iconst 1, 1) := by decide +kernel
theorem dX8_pruned_68 : decode cX8_pruned 68 = .ok (.goto 4, 3) := by decide +kernel
theorem dX8_pruned_71 : decode cX8_pruned 71 = .ok (.iconst 0, 1) := by decide +kernel
theorem dX8_pruned_72 : decode cX8_pruned 72 = .ok (.istore 8, 2) := by decide +kernel
theorem dX8_pruned_74 : decode cX8_pruned 74 = .ok (.iload 5, 2) := by decide +kernel
theorem dX8_pruned_76 : decode cX8_pruned 76 = .ok (.iload 8, 2) := by decide +kernel
theorem dX8_pruned_78 : decode cX8_pruned 78 = .ok (.ifCond .eq 7, 3) := by decide +kernel
theorem dX8_pruned_81 : decode cX8_pruned 81 = .ok (.iconst 1, 1) := by decide +kernel
theorem dX8_pruned_82 : decode cX8_pruned 82 = .ok (.goto 4, 3) := by decide +kernel
theorem dX8_pruned_85 : decode cX8_pruned 85 = .ok (.iconst 0, 1) := by decide +kernel
theorem dX8_pruned_86 : decode cX8_pruned 86 = .ok (.iadd, 1) := by decide +kernel
theorem dX8_pruned_87 : decode cX8_pruned 87 = .ok (.istore 5, 2) := by decide +kernel
theorem dX8_pruned_89 : decode cX8_pruned 89 = .ok (.iload 8, 2) := by decide +kernel
theorem dX8_pruned_91 : decode cX8_pruned 91 = .ok (.ifCond .eq 8, 3) := by decide +kernel
theorem dX8_pruned_94 : decode cX8_pruned 94 = .ok (.iload 7, 2) := by decide +kernel
theorem dX8_pruned_96 : decode cX8_pruned 96 = .ok (.goto 5, 3) := by decide +kernel
theorem dX8_pruned_99 : decode cX8_pruned 99 = .ok (.iload 6, 2) := by decide +kernel
theorem dX8_pruned_101 : decode cX8_pruned 101 = .ok (.istore 6, 2) := by decide +kernel
theorem dX8_pruned_103 : decode cX8_pruned 103 = .ok (.iinc 7 1, 3) := by decide +kernel
theorem dX8_pruned_106 : decode cX8_pruned 106 = .ok (.goto (-72), 3) := by decide +kernel
theorem dX8_pruned_109 : decode cX8_pruned 109 = .ok (.iload 5, 2) := by decide +kernel
theorem dX8_pruned_111 : decode cX8_pruned 111 = .ok (.iconst 1, 1) := by decide +kernel
theorem dX8_pruned_112 : decode cX8_pruned 112 = .ok (.if_icmp .ne 39, 3) := by decide +kernel
theorem dX8_pruned_115 : decode cX8_pruned 115 = .ok (.iload 4, 2) := by decide +kernel
theorem dX8_pruned_117 : decode cX8_pruned 117 = .ok (.aload_n 0, 1) := by decide +kernel
theorem dX8_pruned_118 : decode cX8_pruned 118 = .ok (.getfield 7, 3) := by decide +kernel
theorem dX8_pruned_121 : decode cX8_pruned 121 = .ok (.iconst 2, 1) := by decide +kernel
theorem dX8_pruned_122 : decode cX8_pruned 122 = .ok (.iaload, 1) := by decide +kernel
theorem dX8_pruned_123 : decode cX8_pruned 123 = .ok (.if_icmp .eq 28, 3) := by decide +kernel
theorem dX8_pruned_126 : decode cX8_pruned 126 = .ok (.aload_n 0, 1) := by decide +kernel
theorem dX8_pruned_127 : decode cX8_pruned 127 = .ok (.getfield 7, 3) := by decide +kernel
theorem dX8_pruned_130 : decode cX8_pruned 130 = .ok (.iconst 4, 1) := by decide +kernel
theorem dX8_pruned_131 : decode cX8_pruned 131 = .ok (.iaload, 1) := by decide +kernel
theorem dX8_pruned_132 : decode cX8_pruned 132 = .ok (.iload 4, 2) := by decide +kernel
theorem dX8_pruned_134 : decode cX8_pruned 134 = .ok (.invokestatic 94, 3) := by decide +kernel
theorem dX8_pruned_137 : decode cX8_pruned 137 = .ok (.ifCond .ne 14, 3) := by decide +kernel
theorem dX8_pruned_140 : decode cX8_pruned 140 = .ok (.iload_n 2, 1) := by decide +kernel
theorem dX8_pruned_141 : decode cX8_pruned 141 = .ok (.iconst 1, 1) := by decide +kernel
theorem dX8_pruned_142 : decode cX8_pruned 142 = .ok (.iload 6, 2) := by decide +kernel
theorem dX8_pruned_144 : decode cX8_pruned 144 = .ok (.ishl, 1) := by decide +kernel
theorem dX8_pruned_145 : decode cX8_pruned 145 = .ok (.iconst (-1), 1) := by decide +kernel
theorem dX8_pruned_146 : decode cX8_pruned 146 = .ok (.ixor, 1) := by decide +kernel
theorem dX8_pruned_147 : decode cX8_pruned 147 = .ok (.iand, 1) := by decide +kernel
theorem dX8_pruned_148 : decode cX8_pruned 148 = .ok (.istore_n 2, 1) := by decide +kernel
theorem dX8_pruned_149 : decode cX8_pruned 149 = .ok (.iconst 1, 1) := by decide +kernel
theorem dX8_pruned_150 : decode cX8_pruned 150 = .ok (.istore_n 3, 1) := by decide +kernel
theorem dX8_pruned_151 : decode cX8_pruned 151 = .ok (.iinc 4 1, 3) := by decide +kernel
theorem dX8_pruned_154 : decode cX8_pruned 154 = .ok (.goto (-141), 3) := by decide +kernel
theorem dX8_pruned_157 : decode cX8_pruned 157 = .ok (.goto (-153), 3) := by decide +kernel
theorem dX8_pruned_160 : decode cX8_pruned 160 = .ok (.iload_n 2, 1) := by decide +kernel
theorem dX8_pruned_161 : decode cX8_pruned 161 = .ok (.ireturn, 1) := by decide +kernel
theorem dX8_anew_0 : decode cX8_anew 0 = .ok (.iconst 0, 1) := by decide +kernel
theorem dX8_anew_1 : decode cX8_anew 1 = .ok (.istore_n 1, 1) := by decide +kernel
theorem dX8_anew_2 : decode cX8_anew 2 = .ok (.aload_n 0, 1) := by decide +kernel
theorem dX8_anew_3 : decode cX8_anew 3 = .ok (.getfield 7, 3) := by decide +kernel
theorem dX8_anew_6 : decode cX8_anew 6 = .ok (.iconst 4, 1) := by decide +kernel
theorem dX8_anew_7 : decode cX8_anew 7 = .ok (.iaload, 1) := by decide +kernel
theorem dX8_anew_8 : decode cX8_anew 8 = .ok (.aload_n 0, 1) := by decide +kernel
theorem dX8_anew_9 : decode cX8_anew 9 = .ok (.iload_n 1, 1) := by decide +kernel
theorem dX8_anew_10 : decode cX8_anew 10 = .ok (.invokevirtual 104, 3) := by decide +kernel
theorem dX8_anew_13 : decode cX8_anew 13 = .ok (.iconst (-1), 1) := by decide +kernel
theorem dX8_anew_14 : decode cX8_anew 14 = .ok (.ixor, 1) := by decide +kernel
theorem dX8_anew_15 : decode cX8_anew 15 = .ok (.iand, 1) := by decide +kernel
theorem dX8_anew_16 : decode cX8_anew 16 = .ok (.istore_n 2, 1) := by decide +kernel
theorem dX8_anew_17 : decode cX8_anew 17 = .ok (.iload_n 2, 1) := by decide +kernel
theorem dX8_anew_18 : decode cX8_anew 18 = .ok (.ifCond .eq 105, 3) := by decide +kernel
theorem dX8_anew_21 : decode cX8_anew 21 = .ok (.aload_n 0, 1) := by decide +kernel
theorem dX8_anew_22 : decode cX8_anew 22 = .ok (.aload_n 0, 1) := by decide +kernel
theorem dX8_anew_23 : decode cX8_anew 23 = .ok (.iload_n 1, 1) := by decide +kernel
theorem dX8_anew_24 : decode cX8_anew 24 = .ok (.invokevirtual 104, 3) := by decide +kernel
theorem dX8_anew_27 : decode cX8_anew 27 = .ok (.invokevirtual 107, 3) := by decide +kernel
theorem dX8_anew_30 : decode cX8_anew 30 = .ok (.bipush (-9), 2) := by decide +kernel
theorem dX8_anew_32 : decode cX8_anew 32 = .ok (.istore_n 3, 1) := by decide +kernel
theorem dX8_anew_33 : decode cX8_anew 33 = .ok (.iconst 0, 1) := by decide +kernel
theorem dX8_anew_34 : decode cX8_anew 34 = .ok (.istore 4, 2) := by decide +kernel
theorem dX8_anew_36 : decode cX8_anew 36 = .ok (.iload 4, 2) := by decide +kernel
theorem dX8_anew_38 : decode cX8_anew 38 = .ok (.aload_n 0, 1) := by decide +kernel
theorem dX8_anew_39 : decode cX8_anew 39 = .ok (.getfield 7, 3) := by decide +kernel
theorem dX8_anew_42 : decode cX8_anew 42 = .ok (.iconst 0, 1) := by decide +kernel
theorem dX8_anew_43 : decode cX8_anew 43 = .ok (.iaload, 1) := by decide +kernel
theorem dX8_anew_44 : decode cX8_anew 44 = .ok (.if_icmp .ge 53, 3) := by decide +kernel
theorem dX8_anew_47 : decode cX8_anew 47 = .ok (.iload_n 2, 1) := by decide +kernel
theorem dX8_anew_48 : decode cX8_anew 48 = .ok (.iload 4, 2) := by decide +kernel
theorem dX8_anew_50 : decode cX8_anew 50 = .ok (.invokestatic 94, 3) := by decide +kernel
theorem dX8_anew_53 : decode cX8_anew 53 = .ok (.ifCond .eq 36, 3) := by decide +kernel
theorem dX8_anew_56 : decode cX8_anew 56 = .ok (.iload_n 3, 1) := by decide +kernel
theorem dX8_anew_57 : decode cX8_anew 57 = .ok (.bipush (-9), 2) := by decide +kernel
theorem dX8_anew_59 : decode cX8_anew 59 = .ok (.if_icmp .eq 25, 3) := by decide +kernel
theorem dX8_anew_62 : decode cX8_anew 62 = .ok (.aload_n 0, 1) := by decide +kernel
theorem dX8_anew_63 : decode cX8_anew 63 = .ok (.getfield 33, 3) := by decide +kernel
theorem dX8_anew_66 : decode cX8_anew 66 = .ok (.iload 4, 2) := by decide +kernel
theorem dX8_anew_68 : decode cX8_anew 68 = .ok (.iaload, 1) := by decide +kernel
theorem dX8_anew_69 : decode cX8_anew 69 = .ok (.bipush 16, 2) := by decide +kernel
theorem dX8_anew_71 : decode cX8_anew 71 = .ok (.idiv, 1) := by decide +kernel
theorem dX8_anew_72 : decode cX8_anew 72 = .ok (.aload_n 0, 1) := by decide +kernel
theorem dX8_anew_73 : decode cX8_anew 73 = .ok (.getfield 33, 3) := by decide +kernel
theorem dX8_anew_76 : decode cX8_anew 76 = .ok (.iload_n 3, 1) := by decide +kernel
theorem dX8_anew_77 : decode cX8_anew 77 = .ok (.iaload, 1) := by decide +kernel
theorem dX8_anew_78 : decode cX8_anew 78 = .ok (.bipush 16, 2) := by decide +kernel
theorem dX8_anew_80 : decode cX8_anew 80 = .ok (.idiv, 1) := by decide +kernel
theorem dX8_anew_81 : decode cX8_anew 81 = .ok (.if_icmp .ge 8, 3) := by decide +kernel
theorem dX8_anew_84 : decode cX8_anew 84 = .ok (.iload 4, 2) := by decide +kernel
theorem dX8_anew_86 : decode cX8_anew 86 = .ok (.goto 4, 3) := by decide +kernel
theorem dX8_anew_89 : decode cX8_anew 89 = .ok (.iload_n 3, 1) := by decide +kernel
theorem dX8_anew_90 : decode cX8_anew 90 = .ok (.istore_n 3, 1) := by decide +kernel
theorem dX8_anew_91 : decode cX8_anew 91 = .ok (.iinc 4 1, 3) := by decide +kernel
theorem dX8_anew_94 : decode cX8_anew 94 = .ok (.goto (-58), 3) := by decide +kernel
theorem dX8_anew_97 : decode cX8_anew 97 = .ok (.iload_n 1, 1) := by decide +kernel
theorem dX8_anew_98 : decode cX8_anew 98 = .ok (.aload_n 0, 1) := by decide +kernel
theorem dX8_anew_99 : decode cX8_anew 99 = .ok (.iload_n 3, 1) := by decide +kernel
theorem dX8_anew_100 : decode cX8_anew 100 = .ok (.invokevirtual 111, 3) := by decide +kernel
theorem dX8_anew_103 : decode cX8_anew 103 = .ok (.ior, 1) := by decide +kernel
theorem dX8_anew_104 : decode cX8_anew 104 = .ok (.istore_n 1, 1) := by decide +kernel
theorem dX8_anew_105 : decode cX8_anew 105 = .ok (.aload_n 0, 1) := by decide +kernel
theorem dX8_anew_106 : decode cX8_anew 106 = .ok (.getfield 7, 3) := by decide +kernel
theorem dX8_anew_109 : decode cX8_anew 109 = .ok (.iconst 4, 1) := by decide +kernel
theorem dX8_anew_110 : decode cX8_anew 110 = .ok (.iaload, 1) := by decide +kernel
theorem dX8_anew_111 : decode cX8_anew 111 = .ok (.aload_n 0, 1) := by decide +kernel
theorem dX8_anew_112 : decode cX8_anew 112 = .ok (.iload_n 1, 1) := by decide +kernel
theorem dX8_anew_113 : decode cX8_anew 113 = .ok (.invokevirtual 104, 3) := by decide +kernel
theorem dX8_anew_116 : decode cX8_anew 116 = .ok (.iconst (-1), 1) := by decide +kernel
theorem dX8_anew_117 : decode cX8_anew 117 = .ok (.ixor, 1) := by decide +kernel
theorem dX8_anew_118 : decode cX8_anew 118 = .ok (.iand, 1) := by decide +kernel
theorem dX8_anew_119 : decode cX8_anew 119 = .ok (.istore_n 2, 1) := by decide +kernel
theorem dX8_anew_120 : decode cX8_anew 120 = .ok (.goto (-103), 3) := by decide +kernel
theorem dX8_anew_123 : decode cX8_anew 123 = .ok (.iload_n 1, 1) := by decide +kernel
theorem dX8_anew_124 : decode cX8_anew 124 = .ok (.ireturn, 1) := by decide +kernel
theorem dX8_notes_0 : decode cX8_notes 0 = .ok (.aload_n 0, 1) := by decide +kernel
theorem dX8_notes_1 : decode cX8_notes 1 = .ok (.getfield 114, 3) := by decide +kernel
theorem dX8_notes_4 : decode cX8_notes 4 = .ok (.bipush 6, 2) := by decide +kernel
theorem dX8_notes_6 : decode cX8_notes 6 = .ok (.if_icmp .ne 43, 3) := by decide +kernel
theorem dX8_notes_9 : decode cX8_notes 9 = .ok (.iconst 0, 1) := by decide +kernel
theorem dX8_notes_10 : decode cX8_notes 10 = .ok (.istore_n 1, 1) := by decide +kernel
theorem dX8_notes_11 : decode cX8_notes 11 = .ok (.iload_n 1, 1) := by decide +kernel
theorem dX8_notes_12 : decode cX8_notes 12 = .ok (.sipush 260, 3) := by decide +kernel
theorem dX8_notes_15 : decode cX8_notes 15 = .ok (.if_icmp .ge 24, 3) := by decide +kernel
theorem dX8_notes_18 : decode cX8_notes 18 = .ok (.aload_n 0, 1) := by decide +kernel
theorem dX8_notes_19 : decode cX8_notes 19 = .ok (.getfield 16, 3) := by decide +kernel
theorem dX8_notes_22 : decode cX8_notes 22 = .ok (.iload_n 1, 1) := by decide +kernel
theorem dX8_notes_23 : decode cX8_notes 23 = .ok (.aload_n 0, 1) := by decide +kernel
theorem dX8_notes_24 : decode cX8_notes 24 = .ok (.getfield 16, 3) := by decide +kernel
theorem dX8_notes_27 : decode cX8_notes 27 = .ok (.iload_n 1, 1) := by decide +kernel
theorem dX8_notes_28 : decode cX8_notes 28 = .ok (.bipush 52, 2) := by decide +kernel
theorem dX8_notes_30 : decode cX8_notes 30 = .ok (.iadd, 1) := by decide +kernel
theorem dX8_notes_31 : decode cX8_notes 31 = .ok (.iaload, 1) := by decide +kernel
theorem dX8_notes_32 : decode cX8_notes 32 = .ok (.iastore, 1) := by decide +kernel
theorem dX8_notes_33 : decode cX8_notes 33 = .ok (.iinc 1 1, 3) := by decide +kernel
theorem dX8_notes_36 : decode cX8_notes 36 = .ok (.goto (-25), 3) := by decide +kernel
theorem dX8_notes_39 : decode cX8_notes 39 = .ok (.aload_n 0, 1) := by decide +kernel
theorem dX8_notes_40 : decode cX8_notes 40 = .ok (.dup, 1) := by decide +kernel
theorem dX8_notes_41 : decode cX8_notes 41 = .ok (.getfield 114, 3) := by decide +kernel
theorem dX8_notes_44 : decode cX8_notes 44 = .ok (.iconst 1, 1) := by decide +kernel
theorem dX8_notes_45 : decode cX8_notes 45 = .ok (.isub, 1) := by decide +kernel
theorem dX8_notes_46 : decode cX8_notes 46 = .ok (.putfield 114, 3) := by decide +kernel
theorem dX8_notes_49 : decode cX8_notes 49 = .ok (.iconst 0, 1) := by decide +kernel
theorem dX8_notes_50 : decode cX8_notes 50 = .ok (.istore_n 1, 1) := by decide +kernel
theorem dX8_notes_51 : decode cX8_notes 51 = .ok (.iload_n 1, 1) := by decide +kernel
theorem dX8_notes_52 : decode cX8_notes 52 = .ok (.bipush 52, 2) := by decide +kernel
theorem dX8_notes_54 : decode cX8_notes 54 = .ok (.if_icmp .ge 29, 3) := by decide +kernel
theorem dX8_notes_57 : decode cX8_notes 57 = .ok (.aload_n 0, 1) := by decide +kernel
theorem dX8_notes_58 : decode cX8_notes 58 = .ok (.getfield 16, 3) := by decide +kernel
theorem dX8_notes_61 : decode cX8_notes 61 = .ok (.bipush 52, 2) := by decide +kernel
theorem dX8_notes_63 : decode cX8_notes 63 = .ok (.aload_n 0, 1) := by decide +kernel
theorem dX8_notes_64 : decode cX8_notes 64 = .ok (.getfield 114, 3) := by decide +kernel
theorem dX8_notes_67 : decode cX8_notes 67 = .ok (.imul, 1) := by decide +kernel
theorem dX8_notes_68 : decode cX8_notes 68 = .ok (.iload_n 1, 1) := by decide +kernel
theorem dX8_notes_69 : decode cX8_notes 69 = .ok (.iadd, 1) := by decide +kernel
theorem dX8_notes_70 : decode cX8_notes 70 = .ok (.aload_n 0, 1) := by decide +kernel
theorem dX8_notes_71 : decode cX8_notes 71 = .ok (.getfield 7, 3) := by decide +kernel
theorem dX8_notes_74 : decode cX8_notes 74 = .ok (.iload_n 1, 1) := by decide +kernel
theorem dX8_notes_75 : decode cX8_notes 75 = .ok (.iaload, 1) := by decide +kernel
theorem dX8_notes_76 : decode cX8_notes 76 = .ok (.iastore, 1) := by decide +kernel
theorem dX8_notes_77 : decode cX8_notes 77 = .ok (.iinc 1 1, 3) := by decide +kernel
theorem dX8_notes_80 : decode cX8_notes 80 = .ok (.goto (-29), 3) := by decide +kernel
theorem dX8_notes_83 : decode cX8_notes 83 = .ok (.aload_n 0, 1) := by decide +kernel
theorem dX8_notes_84 : decode cX8_notes 84 = .ok (.dup, 1) := by decide +kernel
theorem dX8_notes_85 : decode cX8_notes 85 = .ok (.getfield 114, 3) := by decide +kernel
theorem dX8_notes_88 : decode cX8_notes 88 = .ok (.iconst 1, 1) := by decide +kernel
theorem dX8_notes_89 : decode cX8_notes 89 = .ok (.iadd, 1) := by decide +kernel
theorem dX8_notes_90 : decode cX8_notes 90 = .ok (.putfield 114, 3) := by decide +kernel
theorem dX8_notes_93 : decode cX8_notes 93 = .ok (.return_, 1) := by decide +kernel
theorem dX8_markOf_0 : decode cX8_markOf 0 = .ok (.bipush (-9), 2) := by decide +kernel
theorem dX8_markOf_2 : decode cX8_markOf 2 = .ok (.istore_n 2, 1) := by decide +kernel
theorem dX8_markOf_3 : decode cX8_markOf 3 = .ok (.iconst 0, 1) := by decide +kernel
theorem dX8_markOf_4 : decode cX8_markOf 4 = .ok (.istore_n 3, 1) := by decide +kernel
theorem dX8_markOf_5 : decode cX8_markOf 5 = .ok (.iload_n 3, 1) := by decide +kernel
theorem dX8_markOf_6 : decode cX8_markOf 6 = .ok (.aload_n 0, 1) := by decide +kernel
theorem dX8_markOf_7 : decode cX8_markOf 7 = .ok (.getfield 7, 3) := by decide +kernel
theorem dX8_markOf_10 : decode cX8_markOf 10 = .ok (.bipush 7, 2) := by decide +kernel
theorem dX8_markOf_12 : decode cX8_markOf 12 = .ok (.iaload, 1) := by decide +kernel
theorem dX8_markOf_13 : decode cX8_markOf 13 = .ok (.if_icmp .ge 28, 3) := by decide +kernel
theorem dX8_markOf_16 : decode cX8_markOf 16 = .ok (.aload_n 0, 1) := by decide +kernel
theorem dX8_markOf_17 : decode cX8_markOf 17 = .ok (.getfield 7, 3) := by decide +kernel
theorem dX8_markOf_20 : decode cX8_markOf 20 = .ok (.bipush 8, 2) := by decide +kernel
theorem dX8_markOf_22 : decode cX8_markOf 22 = .ok (.iload_n 3, 1) := by decide +kernel
theorem dX8_markOf_23 : decode cX8_markOf 23 = .ok (.iadd, 1) := by decide +kernel
theorem dX8_markOf_24 : decode cX8_markOf 24 = .ok (.iaload, 1) := by decide +kernel
theorem dX8_markOf_25 : decode cX8_markOf 25 = .ok (.iload_n 1, 1) := by decide +kernel
theorem dX8_markOf_26 : decode cX8_markOf 26 = .ok (.if_icmp .ne 7, 3) := by decide +kernel
theorem dX8_markOf_29 : decode cX8_markOf 29 = .ok (.iload_n 3, 1) := by decide +kernel
theorem dX8_markOf_30 : decode cX8_markOf 30 = .ok (.goto 4, 3) := by decide +kernel
theorem dX8_markOf_33 : decode cX8_markOf 33 = .ok (.iload_n 2, 1) := by decide +kernel
theorem dX8_markOf_34 : decode cX8_markOf 34 = .ok (.istore_n 2, 1) := by decide +kernel
theorem dX8_markOf_35 : decode cX8_markOf 35 = .ok (.iinc 3 1, 3) := by decide +kernel
theorem dX8_markOf_38 : decode cX8_markOf 38 = .ok (.goto (-33), 3) := by decide +kernel
theorem dX8_markOf_41 : decode cX8_markOf 41 = .ok (.iload_n 2, 1) := by decide +kernel
theorem dX8_markOf_42 : decode cX8_markOf 42 = .ok (.ireturn, 1) := by decide +kernel
theorem dX8_bares_0 : decode cX8_bares 0 = .ok (.iconst 0, 1) := by decide +kernel
theorem dX8_bares_1 : decode cX8_bares 1 = .ok (.istore_n 1, 1) := by decide +kernel
theorem dX8_bares_2 : decode cX8_bares 2 = .ok (.iload_n 1, 1) := by decide +kernel
theorem dX8_bares_3 : decode cX8_bares 3 = .ok (.bipush 7, 2) := by decide +kernel
theorem dX8_bares_5 : decode cX8_bares 5 = .ok (.if_icmp .ge 19, 3) := by decide +kernel
theorem dX8_bares_8 : decode cX8_bares 8 = .ok (.aload_n 0, 1) := by decide +kernel
theorem dX8_bares_9 : decode cX8_bares 9 = .ok (.getfield 7, 3) := by decide +kernel
theorem dX8_bares_12 : decode cX8_bares 12 = .ok (.bipush 8, 2) := by decide +kernel
theorem dX8_bares_14 : decode cX8_bares 14 = .ok (.iload_n 1, 1) := by decide +kernel
theorem dX8_bares_15 : decode cX8_bares 15 = .ok (.iadd, 1) := by decide +kernel
theorem dX8_bares_16 : decode cX8_bares 16 = .ok (.iconst 0, 1) := by decide +kernel
theorem dX8_bares_17 : decode cX8_bares 17 = .ok (.iastore, 1) := by decide +kernel
theorem dX8_bares_18 : decode cX8_bares 18 = .ok (.iinc 1 1, 3) := by decide +kernel
theorem dX8_bares_21 : decode cX8_bares 21 = .ok (.goto (-19), 3) := by decide +kernel
theorem dX8_bares_24 : decode cX8_bares 24 = .ok (.aload_n 0, 1) := by decide +kernel
theorem dX8_bares_25 : decode cX8_bares 25 = .ok (.getfield 7, 3) := by decide +kernel
theorem dX8_bares_28 : decode cX8_bares 28 = .ok (.bipush 7, 2) := by decide +kernel
theorem dX8_bares_30 : decode cX8_bares 30 = .ok (.iconst 0, 1) := by decide +kernel
theorem dX8_bares_31 : decode cX8_bares 31 = .ok (.iastore, 1) := by decide +kernel
theorem dX8_bares_32 : decode cX8_bares 32 = .ok (.return_, 1) := by decide +kernel
theorem dX8_marks_0 : decode cX8_marks 0 = .ok (.aload_n 0, 1) := by decide +kernel
theorem dX8_marks_1 : decode cX8_marks 1 = .ok (.iload_n 1, 1) := by decide +kernel
theorem dX8_marks_2 : decode cX8_marks 2 = .ok (.invokevirtual 117, 3) := by decide +kernel
theorem dX8_marks_5 : decode cX8_marks 5 = .ok (.istore_n 2, 1) := by decide +kernel
theorem dX8_marks_6 : decode cX8_marks 6 = .ok (.iload_n 2, 1) := by decide +kernel
theorem dX8_marks_7 : decode cX8_marks 7 = .ok (.bipush (-9), 2) := by decide +kernel
theorem dX8_marks_9 : decode cX8_marks 9 = .ok (.if_icmp .ne 33, 3) := by decide +kernel
theorem dX8_marks_12 : decode cX8_marks 12 = .ok (.aload_n 0, 1) := by decide +kernel
theorem dX8_marks_13 : decode cX8_marks 13 = .ok (.getfield 7, 3) := by decide +kernel
theorem dX8_marks_16 : decode cX8_marks 16 = .ok (.bipush 8, 2) := by decide +kernel
theorem dX8_marks_18 : decode cX8_marks 18 = .ok (.aload_n 0, 1) := by decide +kernel
theorem dX8_marks_19 : decode cX8_marks 19 = .ok (.getfield 7, 3) := by decide +kernel
theorem dX8_marks_22 : decode cX8_marks 22 = .ok (.bipush 7, 2) := by decide +kernel
theorem dX8_marks_24 : decode cX8_marks 24 = .ok (.iaload, 1) := by decide +kernel
theorem dX8_marks_25 : decode cX8_marks 25 = .ok (.iadd, 1) := by decide +kernel
theorem dX8_marks_26 : decode cX8_marks 26 = .ok (.iload_n 1, 1) := by decide +kernel
theorem dX8_marks_27 : decode cX8_marks 27 = .ok (.iastore, 1) := by decide +kernel
theorem dX8_marks_28 : decode cX8_marks 28 = .ok (.aload_n 0, 1) := by decide +kernel
theorem dX8_marks_29 : decode cX8_marks 29 = .ok (.getfield 7, 3) := by decide +kernel
theorem dX8_marks_32 : decode cX8_marks 32 = .ok (.bipush 7, 2) := by decide +kernel
theorem dX8_marks_34 : decode cX8_marks 34 = .ok (.dup2, 1) := by decide +kernel
theorem dX8_marks_35 : decode cX8_marks 35 = .ok (.iaload, 1) := by decide +kernel
theorem dX8_marks_36 : decode cX8_marks 36 = .ok (.iconst 1, 1) := by decide +kernel
theorem dX8_marks_37 : decode cX8_marks 37 = .ok (.iadd, 1) := by decide +kernel
theorem dX8_marks_38 : decode cX8_marks 38 = .ok (.iastore, 1) := by decide +kernel
theorem dX8_marks_39 : decode cX8_marks 39 = .ok (.goto 71, 3) := by decide +kernel
theorem dX8_marks_42 : decode cX8_marks 42 = .ok (.iload_n 2, 1) := by decide +kernel
theorem dX8_marks_43 : decode cX8_marks 43 = .ok (.istore_n 3, 1) := by decide +kernel
theorem dX8_marks_44 : decode cX8_marks 44 = .ok (.iload_n 3, 1) := by decide +kernel
theorem dX8_marks_45 : decode cX8_marks 45 = .ok (.iconst 1, 1) := by decide +kernel
theorem dX8_marks_46 : decode cX8_marks 46 = .ok (.iadd, 1) := by decide +kernel
theorem dX8_marks_47 : decode cX8_marks 47 = .ok (.aload_n 0, 1) := by decide +kernel
theorem dX8_marks_48 : decode cX8_marks 48 = .ok (.getfield 7, 3) := by decide +kernel
theorem dX8_marks_51 : decode cX8_marks 51 = .ok (.bipush 7, 2) := by decide +kernel
theorem dX8_marks_53 : decode cX8_marks 53 = .ok (.iaload, 1) := by decide +kernel
theorem dX8_marks_54 : decode cX8_marks 54 = .ok (.if_icmp .ge 29, 3) := by decide +kernel
theorem dX8_marks_57 : decode cX8_marks 57 = .ok (.aload_n 0, 1) := by decide +kernel
theorem dX8_marks_58 : decode cX8_marks 58 = .ok (.getfield 7, 3) := by decide +kernel
theorem dX8_marks_61 : decode cX8_marks 61 = .ok (.bipush 8, 2) := by decide +kernel
theorem dX8_marks_63 : decode cX8_marks 63 = .ok (.iload_n 3, 1) := by decide +kernel
theorem dX8_marks_64 : decode cX8_marks 64 = .ok (.iadd, 1) := by decide +kernel
theorem dX8_marks_65 : decode cX8_marks 65 = .ok (.aload_n 0, 1) := by decide +kernel
theorem dX8_marks_66 : decode cX8_marks 66 = .ok (.getfield 7, 3) := by decide +kernel
theorem dX8_marks_69 : decode cX8_marks 69 = .ok (.bipush 8, 2) := by decide +kernel
theorem dX8_marks_71 : decode cX8_marks 71 = .ok (.iload_n 3, 1) := by decide +kernel
theorem dX8_marks_72 : decode cX8_marks 72 = .ok (.iadd, 1) := by decide +kernel
theorem dX8_marks_73 : decode cX8_marks 73 = .ok (.iconst 1, 1) := by decide +kernel
theorem dX8_marks_74 : decode cX8_marks 74 = .ok (.iadd, 1) := by decide +kernel
theorem dX8_marks_75 : decode cX8_marks 75 = .ok (.iaload, 1) := by decide +kernel
theorem dX8_marks_76 : decode cX8_marks 76 = .ok (.iastore, 1) := by decide +kernel
theorem dX8_marks_77 : decode cX8_marks 77 = .ok (.iinc 3 1, 3) := by decide +kernel
theorem dX8_marks_80 : decode cX8_marks 80 = .ok (.goto (-36), 3) := by decide +kernel
theorem dX8_marks_83 : decode cX8_marks 83 = .ok (.aload_n 0, 1) := by decide +kernel
theorem dX8_marks_84 : decode cX8_marks 84 = .ok (.getfield 7, 3) := by decide +kernel
theorem dX8_marks_87 : decode cX8_marks 87 = .ok (.bipush 7, 2) := by decide +kernel
theorem dX8_marks_89 : decode cX8_marks 89 = .ok (.dup2, 1) := by decide +kernel
theorem dX8_marks_90 : decode cX8_marks 90 = .ok (.iaload, 1) := by decide +kernel
theorem dX8_marks_91 : decode cX8_marks 91 = .ok (.iconst 1, 1) := by decide +kernel
theorem dX8_marks_92 : decode cX8_marks 92 = .ok (.isub, 1) := by decide +kernel
theorem dX8_marks_93 : decode cX8_marks 93 = .ok (.iastore, 1) := by decide +kernel
theorem dX8_marks_94 : decode cX8_marks 94 = .ok (.aload_n 0, 1) := by decide +kernel
theorem dX8_marks_95 : decode cX8_marks 95 = .ok (.getfield 7, 3) := by decide +kernel
theorem dX8_marks_98 : decode cX8_marks 98 = .ok (.bipush 8, 2) := by decide +kernel
theorem dX8_marks_100 : decode cX8_marks 100 = .ok (.aload_n 0, 1) := by decide +kernel
theorem dX8_marks_101 : decode cX8_marks 101 = .ok (.getfield 7, 3) := by decide +kernel
theorem dX8_marks_104 : decode cX8_marks 104 = .ok (.bipush 7, 2) := by decide +kernel
theorem dX8_marks_106 : decode cX8_marks 106 = .ok (.iaload, 1) := by decide +kernel
theorem dX8_marks_107 : decode cX8_marks 107 = .ok (.iadd, 1) := by decide +kernel
theorem dX8_marks_108 : decode cX8_marks 108 = .ok (.iconst 0, 1) := by decide +kernel
theorem dX8_marks_109 : decode cX8_marks 109 = .ok (.iastore, 1) := by decide +kernel
theorem dX8_marks_110 : decode cX8_marks 110 = .ok (.aload_n 0, 1) := by decide +kernel
theorem dX8_marks_111 : decode cX8_marks 111 = .ok (.getfield 7, 3) := by decide +kernel
theorem dX8_marks_114 : decode cX8_marks 114 = .ok (.iconst 3, 1) := by decide +kernel
theorem dX8_marks_115 : decode cX8_marks 115 = .ok (.iaload, 1) := by decide +kernel
theorem dX8_marks_116 : decode cX8_marks 116 = .ok (.ifCond .le 62, 3) := by decide +kernel
theorem dX8_marks_119 : decode cX8_marks 119 = .ok (.aload_n 0, 1) := by decide +kernel
theorem dX8_marks_120 : decode cX8_marks 120 = .ok (.getfield 7, 3) := by decide +kernel
theorem dX8_marks_123 : decode cX8_marks 123 = .ok (.bipush 7, 2) := by decide +kernel
theorem dX8_marks_125 : decode cX8_marks 125 = .ok (.iaload, 1) := by decide +kernel
theorem dX8_marks_126 : decode cX8_marks 126 = .ok (.aload_n 0, 1) := by decide +kernel
theorem dX8_marks_127 : decode cX8_marks 127 = .ok (.getfield 7, 3) := by decide +kernel
theorem dX8_marks_130 : decode cX8_marks 130 = .ok (.iconst 3, 1) := by decide +kernel
theorem dX8_marks_131 : decode cX8_marks 131 = .ok (.iaload, 1) := by decide +kernel
theorem dX8_marks_132 : decode cX8_marks 132 = .ok (.if_icmp .lt 46, 3) := by decide +kernel
theorem dX8_marks_135 : decode cX8_marks 135 = .ok (.aload_n 0, 1) := by decide +kernel
theorem dX8_marks_136 : decode cX8_marks 136 = .ok (.invokevirtual 120, 3) := by decide +kernel
theorem dX8_marks_139 : decode cX8_marks 139 = .ok (.istore_n 3, 1) := by decide +kernel
theorem dX8_marks_140 : decode cX8_marks 140 = .ok (.aload_n 0, 1) := by decide +kernel
theorem dX8_marks_141 : decode cX8_marks 141 = .ok (.getfield 7, 3) := by decide +kernel
theorem dX8_marks_144 : decode cX8_marks 144 = .ok (.iconst 5, 1) := by decide +kernel
theorem dX8_marks_145 : decode cX8_marks 145 = .ok (.aload_n 0, 1) := by decide +kernel
theorem dX8_marks_146 : decode cX8_marks 146 = .ok (.iload_n 3, 1) := by decide +kernel
theorem dX8_marks_147 : decode cX8_marks 147 = .ok (.invokevirtual 123, 3) := by decide +kernel
theorem dX8_marks_150 : decode cX8_marks 150 = .ok (.aload_n 0, 1) := by decide +kernel
theorem dX8_marks_151 : decode cX8_marks 151 = .ok (.aload_n 0, 1) := by decide +kernel
theorem dX8_marks_152 : decode cX8_marks 152 = .ok (.getfield 7, 3) := by decide +kernel
theorem dX8_marks_155 : decode cX8_marks 155 = .ok (.iconst 5, 1) := by decide +kernel
theorem dX8_marks_156 : decode cX8_marks 156 = .ok (.iaload, 1) := by decide +kernel
theorem dX8_marks_157 : decode cX8_marks 157 = .ok (.invokevirtual 123, 3) := by decide +kernel
theorem dX8_marks_160 : decode cX8_marks 160 = .ok (.if_icmp .ge 7, 3) := by decide +kernel
theorem dX8_marks_163 : decode cX8_marks 163 = .ok (.iload_n 3, 1) := by decide +kernel
theorem dX8_marks_164 : decode cX8_marks 164 = .ok (.goto 9, 3) := by decide +kernel
theorem dX8_marks_167 : decode cX8_marks 167 = .ok (.aload_n 0, 1) := by decide +kernel
theorem dX8_marks_168 : decode cX8_marks 168 = .ok (.getfield 7, 3) := by decide +kernel
theorem dX8_marks_171 : decode cX8_marks 171 = .ok (.iconst 5, 1) := by decide +kernel
theorem dX8_marks_172 : decode cX8_marks 172 = .ok (.iaload, 1) := by decide +kernel
theorem dX8_marks_173 : decode cX8_marks 173 = .ok (.iastore, 1) := by decide +kernel
theorem dX8_marks_174 : decode cX8_marks 174 = .ok (.aload_n 0, 1) := by decide +kernel
theorem dX8_marks_175 : decode cX8_marks 175 = .ok (.invokevirtual 126, 3) := by decide +kernel
theorem dX8_marks_178 : decode cX8_marks 178 = .ok (.return_, 1) := by decide +kernel
theorem dX8_isNode_0 : decode cX8_isNode 0 = .ok (.iload_n 1, 1) := by decide +kernel
theorem dX8_isNode_1 : decode cX8_isNode 1 = .ok (.iconst 0, 1) := by decide +kernel
theorem dX8_isNode_2 : decode cX8_isNode 2 = .ok (.aload_n 0, 1) := by decide +kernel
theorem dX8_isNode_3 : decode cX8_isNode 3 = .ok (.getfield 7, 3) := by decide +kernel
theorem dX8_isNode_6 : decode cX8_isNode 6 = .ok (.iconst 0, 1) := by decide +kernel
theorem dX8_isNode_7 : decode cX8_isNode 7 = .ok (.iaload, 1) := by decide +kernel
theorem dX8_isNode_8 : decode cX8_isNode 8 = .ok (.iconst 1, 1) := by decide +kernel
theorem dX8_isNode_9 : decode cX8_isNode 9 = .ok (.isub, 1) := by decide +kernel
theorem dX8_isNode_10 : decode cX8_isNode 10 = .ok (.invokestatic 40, 3) := by decide +kernel
theorem dX8_isNode_13 : decode cX8_isNode 13 = .ok (.ireturn, 1) := by decide +kernel
theorem dX8_joins_0 : decode cX8_joins 0 = .ok (.aload_n 0, 1) := by decide +kernel
theorem dX8_joins_1 : decode cX8_joins 1 = .ok (.iconst 0, 1) := by decide +kernel
theorem dX8_joins_2 : decode cX8_joins 2 = .ok (.putfield 36, 3) := by decide +kernel
theorem dX8_joins_5 : decode cX8_joins 5 = .ok (.aload_n 0, 1) := by decide +kernel
theorem dX8_joins_6 : decode cX8_joins 6 = .ok (.iload_n 1, 1) := by decide +kernel
theorem dX8_joins_7 : decode cX8_joins 7 = .ok (.invokevirtual 129, 3) := by decide +kernel
theorem dX8_joins_10 : decode cX8_joins 10 = .ok (.ifCond .ne 5, 3) := by decide +kernel
theorem dX8_joins_13 : decode cX8_joins 13 = .ok (.iconst (-1), 1) := by decide +kernel
theorem dX8_joins_14 : decode cX8_joins 14 = .ok (.ireturn, 1) := by decide +kernel
theorem dX8_joins_15 : decode cX8_joins 15 = .ok (.aload_n 0, 1) := by decide +kernel
theorem dX8_joins_16 : decode cX8_joins 16 = .ok (.aload_n 0, 1) := by decide +kernel
theorem dX8_joins_17 : decode cX8_joins 17 = .ok (.aload_n 0, 1) := by decide +kernel
theorem dX8_joins_18 : decode cX8_joins 18 = .ok (.getfield 7, 3) := by decide +kernel
theorem dX8_joins_21 : decode cX8_joins 21 = .ok (.iconst 5, 1) := by decide +kernel
theorem dX8_joins_22 : decode cX8_joins 22 = .ok (.iaload, 1) := by decide +kernel
theorem dX8_joins_23 : decode cX8_joins 23 = .ok (.invokevirtual 104, 3) := by decide +kernel
theorem dX8_joins_26 : decode cX8_joins 26 = .ok (.invokevirtual 107, 3) := by decide +kernel
theorem dX8_joins_29 : decode cX8_joins 29 = .ok (.iload_n 1, 1) := by decide +kernel
theorem dX8_joins_30 : decode cX8_joins 30 = .ok (.aload_n 0, 1) := by decide +kernel
theorem dX8_joins_31 : decode cX8_joins 31 = .ok (.getfield 7, 3) := by decide +kernel
theorem dX8_joins_34 : decode cX8_joins 34 = .ok (.iconst 2, 1) := by decide +kernel
theorem dX8_joins_35 : decode cX8_joins 35 = .ok (.iaload, 1) := by decide +kernel
theorem dX8_joins_36 : decode cX8_joins 36 = .ok (.if_icmp .eq 27, 3) := by decide +kernel
theorem dX8_joins_39 : decode cX8_joins 39 = .ok (.aload_n 0, 1) := by decide +kernel
theorem dX8_joins_40 : decode cX8_joins 40 = .ok (.getfield 7, 3) := by decide +kernel
theorem dX8_joins_43 : decode cX8_joins 43 = .ok (.iconst 4, 1) := by decide +kernel
theorem dX8_joins_44 : decode cX8_joins 44 = .ok (.iaload, 1) := by decide +kernel
theorem dX8_joins_45 : decode cX8_joins 45 = .ok (.iload_n 1, 1) := by decide +kernel
theorem dX8_joins_46 : decode cX8_joins 46 = .ok (.invokestatic 94, 3) := by decide +kernel
theorem dX8_joins_49 : decode cX8_joins 49 = .ok (.ifCond .ne 14, 3) := by decide +kernel
theorem dX8_joins_52 : decode cX8_joins 52 = .ok (.aload_n 0, 1) := by decide +kernel
theorem dX8_joins_53 : decode cX8_joins 53 = .ok (.getfield 33, 3) := by decide +kernel
theorem dX8_joins_56 : decode cX8_joins 56 = .ok (.iload_n 1, 1) := by decide +kernel
theorem dX8_joins_57 : decode cX8_joins 57 = .ok (.iaload, 1) := by decide +kernel
theorem dX8_joins_58 : decode cX8_joins 58 = .ok (.ldc 97, 2) := by decide +kernel
theorem dX8_joins_60 : decode cX8_joins 60 = .ok (.if_icmp .lt 6, 3) := by decide +kernel
theorem dX8_joins_63 : decode cX8_joins 63 = .ok (.bipush (-2), 2) := by decide +kernel
theorem dX8_joins_65 : decode cX8_joins 65 = .ok (.ireturn, 1) := by decide +kernel
theorem dX8_joins_66 : decode cX8_joins 66 = .ok (.aload_n 0, 1) := by decide +kernel
theorem dX8_joins_67 : decode cX8_joins 67 = .ok (.invokevirtual 91, 3) := by decide +kernel
theorem dX8_joins_70 : decode cX8_joins 70 = .ok (.aload_n 0, 1) := by decide +kernel
theorem dX8_joins_71 : decode cX8_joins 71 = .ok (.getfield 7, 3) := by decide +kernel
theorem dX8_joins_74 : decode cX8_joins 74 = .ok (.iconst 4, 1) := by decide +kernel
theorem dX8_joins_75 : decode cX8_joins 75 = .ok (.dup2, 1) := by decide +kernel
theorem dX8_joins_76 : decode cX8_joins 76 = .ok (.iaload, 1) := by decide +kernel
theorem dX8_joins_77 : decode cX8_joins 77 = .ok (.iconst 1, 1) := by decide +kernel
theorem dX8_joins_78 : decode cX8_joins 78 = .ok (.iload_n 1, 1) := by decide +kernel
theorem dX8_joins_79 : decode cX8_joins 79 = .ok (.ishl, 1) := by decide +kernel
theorem dX8_joins_80 : decode cX8_joins 80 = .ok (.ior, 1) := by decide +kernel
theorem dX8_joins_81 : decode cX8_joins 81 = .ok (.iastore, 1) := by decide +kernel
theorem dX8_joins_82 : decode cX8_joins 82 = .ok (.aload_n 0, 1) := by decide +kernel
theorem dX8_joins_83 : decode cX8_joins 83 = .ok (.getfield 7, 3) := by decide +kernel
theorem dX8_joins_86 : decode cX8_joins 86 = .ok (.iconst 5, 1) := by decide +kernel
theorem dX8_joins_87 : decode cX8_joins 87 = .ok (.dup2, 1) := by decide +kernel
theorem dX8_joins_88 : decode cX8_joins 88 = .ok (.iaload, 1) := by decide +kernel
theorem dX8_joins_89 : decode cX8_joins 89 = .ok (.aload_n 0, 1) := by decide +kernel
theorem dX8_joins_90 : decode cX8_joins 90 = .ok (.iload_n 1, 1) := by decide +kernel
theorem dX8_joins_91 : decode cX8_joins 91 = .ok (.invokevirtual 111, 3) := by decide +kernel
theorem dX8_joins_94 : decode cX8_joins 94 = .ok (.ior, 1) := by decide +kernel
theorem dX8_joins_95 : decode cX8_joins 95 = .ok (.iastore, 1) := by decide +kernel
theorem dX8_joins_96 : decode cX8_joins 96 = .ok (.aload_n 0, 1) := by decide +kernel
theorem dX8_joins_97 : decode cX8_joins 97 = .ok (.iload_n 1, 1) := by decide +kernel
theorem dX8_joins_98 : decode cX8_joins 98 = .ok (.invokevirtual 133, 3) := by decide +kernel
theorem dX8_joins_101 : decode cX8_joins 101 = .ok (.aload_n 0, 1) := by decide +kernel
theorem dX8_joins_102 : decode cX8_joins 102 = .ok (.aload_n 0, 1) := by decide +kernel
theorem dX8_joins_103 : decode cX8_joins 103 = .ok (.getfield 7, 3) := by decide +kernel
theorem dX8_joins_106 : decode cX8_joins 106 = .ok (.iconst 5, 1) := by decide +kernel
theorem dX8_joins_107 : decode cX8_joins 107 = .ok (.iaload, 1) := by decide +kernel
theorem dX8_joins_108 : decode cX8_joins 108 = .ok (.invokevirtual 123, 3) := by decide +kernel
theorem dX8_joins_111 : decode cX8_joins 111 = .ok (.ireturn, 1) := by decide +kernel
theorem dX8_leaves_0 : decode cX8_leaves 0 = .ok (.aload_n 0, 1) := by decide +kernel
theorem dX8_leaves_1 : decode cX8_leaves 1 = .ok (.iconst 0, 1) := by decide +kernel
theorem dX8_leaves_2 : decode cX8_leaves 2 = .ok (.putfield 36, 3) := by decide +kernel
theorem dX8_leaves_5 : decode cX8_leaves 5 = .ok (.aload_n 0, 1) := by decide +kernel
theorem dX8_leaves_6 : decode cX8_leaves 6 = .ok (.iload_n 1, 1) := by decide +kernel
theorem dX8_leaves_7 : decode cX8_leaves 7 = .ok (.invokevirtual 129, 3) := by decide +kernel
theorem dX8_leaves_10 : decode cX8_leaves 10 = .ok (.ifCond .ne 5, 3) := by decide +kernel
theorem dX8_leaves_13 : decode cX8_leaves 13 = .ok (.iconst (-1), 1) := by decide +kernel
theorem dX8_leaves_14 : decode cX8_leaves 14 = .ok (.ireturn, 1) := by decide +kernel
theorem dX8_leaves_15 : decode cX8_leaves 15 = .ok (.aload_n 0, 1) := by decide +kernel
theorem dX8_leaves_16 : decode cX8_leaves 16 = .ok (.getfield 7, 3) := by decide +kernel
theorem dX8_leaves_19 : decode cX8_leaves 19 = .ok (.iconst 4, 1) := by decide +kernel
theorem dX8_leaves_20 : decode cX8_leaves 20 = .ok (.iaload, 1) := by decide +kernel
theorem dX8_leaves_21 : decode cX8_leaves 21 = .ok (.iload_n 1, 1) := by decide +kernel
theorem dX8_leaves_22 : decode cX8_leaves 22 = .ok (.invokestatic 94, 3) := by decide +kernel
theorem dX8_leaves_25 : decode cX8_leaves 25 = .ok (.ifCond .ne 6, 3) := by decide +kernel
theorem dX8_leaves_28 : decode cX8_leaves 28 = .ok (.bipush (-2), 2) := by decide +kernel
theorem dX8_leaves_30 : decode cX8_leaves 30 = .ok (.ireturn, 1) := by decide +kernel
theorem dX8_leaves_31 : decode cX8_leaves 31 = .ok (.aload_n 0, 1) := by decide +kernel
theorem dX8_leaves_32 : decode cX8_leaves 32 = .ok (.invokevirtual 91, 3) := by decide +kernel
theorem dX8_leaves_35 : decode cX8_leaves 35 = .ok (.aload_n 0, 1) := by decide +kernel
theorem dX8_leaves_36 : decode cX8_leaves 36 = .ok (.getfield 7, 3) := by decide +kernel
theorem dX8_leaves_39 : decode cX8_leaves 39 = .ok (.iconst 4, 1) := by decide +kernel
theorem dX8_leaves_40 : decode cX8_leaves 40 = .ok (.dup2, 1) := by decide +kernel
theorem dX8_leaves_41 : decode cX8_leaves 41 = .ok (.iaload, 1) := by decide +kernel
theorem dX8_leaves_42 : decode cX8_leaves 42 = .ok (.iconst 1, 1) := by decide +kernel
theorem dX8_leaves_43 : decode cX8_leaves 43 = .ok (.iload_n 1, 1) := by decide +kernel
theorem dX8_leaves_44 : decode cX8_leaves 44 = .ok (.ishl, 1) := by decide +kernel
theorem dX8_leaves_45 : decode cX8_leaves 45 = .ok (.iconst (-1), 1) := by decide +kernel
theorem dX8_leaves_46 : decode cX8_leaves 46 = .ok (.ixor, 1) := by decide +kernel
theorem dX8_leaves_47 : decode cX8_leaves 47 = .ok (.iand, 1) := by decide +kernel
theorem dX8_leaves_48 : decode cX8_leaves 48 = .ok (.iastore, 1) := by decide +kernel
theorem dX8_leaves_49 : decode cX8_leaves 49 = .ok (.aload_n 0, 1) := by decide +kernel
theorem dX8_leaves_50 : decode cX8_leaves 50 = .ok (.getfield 7, 3) := by decide +kernel
theorem dX8_leaves_53 : decode cX8_leaves 53 = .ok (.iconst 5, 1) := by decide +kernel
theorem dX8_leaves_54 : decode cX8_leaves 54 = .ok (.aload_n 0, 1) := by decide +kernel
theorem dX8_leaves_55 : decode cX8_leaves 55 = .ok (.aload_n 0, 1) := by decide +kernel
theorem dX8_leaves_56 : decode cX8_leaves 56 = .ok (.getfield 7, 3) := by decide +kernel
theorem dX8_leaves_59 : decode cX8_leaves 59 = .ok (.iconst 5, 1) := by decide +kernel
theorem dX8_leaves_60 : decode cX8_leaves 60 = .ok (.iaload, 1) := by decide +kernel
theorem dX8_leaves_61 : decode cX8_leaves 61 = .ok (.invokevirtual 136, 3) := by decide +kernel
theorem dX8_leaves_64 : decode cX8_leaves 64 = .ok (.iastore, 1) := by decide +kernel
theorem dX8_leaves_65 : decode cX8_leaves 65 = .ok (.aload_n 0, 1) := by decide +kernel
theorem dX8_leaves_66 : decode cX8_leaves 66 = .ok (.iload_n 1, 1) := by decide +kernel
theorem dX8_leaves_67 : decode cX8_leaves 67 = .ok (.invokevirtual 133, 3) := by decide +kernel
theorem dX8_leaves_70 : decode cX8_leaves 70 = .ok (.aload_n 0, 1) := by decide +kernel
theorem dX8_leaves_71 : decode cX8_leaves 71 = .ok (.aload_n 0, 1) := by decide +kernel
theorem dX8_leaves_72 : decode cX8_leaves 72 = .ok (.getfield 7, 3) := by decide +kernel
theorem dX8_leaves_75 : decode cX8_leaves 75 = .ok (.iconst 5, 1) := by decide +kernel
theorem dX8_leaves_76 : decode cX8_leaves 76 = .ok (.iaload, 1) := by decide +kernel
theorem dX8_leaves_77 : decode cX8_leaves 77 = .ok (.invokevirtual 123, 3) := by decide +kernel
theorem dX8_leaves_80 : decode cX8_leaves 80 = .ok (.ireturn, 1) := by decide +kernel
theorem dX8_rearranges_0 : decode cX8_rearranges 0 = .ok (.aload_n 0, 1) := by decide +kernel
theorem dX8_rearranges_1 : decode cX8_rearranges 1 = .ok (.iconst 0, 1) := by decide +kernel
theorem dX8_rearranges_2 : decode cX8_rearranges 2 = .ok (.putfield 36, 3) := by decide +kernel
theorem dX8_rearranges_5 : decode cX8_rearranges 5 = .ok (.aload_n 0, 1) := by decide +kernel
theorem dX8_rearranges_6 : decode cX8_rearranges 6 = .ok (.invokevirtual 120, 3) := by decide +kernel
theorem dX8_rearranges_9 : decode cX8_rearranges 9 = .ok (.istore_n 1, 1) := by decide +kernel
theorem dX8_rearranges_10 : decode cX8_rearranges 10 = .ok (.aload_n 0, 1) := by decide +kernel
theorem dX8_rearranges_11 : decode cX8_rearranges 11 = .ok (.aload_n 0, 1) := by decide +kernel
theorem dX8_rearranges_12 : decode cX8_rearranges 12 = .ok (.getfield 7, 3) := by decide +kernel
theorem dX8_rearranges_15 : decode cX8_rearranges 15 = .ok (.iconst 5, 1) := by decide +kernel
theorem dX8_rearranges_16 : decode cX8_rearranges 16 = .ok (.iaload, 1) := by decide +kernel
theorem dX8_rearranges_17 : decode cX8_rearranges 17 = .ok (.invokevirtual 123, 3) := by decide +kernel
theorem dX8_rearranges_20 : decode cX8_rearranges 20 = .ok (.aload_n 0, 1) := by decide +kernel
theorem dX8_rearranges_21 : decode cX8_rearranges 21 = .ok (.iload_n 1, 1) := by decide +kernel
theorem dX8_rearranges_22 : decode cX8_rearranges 22 = .ok (.invokevirtual 123, 3) := by decide +kernel
theorem dX8_rearranges_25 : decode cX8_rearranges 25 = .ok (.isub, 1) := by decide +kernel
theorem dX8_rearranges_26 : decode cX8_rearranges 26 = .ok (.istore_n 2, 1) := by decide +kernel
theorem dX8_rearranges_27 : decode cX8_rearranges 27 = .ok (.iload_n 2, 1) := by decide +kernel
theorem dX8_rearranges_28 : decode cX8_rearranges 28 = .ok (.ifCond .gt 6, 3) := by decide +kernel
theorem dX8_rearranges_31 : decode cX8_rearranges 31 = .ok (.bipush (-2), 2) := by decide +kernel
theorem dX8_rearranges_33 : decode cX8_rearranges 33 = .ok (.ireturn, 1) := by decide +kernel
theorem dX8_rearranges_34 : decode cX8_rearranges 34 = .ok (.aload_n 0, 1) := by decide +kernel
theorem dX8_rearranges_35 : decode cX8_rearranges 35 = .ok (.invokevirtual 91, 3) := by decide +kernel
theorem dX8_rearranges_38 : decode cX8_rearranges 38 = .ok (.aload_n 0, 1) := by decide +kernel
theorem dX8_rearranges_39 : decode cX8_rearranges 39 = .ok (.getfield 7, 3) := by decide +kernel
theorem dX8_rearranges_42 : decode cX8_rearranges 42 = .ok (.iconst 5, 1) := by decide +kernel
theorem dX8_rearranges_43 : decode cX8_rearranges 43 = .ok (.iload_n 1, 1) := by decide +kernel
theorem dX8_rearranges_44 : decode cX8_rearranges 44 = .ok (.iastore, 1) := by decide +kernel
theorem dX8_rearranges_45 : decode cX8_rearranges 45 = .ok (.aload_n 0, 1) := by decide +kernel
theorem dX8_rearranges_46 : decode cX8_rearranges 46 = .ok (.invokevirtual 126, 3) := by decide +kernel
theorem dX8_rearranges_49 : decode cX8_rearranges 49 = .ok (.iload_n 2, 1) := by decide +kernel
theorem dX8_rearranges_50 : decode cX8_rearranges 50 = .ok (.ireturn, 1) := by decide +kernel
theorem dX8_isLink_0 : decode cX8_isLink 0 = .ok (.iload_n 1, 1) := by decide +kernel
theorem dX8_isLink_1 : decode cX8_isLink 1 = .ok (.iconst 0, 1) := by decide +kernel
theorem dX8_isLink_2 : decode cX8_isLink 2 = .ok (.aload_n 0, 1) := by decide +kernel
theorem dX8_isLink_3 : decode cX8_isLink 3 = .ok (.getfield 7, 3) := by decide +kernel
theorem dX8_isLink_6 : decode cX8_isLink 6 = .ok (.iconst 1, 1) := by decide +kernel
theorem dX8_isLink_7 : decode cX8_isLink 7 = .ok (.iaload, 1) := by decide +kernel
theorem dX8_isLink_8 : decode cX8_isLink 8 = .ok (.iconst 1, 1) := by decide +kernel
theorem dX8_isLink_9 : decode cX8_isLink 9 = .ok (.isub, 1) := by decide +kernel
theorem dX8_isLink_10 : decode cX8_isLink 10 = .ok (.invokestatic 40, 3) := by decide +kernel
theorem dX8_isLink_13 : decode cX8_isLink 13 = .ok (.ireturn, 1) := by decide +kernel
theorem dX8_hanging_0 : decode cX8_hanging 0 = .ok (.aload_n 0, 1) := by decide +kernel
theorem dX8_hanging_1 : decode cX8_hanging 1 = .ok (.iload_n 1, 1) := by decide +kernel
theorem dX8_hanging_2 : decode cX8_hanging 2 = .ok (.invokevirtual 104, 3) := by decide +kernel
theorem dX8_hanging_5 : decode cX8_hanging 5 = .ok (.istore_n 2, 1) := by decide +kernel
theorem dX8_hanging_6 : decode cX8_hanging 6 = .ok (.iconst 0, 1) := by decide +kernel
theorem dX8_hanging_7 : decode cX8_hanging 7 = .ok (.istore_n 3, 1) := by decide +kernel
theorem dX8_hanging_8 : decode cX8_hanging 8 = .ok (.iconst 0, 1) := by decide +kernel
theorem dX8_hanging_9 : decode cX8_hanging 9 = .ok (.istore 4, 2) := by decide +kernel
theorem dX8_hanging_11 : decode cX8_hanging 11 = .ok (.iload 4, 2) := by decide +kernel
theorem dX8_hanging_13 : decode cX8_hanging 13 = .ok (.aload_n 0, 1) := by decide +kernel
theorem dX8_hanging_14 : decode cX8_hanging 14 = .ok (.getfield 7, 3) := by decide +kernel
theorem dX8_hanging_17 : decode cX8_hanging 17 = .ok (.iconst 1, 1) := by decide +kernel
theorem dX8_hanging_18 : decode cX8_hanging 18 = .ok (.iaload, 1) := by decide +kernel
theorem dX8_hanging_19 : decode cX8_hanging 19 = .ok (.if_icmp .ge 46, 3) := by decide +kernel
theorem dX8_hanging_22 : decode cX8_hanging 22 = .ok (.iload_n 3, 1) := by decide +kernel
theorem dX8_hanging_23 : decode cX8_hanging 23 = .ok (.iload_n 1, 1) := by decide +kernel
theorem dX8_hanging_24 : decode cX8_hanging 24 = .ok (.iload 4, 2) := by decide +kernel
theorem dX8_hanging_26 : decode cX8_hanging 26 = .ok (.invokestatic 94, 3) := by decide +kernel
theorem dX8_hanging_29 : decode cX8_hanging 29 = .ok (.ifCond .eq 27, 3) := by decide +kernel
theorem dX8_hanging_32 : decode cX8_hanging 32 = .ok (.iload_n 2, 1) := by decide +kernel
theorem dX8_hanging_33 : decode cX8_hanging 33 = .ok (.aload_n 0, 1) := by decide +kernel
theorem dX8_hanging_34 : decode cX8_hanging 34 = .ok (.getfield 7, 3) := by decide +kernel
theorem dX8_hanging_37 : decode cX8_hanging 37 = .ok (.bipush 16, 2) := by decide +kernel
theorem dX8_hanging_39 : decode cX8_hanging 39 = .ok (.iload 4, 2) := by decide +kernel
theorem dX8_hanging_41 : decode cX8_hanging 41 = .ok (.iadd, 1) := by decide +kernel
theorem dX8_hanging_42 : decode cX8_hanging 42 = .ok (.iaload, 1) := by decide +kernel
theorem dX8_hanging_43 : decode cX8_hanging 43 = .ok (.invokestatic 94, 3) := by decide +kernel
theorem dX8_hanging_46 : decode cX8_hanging 46 = .ok (.ifCond .eq 10, 3) := by decide +kernel
theorem dX8_hanging_49 : decode cX8_hanging 49 = .ok (.iconst 1, 1) := by decide +kernel
theorem dX8_hanging_50 : decode cX8_hanging 50 = .ok (.iload 4, 2) := by decide +kernel
theorem dX8_hanging_52 : decode cX8_hanging 52 = .ok (.ishl, 1) := by decide +kernel
theorem dX8_hanging_53 : decode cX8_hanging 53 = .ok (.goto 4, 3) := by decide +kernel
theorem dX8_hanging_56 : decode cX8_hanging 56 = .ok (.iconst 0, 1) := by decide +kernel
theorem dX8_hanging_57 : decode cX8_hanging 57 = .ok (.ior, 1) := by decide +kernel
theorem dX8_hanging_58 : decode cX8_hanging 58 = .ok (.istore_n 3, 1) := by decide +kernel
theorem dX8_hanging_59 : decode cX8_hanging 59 = .ok (.iinc 4 1, 3) := by decide +kernel
theorem dX8_hanging_62 : decode cX8_hanging 62 = .ok (.goto (-51), 3) := by decide +kernel
theorem dX8_hanging_65 : decode cX8_hanging 65 = .ok (.iload_n 3, 1) := by decide +kernel
theorem dX8_hanging_66 : decode cX8_hanging 66 = .ok (.ireturn, 1) := by decide +kernel
theorem dX8_cuts_0 : decode cX8_cuts 0 = .ok (.aload_n 0, 1) := by decide +kernel
theorem dX8_cuts_1 : decode cX8_cuts 1 = .ok (.iconst 0, 1) := by decide +kernel
theorem dX8_cuts_2 : decode cX8_cuts 2 = .ok (.putfield 36, 3) := by decide +kernel
theorem dX8_cuts_5 : decode cX8_cuts 5 = .ok (.aload_n 0, 1) := by decide +kernel
theorem dX8_cuts_6 : decode cX8_cuts 6 = .ok (.iload_n 1, 1) := by decide +kernel
theorem dX8_cuts_7 : decode cX8_cuts 7 = .ok (.invokevirtual 139, 3) := by decide +kernel
theorem dX8_cuts_10 : decode cX8_cuts 10 = .ok (.ifCond .ne 5, 3) := by decide +kernel
theorem dX8_cuts_13 : decode cX8_cuts 13 = .ok (.iconst (-1), 1) := by decide +kernel
theorem dX8_cuts_14 : decode cX8_cuts 14 = .ok (.ireturn, 1) := by decide +kernel
theorem dX8_cuts_15 : decode cX8_cuts 15 = .ok (.aload_n 0, 1) := by decide +kernel
theorem dX8_cuts_16 : decode cX8_cuts 16 = .ok (.getfield 7, 3) := by decide +kernel
theorem dX8_cuts_19 : decode cX8_cuts 19 = .ok (.bipush 6, 2) := by decide +kernel
theorem dX8_cuts_21 : decode cX8_cuts 21 = .ok (.iaload, 1) := by decide +kernel
theorem dX8_cuts_22 : decode cX8_cuts 22 = .ok (.iload_n 1, 1) := by decide +kernel
theorem dX8_cuts_23 : decode cX8_cuts 23 = .ok (.invokestatic 94, 3) := by decide +kernel
theorem dX8_cuts_26 : decode cX8_cuts 26 = .ok (.ifCond .eq 6, 3) := by decide +kernel
theorem dX8_cuts_29 : decode cX8_cuts 29 = .ok (.bipush (-2), 2) := by decide +kernel
theorem dX8_cuts_31 : decode cX8_cuts 31 = .ok (.ireturn, 1) := by decide +kernel
theorem dX8_cuts_32 : decode cX8_cuts 32 = .ok (.aload_n 0, 1) := by decide +kernel
theorem dX8_cuts_33 : decode cX8_cuts 33 = .ok (.invokevirtual 91, 3) := by decide +kernel
theorem dX8_cuts_36 : decode cX8_cuts 36 = .ok (.aload_n 0, 1) := by decide +kernel
theorem dX8_cuts_37 : decode cX8_cuts 37 = .ok (.getfield 7, 3) := by decide +kernel
theorem dX8_cuts_40 : decode cX8_cuts 40 = .ok (.bipush 6, 2) := by decide +kernel
theorem dX8_cuts_42 : decode cX8_cuts 42 = .ok (.dup2, 1) := by decide +kernel
theorem dX8_cuts_43 : decode cX8_cuts 43 = .ok (.iaload, 1) := by decide +kernel
theorem dX8_cuts_44 : decode cX8_cuts 44 = .ok (.iconst 1, 1) := by decide +kernel
theorem dX8_cuts_45 : decode cX8_cuts 45 = .ok (.iload_n 1, 1) := by decide +kernel
theorem dX8_cuts_46 : decode cX8_cuts 46 = .ok (.ishl, 1) := by decide +kernel
theorem dX8_cuts_47 : decode cX8_cuts 47 = .ok (.ior, 1) := by decide +kernel
theorem dX8_cuts_48 : decode cX8_cuts 48 = .ok (.iastore, 1) := by decide +kernel
theorem dX8_cuts_49 : decode cX8_cuts 49 = .ok (.aload_n 0, 1) := by decide +kernel
theorem dX8_cuts_50 : decode cX8_cuts 50 = .ok (.getfield 7, 3) := by decide +kernel
theorem dX8_cuts_53 : decode cX8_cuts 53 = .ok (.iconst 5, 1) := by decide +kernel
theorem dX8_cuts_54 : decode cX8_cuts 54 = .ok (.iaload, 1) := by decide +kernel
theorem dX8_cuts_55 : decode cX8_cuts 55 = .ok (.iload_n 1, 1) := by decide +kernel
theorem dX8_cuts_56 : decode cX8_cuts 56 = .ok (.invokestatic 94, 3) := by decide +kernel
theorem dX8_cuts_59 : decode cX8_cuts 59 = .ok (.ifCond .ne 5, 3) := by decide +kernel
theorem dX8_cuts_62 : decode cX8_cuts 62 = .ok (.iconst 0, 1) := by decide +kernel
theorem dX8_cuts_63 : decode cX8_cuts 63 = .ok (.ireturn, 1) := by decide +kernel
theorem dX8_cuts_64 : decode cX8_cuts 64 = .ok (.iconst 0, 1) := by decide +kernel
theorem dX8_cuts_65 : decode cX8_cuts 65 = .ok (.istore_n 2, 1) := by decide +kernel
theorem dX8_cuts_66 : decode cX8_cuts 66 = .ok (.aload_n 0, 1) := by decide +kernel
theorem dX8_cuts_67 : decode cX8_cuts 67 = .ok (.getfield 7, 3) := by decide +kernel
theorem dX8_cuts_70 : decode cX8_cuts 70 = .ok (.iconst 5, 1) := by decide +kernel
theorem dX8_cuts_71 : decode cX8_cuts 71 = .ok (.aload_n 0, 1) := by decide +kernel
theorem dX8_cuts_72 : decode cX8_cuts 72 = .ok (.aload_n 0, 1) := by decide +kernel
theorem dX8_cuts_73 : decode cX8_cuts 73 = .ok (.getfield 7, 3) := by decide +kernel
theorem dX8_cuts_76 : decode cX8_cuts 76 = .ok (.iconst 5, 1) := by decide +kernel
theorem dX8_cuts_77 : decode cX8_cuts 77 = .ok (.iaload, 1) := by decide +kernel
theorem dX8_cuts_78 : decode cX8_cuts 78 = .ok (.iconst 1, 1) := by decide +kernel
theorem dX8_cuts_79 : decode cX8_cuts 79 = .ok (.iload_n 1, 1) := by decide +kernel
theorem dX8_cuts_80 : decode cX8_cuts 80 = .ok (.ishl, 1) := by decide +kernel
theorem dX8_cuts_81 : decode cX8_cuts 81 = .ok (.iconst (-1), 1) := by decide +kernel
theorem dX8_cuts_82 : decode cX8_cuts 82 = .ok (.ixor, 1) := by decide +kernel
theorem dX8_cuts_83 : decode cX8_cuts 83 = .ok (.iand, 1) := by decide +kernel
theorem dX8_cuts_84 : decode cX8_cuts 84 = .ok (.invokevirtual 142, 3) := by decide +kernel
theorem dX8_cuts_87 : decode cX8_cuts 87 = .ok (.iastore, 1) := by decide +kernel
theorem dX8_cuts_88 : decode cX8_cuts 88 = .ok (.iconst 0, 1) := by decide +kernel
theorem dX8_cuts_89 : decode cX8_cuts 89 = .ok (.istore_n 3, 1) := by decide +kernel
theorem dX8_cuts_90 : decode cX8_cuts 90 = .ok (.iload_n 3, 1) := by decide +kernel
theorem dX8_cuts_91 : decode cX8_cuts 91 = .ok (.aload_n 0, 1) := by decide +kernel
theorem dX8_cuts_92 : decode cX8_cuts 92 = .ok (.getfield 7, 3) := by decide +kernel
theorem dX8_cuts_95 : decode cX8_cuts 95 = .ok (.iconst 0, 1) := by decide +kernel
theorem dX8_cuts_96 : decode cX8_cuts 96 = .ok (.iaload, 1) := by decide +kernel
theorem dX8_cuts_97 : decode cX8_cuts 97 = .ok (.if_icmp .ge 126, 3) := by decide +kernel
theorem dX8_cuts_100 : decode cX8_cuts 100 = .ok (.aload_n 0, 1) := by decide +kernel
theorem dX8_cuts_101 : decode cX8_cuts 101 = .ok (.aload_n 0, 1) := by decide +kernel
theorem dX8_cuts_102 : decode cX8_cuts 102 = .ok (.getfield 7, 3) := by decide +kernel
theorem dX8_cuts_105 : decode cX8_cuts 105 = .ok (.iconst 5, 1) := by decide +kernel
theorem dX8_cuts_106 : decode cX8_cuts 106 = .ok (.iaload, 1) := by decide +kernel
theorem dX8_cuts_107 : decode cX8_cuts 107 = .ok (.invokevirtual 104, 3) := by decide +kernel
theorem dX8_cuts_110 : decode cX8_cuts 110 = .ok (.istore 4, 2) := by decide +kernel
theorem dX8_cuts_112 : decode cX8_cuts 112 = .ok (.aload_n 0, 1) := by decide +kernel
theorem dX8_cuts_113 : decode cX8_cuts 113 = .ok (.getfield 7, 3) := by decide +kernel
theorem dX8_cuts_116 : decode cX8_cuts 116 = .ok (.iconst 4, 1) := by decide +kernel
theorem dX8_cuts_117 : decode cX8_cuts 117 = .ok (.iaload, 1) := by decide +kernel
theorem dX8_cuts_118 : decode cX8_cuts 118 = .ok (.iload_n 3, 1) := by decide +kernel
theorem dX8_cuts_119 : decode cX8_cuts 119 = .ok (.invokestatic 94, 3) := by decide +kernel
theorem dX8_cuts_122 : decode cX8_cuts 122 = .ok (.ifCond .eq 95, 3) := by decide +kernel
theorem dX8_cuts_125 : decode cX8_cuts 125 = .ok (.iload 4, 2) := by decide +kernel
theorem dX8_cuts_127 : decode cX8_cuts 127 = .ok (.iload_n 3, 1) := by decide +kernel
theorem dX8_cuts_128 : decode cX8_cuts 128 = .ok (.invokestatic 94, 3) := by decide +kernel
theorem dX8_cuts_131 : decode cX8_cuts 131 = .ok (.ifCond .ne 86, 3) := by decide +kernel
theorem dX8_cuts_134 : decode cX8_cuts 134 = .ok (.aload_n 0, 1) := by decide +kernel
theorem dX8_cuts_135 : decode cX8_cuts 135 = .ok (.iload 4, 2) := by decide +kernel
theorem dX8_cuts_137 : decode cX8_cuts 137 = .ok (.invokevirtual 107, 3) := by decide +kernel
theorem dX8_cuts_140 : decode cX8_cuts 140 = .ok (.aload_n 0, 1) := by decide +kernel
theorem dX8_cuts_141 : decode cX8_cuts 141 = .ok (.getfield 33, 3) := by decide +kernel
theorem dX8_cuts_144 : decode cX8_cuts 144 = .ok (.iload_n 3, 1) := by decide +kernel
theorem dX8_cuts_145 : decode cX8_cuts 145 = .ok (.iaload, 1) := by decide +kernel
theorem dX8_cuts_146 : decode cX8_cuts 146 = .ok (.ldc 97, 2) := by decide +kernel
theorem dX8_cuts_148 : decode cX8_cuts 148 = .ok (.if_icmp .ge 7, 3) := by decide +kernel
theorem dX8_cuts_151 : decode cX8_cuts 151 = .ok (.iconst 1, 1) := by decide +kernel
theorem dX8_cuts_152 : decode cX8_cuts 152 = .ok (.goto 4, 3) := by decide +kernel
theorem dX8_cuts_155 : decode cX8_cuts 155 = .ok (.iconst 0, 1) := by decide +kernel
theorem dX8_cuts_156 : decode cX8_cuts 156 = .ok (.istore 5, 2) := by decide +kernel
theorem dX8_cuts_158 : decode cX8_cuts 158 = .ok (.aload_n 0, 1) := by decide +kernel
theorem dX8_cuts_159 : decode cX8_cuts 159 = .ok (.getfield 7, 3) := by decide +kernel
theorem dX8_cuts_162 : decode cX8_cuts 162 = .ok (.iconst 5, 1) := by decide +kernel
theorem dX8_cuts_163 : decode cX8_cuts 163 = .ok (.dup2, 1) := by decide +kernel
theorem dX8_cuts_164 : decode cX8_cuts 164 = .ok (.iaload, 1) := by decide +kernel
theorem dX8_cuts_165 : decode cX8_cuts 165 = .ok (.iload 5, 2) := by decide +kernel
theorem dX8_cuts_167 : decode cX8_cuts 167 = .ok (.ifCond .eq 11, 3) := by decide +kernel
theorem dX8_cuts_170 : decode cX8_cuts 170 = .ok (.aload_n 0, 1) := by decide +kernel
theorem dX8_cuts_171 : decode cX8_cuts 171 = .ok (.iload_n 3, 1) := by decide +kernel
theorem dX8_cuts_172 : decode cX8_cuts 172 = .ok (.invokevirtual 111, 3) := by decide +kernel
theorem dX8_cuts_175 : decode cX8_cuts 175 = .ok (.goto 4, 3) := by decide +kernel
theorem dX8_cuts_178 : decode cX8_cuts 178 = .ok (.iconst 0, 1) := by decide +kernel
theorem dX8_cuts_179 : decode cX8_cuts 179 = .ok (.ior, 1) := by decide +kernel
theorem dX8_cuts_180 : decode cX8_cuts 180 = .ok (.iastore, 1) := by decide +kernel
theorem dX8_cuts_181 : decode cX8_cuts 181 = .ok (.aload_n 0, 1) := by decide +kernel
theorem dX8_cuts_182 : decode cX8_cuts 182 = .ok (.getfield 7, 3) := by decide +kernel
theorem dX8_cuts_185 : decode cX8_cuts 185 = .ok (.iconst 4, 1) := by decide +kernel
theorem dX8_cuts_186 : decode cX8_cuts 186 = .ok (.dup2, 1) := by decide +kernel
theorem dX8_cuts_187 : decode cX8_cuts 187 = .ok (.iaload, 1) := by decide +kernel
theorem dX8_cuts_188 : decode cX8_cuts 188 = .ok (.iload 5, 2) := by decide +kernel
theorem dX8_cuts_190 : decode cX8_cuts 190 = .ok (.ifCond .eq 7, 3) := by decide +kernel
theorem dX8_cuts_193 : decode cX8_cuts 193 = .ok (.iconst (-1), 1) := by decide +kernel
theorem dX8_cuts_194 : decode cX8_cuts 194 = .ok (.goto 8, 3) := by decide +kernel
theorem dX8_cuts_197 : decode cX8_cuts 197 = .ok (.iconst 1, 1) := by decide +kernel
theorem dX8_cuts_198 : decode cX8_cuts 198 = .ok (.iload_n 3, 1) := by decide +kernel
theorem dX8_cuts_199 : decode cX8_cuts 199 = .ok (.ishl, 1) := by decide +kernel
theorem dX8_cuts_200 : decode cX8_cuts 200 = .ok (.iconst (-1), 1) := by decide +kernel
theorem dX8_cuts_201 : decode cX8_cuts 201 = .ok (.ixor, 1) := by decide +kernel
theorem dX8_cuts_202 : decode cX8_cuts 202 = .ok (.iand, 1) := by decide +kernel
theorem dX8_cuts_203 : decode cX8_cuts 203 = .ok (.iastore, 1) := by decide +kernel
theorem dX8_cuts_204 : decode cX8_cuts 204 = .ok (.iload_n 2, 1) := by decide +kernel
theorem dX8_cuts_205 : decode cX8_cuts 205 = .ok (.iload 5, 2) := by decide +kernel
theorem dX8_cuts_207 : decode cX8_cuts 207 = .ok (.ifCond .eq 7, 3) := by decide +kernel
theorem dX8_cuts_210 : decode cX8_cuts 210 = .ok (.iconst 0, 1) := by decide +kernel
theorem dX8_cuts_211 : decode cX8_cuts 211 = .ok (.goto 4, 3) := by decide +kernel
theorem dX8_cuts_214 : decode cX8_cuts 214 = .ok (.iconst 1, 1) := by decide +kernel
theorem dX8_cuts_215 : decode cX8_cuts 215 = .ok (.iadd, 1) := by decide +kernel
theorem dX8_cuts_216 : decode cX8_cuts 216 = .ok (.istore_n 2, 1) := by decide +kernel
theorem dX8_cuts_217 : decode cX8_cuts 217 = .ok (.iinc 3 1, 3) := by decide +kernel
theorem dX8_cuts_220 : decode cX8_cuts 220 = .ok (.goto (-130), 3) := by decide +kernel
theorem dX8_cuts_223 : decode cX8_cuts 223 = .ok (.aload_n 0, 1) := by decide +kernel
theorem dX8_cuts_224 : decode cX8_cuts 224 = .ok (.getfield 7, 3) := by decide +kernel
theorem dX8_cuts_227 : decode cX8_cuts 227 = .ok (.iconst 5, 1) := by decide +kernel
theorem dX8_cuts_228 : decode cX8_cuts 228 = .ok (.aload_n 0, 1) := by decide +kernel
theorem dX8_cuts_229 : decode cX8_cuts 229 = .ok (.aload_n 0, 1) := by decide +kernel
theorem dX8_cuts_230 : decode cX8_cuts 230 = .ok (.getfield 7, 3) := by decide +kernel
theorem dX8_cuts_233 : decode cX8_cuts 233 = .ok (.iconst 5, 1) := by decide +kernel
theorem dX8_cuts_234 : decode cX8_cuts 234 = .ok (.iaload, 1) := by decide +kernel
theorem dX8_cuts_235 : decode cX8_cuts 235 = .ok (.invokevirtual 136, 3) := by decide +kernel
theorem dX8_cuts_238 : decode cX8_cuts 238 = .ok (.iastore, 1) := by decide +kernel
theorem dX8_cuts_239 : decode cX8_cuts 239 = .ok (.iload_n 2, 1) := by decide +kernel
theorem dX8_cuts_240 : decode cX8_cuts 240 = .ok (.ireturn, 1) := by decide +kernel
theorem dX8_mends_0 : decode cX8_mends 0 = .ok (.aload_n 0, 1) := by decide +kernel
theorem dX8_mends_1 : decode cX8_mends 1 = .ok (.iconst 0, 1) := by decide +kernel
theorem dX8_mends_2 : decode cX8_mends 2 = .ok (.putfield 36, 3) := by decide +kernel
theorem dX8_mends_5 : decode cX8_mends 5 = .ok (.aload_n 0, 1) := by decide +kernel
theorem dX8_mends_6 : decode cX8_mends 6 = .ok (.iload_n 1, 1) := by decide +kernel
theorem dX8_mends_7 : decode cX8_mends 7 = .ok (.invokevirtual 139, 3) := by decide +kernel
theorem dX8_mends_10 : decode cX8_mends 10 = .ok (.ifCond .ne 5, 3) := by decide +kernel
theorem dX8_mends_13 : decode cX8_mends 13 = .ok (.iconst (-1), 1) := by decide +kernel
theorem dX8_mends_14 : decode cX8_mends 14 = .ok (.ireturn, 1) := by decide +kernel
theorem dX8_mends_15 : decode cX8_mends 15 = .ok (.aload_n 0, 1) := by decide +kernel
theorem dX8_mends_16 : decode cX8_mends 16 = .ok (.getfield 7, 3) := by decide +kernel
theorem dX8_mends_19 : decode cX8_mends 19 = .ok (.bipush 6, 2) := by decide +kernel
theorem dX8_mends_21 : decode cX8_mends 21 = .ok (.iaload, 1) := by decide +kernel
theorem dX8_mends_22 : decode cX8_mends 22 = .ok (.iload_n 1, 1) := by decide +kernel
theorem dX8_mends_23 : decode cX8_mends 23 = .ok (.invokestatic 94, 3) := by decide +kernel
theorem dX8_mends_26 : decode cX8_mends 26 = .ok (.ifCond .ne 6, 3) := by decide +kernel
theorem dX8_mends_29 : decode cX8_mends 29 = .ok (.bipush (-2), 2) := by decide +kernel
theorem dX8_mends_31 : decode cX8_mends 31 = .ok (.ireturn, 1) := by decide +kernel
theorem dX8_mends_32 : decode cX8_mends 32 = .ok (.aload_n 0, 1) := by decide +kernel
theorem dX8_mends_33 : decode cX8_mends 33 = .ok (.invokevirtual 91, 3) := by decide +kernel
theorem dX8_mends_36 : decode cX8_mends 36 = .ok (.aload_n 0, 1) := by decide +kernel
theorem dX8_mends_37 : decode cX8_mends 37 = .ok (.getfield 7, 3) := by decide +kernel
theorem dX8_mends_40 : decode cX8_mends 40 = .ok (.bipush 6, 2) := by decide +kernel
theorem dX8_mends_42 : decode cX8_mends 42 = .ok (.dup2, 1) := by decide +kernel
theorem dX8_mends_43 : decode cX8_mends 43 = .ok (.iaload, 1) := by decide +kernel
theorem dX8_mends_44 : decode cX8_mends 44 = .ok (.iconst 1, 1) := by decide +kernel
theorem dX8_mends_45 : decode cX8_mends 45 = .ok (.iload_n 1, 1) := by decide +kernel
theorem dX8_mends_46 : decode cX8_mends 46 = .ok (.ishl, 1) := by decide +kernel
theorem dX8_mends_47 : decode cX8_mends 47 = .ok (.iconst (-1), 1) := by decide +kernel
theorem dX8_mends_48 : decode cX8_mends 48 = .ok (.ixor, 1) := by decide +kernel
theorem dX8_mends_49 : decode cX8_mends 49 = .ok (.iand, 1) := by decide +kernel
theorem dX8_mends_50 : decode cX8_mends 50 = .ok (.iastore, 1) := by decide +kernel
theorem dX8_mends_51 : decode cX8_mends 51 = .ok (.aload_n 0, 1) := by decide +kernel
theorem dX8_mends_52 : decode cX8_mends 52 = .ok (.getfield 7, 3) := by decide +kernel
theorem dX8_mends_55 : decode cX8_mends 55 = .ok (.bipush 6, 2) := by decide +kernel
theorem dX8_mends_57 : decode cX8_mends 57 = .ok (.iaload, 1) := by decide +kernel
theorem dX8_mends_58 : decode cX8_mends 58 = .ok (.invokestatic 145, 3) := by decide +kernel
theorem dX8_mends_61 : decode cX8_mends 61 = .ok (.ireturn, 1) := by decide +kernel
theorem dX8_limits_0 : decode cX8_limits 0 = .ok (.aload_n 0, 1) := by decide +kernel
theorem dX8_limits_1 : decode cX8_limits 1 = .ok (.iconst 0, 1) := by decide +kernel
theorem dX8_limits_2 : decode cX8_limits 2 = .ok (.putfield 36, 3) := by decide +kernel
theorem dX8_limits_5 : decode cX8_limits 5 = .ok (.iload_n 1, 1) := by decide +kernel
theorem dX8_limits_6 : decode cX8_limits 6 = .ok (.iconst 0, 1) := by decide +kernel
theorem dX8_limits_7 : decode cX8_limits 7 = .ok (.bipush 9, 2) := by decide +kernel
theorem dX8_limits_9 : decode cX8_limits 9 = .ok (.invokestatic 40, 3) := by decide +kernel
theorem dX8_limits_12 : decode cX8_limits 12 = .ok (.ifCond .ne 5, 3) := by decide +kernel
theorem dX8_limits_15 : decode cX8_limits 15 = .ok (.iconst (-1), 1) := by decide +kernel
theorem dX8_limits_16 : decode cX8_limits 16 = .ok (.ireturn, 1) := by decide +kernel
theorem dX8_limits_17 : decode cX8_limits 17 = .ok (.aload_n 0, 1) := by decide +kernel
theorem dX8_limits_18 : decode cX8_limits 18 = .ok (.getfield 7, 3) := by decide +kernel
theorem dX8_limits_21 : decode cX8_limits 21 = .ok (.iconst 3, 1) := by decide +kernel
theorem dX8_limits_22 : decode cX8_limits 22 = .ok (.iaload, 1) := by decide +kernel
theorem dX8_limits_23 : decode cX8_limits 23 = .ok (.istore_n 2, 1) := by decide +kernel
theorem dX8_limits_24 : decode cX8_limits 24 = .ok (.iload_n 2, 1) := by decide +kernel
theorem dX8_limits_25 : decode cX8_limits 25 = .ok (.iload_n 1, 1) := by decide +kernel
theorem dX8_limits_26 : decode cX8_limits 26 = .ok (.if_icmp .ne 6, 3) := by decide +kernel
theorem dX8_limits_29 : decode cX8_limits 29 = .ok (.bipush (-2), 2) := by decide +kernel
theorem dX8_limits_31 : decode cX8_limits 31 = .ok (.ireturn, 1) := by decide +kernel
theorem dX8_limits_32 : decode cX8_limits 32 = .ok (.aload_n 0, 1) := by decide +kernel
theorem dX8_limits_33 : decode cX8_limits 33 = .ok (.invokevirtual 91, 3) := by decide +kernel
theorem dX8_limits_36 : decode cX8_limits 36 = .ok (.aload_n 0, 1) := by decide +kernel
theorem dX8_limits_37 : decode cX8_limits 37 = .ok (.getfield 7, 3) := by decide +kernel
theorem dX8_limits_40 : decode cX8_limits 40 = .ok (.iconst 3, 1) := by decide +kernel
theorem dX8_limits_41 : decode cX8_limits 41 = .ok (.iload_n 1, 1) := by decide +kernel
theorem dX8_limits_42 : decode cX8_limits 42 = .ok (.iastore, 1) := by decide +kernel
theorem dX8_limits_43 : decode cX8_limits 43 = .ok (.iload_n 2, 1) := by decide +kernel
theorem dX8_limits_44 : decode cX8_limits 44 = .ok (.ireturn, 1) := by decide +kernel
theorem dX8_undo_0 : decode cX8_undo 0 = .ok (.aload_n 0, 1) := by decide +kernel
theorem dX8_undo_1 : decode cX8_undo 1 = .ok (.iconst 0, 1) := by decide +kernel
theorem dX8_undo_2 : decode cX8_undo 2 = .ok (.putfield 36, 3) := by decide +kernel
theorem dX8_undo_5 : decode cX8_undo 5 = .ok (.aload_n 0, 1) := by decide +kernel
theorem dX8_undo_6 : decode cX8_undo 6 = .ok (.getfield 114, 3) := by decide +kernel
theorem dX8_undo_9 : decode cX8_undo 9 = .ok (.ifCond .ne 6, 3) := by decide +kernel
theorem dX8_undo_12 : decode cX8_undo 12 = .ok (.bipush (-2), 2) := by decide +kernel
theorem dX8_undo_14 : decode cX8_undo 14 = .ok (.ireturn, 1) := by decide +kernel
theorem dX8_undo_15 : decode cX8_undo 15 = .ok (.aload_n 0, 1) := by decide +kernel
theorem dX8_undo_16 : decode cX8_undo 16 = .ok (.dup, 1) := by decide +kernel
theorem dX8_undo_17 : decode cX8_undo 17 = .ok (.getfield 114, 3) := by decide +kernel
theorem dX8_undo_20 : decode cX8_undo 20 = .ok (.iconst 1, 1) := by decide +kernel
theorem dX8_undo_21 : decode cX8_undo 21 = .ok (.isub, 1) := by decide +kernel
theorem dX8_undo_22 : decode cX8_undo 22 = .ok (.putfield 114, 3) := by decide +kernel
theorem dX8_undo_25 : decode cX8_undo 25 = .ok (.iconst 0, 1) := by decide +kernel
theorem dX8_undo_26 : decode cX8_undo 26 = .ok (.istore_n 1, 1) := by decide +kernel
theorem dX8_undo_27 : decode cX8_undo 27 = .ok (.iload_n 1, 1) := by decide +kernel
theorem dX8_undo_28 : decode cX8_undo 28 = .ok (.bipush 52, 2) := by decide +kernel
theorem dX8_undo_30 : decode cX8_undo 30 = .ok (.if_icmp .ge 29, 3) := by decide +kernel
theorem dX8_undo_33 : decode cX8_undo 33 = .ok (.aload_n 0, 1) := by decide +kernel
theorem dX8_undo_34 : decode cX8_undo 34 = .ok (.getfield 7, 3) := by decide +kernel
theorem dX8_undo_37 : decode cX8_undo 37 = .ok (.iload_n 1, 1) := by decide +kernel
theorem dX8_undo_38 : decode cX8_undo 38 = .ok (.aload_n 0, 1) := by decide +kernel
theorem dX8_undo_39 : decode cX8_undo 39 = .ok (.getfield 16, 3) := by decide +kernel
theorem dX8_undo_42 : decode cX8_undo 42 = .ok (.bipush 52, 2) := by decide +kernel
theorem dX8_undo_44 : decode cX8_undo 44 = .ok (.aload_n 0, 1) := by decide +kernel
theorem dX8_undo_45 : decode cX8_undo 45 = .ok (.getfield 114, 3) := by decide +kernel
theorem dX8_undo_48 : decode cX8_undo 48 = .ok (.imul, 1) := by decide +kernel
theorem dX8_undo_49 : decode cX8_undo 49 = .ok (.iload_n 1, 1) := by decide +kernel
theorem dX8_undo_50 : decode cX8_undo 50 = .ok (.iadd, 1) := by decide +kernel
theorem dX8_undo_51 : decode cX8_undo 51 = .ok (.iaload, 1) := by decide +kernel
theorem dX8_undo_52 : decode cX8_undo 52 = .ok (.iastore, 1) := by decide +kernel
theorem dX8_undo_53 : decode cX8_undo 53 = .ok (.iinc 1 1, 3) := by decide +kernel
theorem dX8_undo_56 : decode cX8_undo 56 = .ok (.goto (-29), 3) := by decide +kernel
theorem dX8_undo_59 : decode cX8_undo 59 = .ok (.aload_n 0, 1) := by decide +kernel
theorem dX8_undo_60 : decode cX8_undo 60 = .ok (.getfield 114, 3) := by decide +kernel
theorem dX8_undo_63 : decode cX8_undo 63 = .ok (.ireturn, 1) := by decide +kernel
theorem dX8_load_0 : decode cX8_load 0 = .ok (.aload_n 0, 1) := by decide +kernel
theorem dX8_load_1 : decode cX8_load 1 = .ok (.getfield 7, 3) := by decide +kernel
theorem dX8_load_4 : decode cX8_load 4 = .ok (.iconst 5, 1) := by decide +kernel
theorem dX8_load_5 : decode cX8_load 5 = .ok (.iaload, 1) := by decide +kernel
theorem dX8_load_6 : decode cX8_load 6 = .ok (.iload_n 1, 1) := by decide +kernel
theorem dX8_load_7 : decode cX8_load 7 = .ok (.invokestatic 94, 3) := by decide +kernel
theorem dX8_load_10 : decode cX8_load 10 = .ok (.ifCond .eq 34, 3) := by decide +kernel
theorem dX8_load_13 : decode cX8_load 13 = .ok (.aload_n 0, 1) := by decide +kernel
theorem dX8_load_14 : decode cX8_load 14 = .ok (.getfield 7, 3) := by decide +kernel
theorem dX8_load_17 : decode cX8_load 17 = .ok (.iconst 4, 1) := by decide +kernel
theorem dX8_load_18 : decode cX8_load 18 = .ok (.iaload, 1) := by decide +kernel
theorem dX8_load_19 : decode cX8_load 19 = .ok (.aload_n 0, 1) := by decide +kernel
theorem dX8_load_20 : decode cX8_load 20 = .ok (.aload_n 0, 1) := by decide +kernel
theorem dX8_load_21 : decode cX8_load 21 = .ok (.getfield 7, 3) := by decide +kernel
theorem dX8_load_24 : decode cX8_load 24 = .ok (.iconst 5, 1) := by decide +kernel
theorem dX8_load_25 : decode cX8_load 25 = .ok (.iaload, 1) := by decide +kernel
theorem dX8_load_26 : decode cX8_load 26 = .ok (.iconst 1, 1) := by decide +kernel
theorem dX8_load_27 : decode cX8_load 27 = .ok (.iload_n 1, 1) := by decide +kernel
theorem dX8_load_28 : decode cX8_load 28 = .ok (.ishl, 1) := by decide +kernel
theorem dX8_load_29 : decode cX8_load 29 = .ok (.iconst (-1), 1) := by decide +kernel
theorem dX8_load_30 : decode cX8_load 30 = .ok (.ixor, 1) := by decide +kernel
theorem dX8_load_31 : decode cX8_load 31 = .ok (.iand, 1) := by decide +kernel
theorem dX8_load_32 : decode cX8_load 32 = .ok (.invokevirtual 104, 3) := by decide +kernel
theorem dX8_load_35 : decode cX8_load 35 = .ok (.iconst (-1), 1) := by decide +kernel
theorem dX8_load_36 : decode cX8_load 36 = .ok (.ixor, 1) := by decide +kernel
theorem dX8_load_37 : decode cX8_load 37 = .ok (.iand, 1) := by decide +kernel
theorem dX8_load_38 : decode cX8_load 38 = .ok (.invokestatic 145, 3) := by decide +kernel
theorem dX8_load_41 : decode cX8_load 41 = .ok (.goto 4, 3) := by decide +kernel
theorem dX8_load_44 : decode cX8_load 44 = .ok (.iconst 0, 1) := by decide +kernel
theorem dX8_load_45 : decode cX8_load 45 = .ok (.ireturn, 1) := by decide +kernel
theorem dX8_link_0 : decode cX8_link 0 = .ok (.aload_n 0, 1) := by decide +kernel
theorem dX8_link_1 : decode cX8_link 1 = .ok (.iconst 0, 1) := by decide +kernel
theorem dX8_link_2 : decode cX8_link 2 = .ok (.putfield 36, 3) := by decide +kernel
theorem dX8_link_5 : decode cX8_link 5 = .ok (.aload_n 0, 1) := by decide +kernel
theorem dX8_link_6 : decode cX8_link 6 = .ok (.iload_n 1, 1) := by decide +kernel
theorem dX8_link_7 : decode cX8_link 7 = .ok (.invokevirtual 139, 3) := by decide +kernel
theorem dX8_link_10 : decode cX8_link 10 = .ok (.ifCond .eq 12, 3) := by decide +kernel
theorem dX8_link_13 : decode cX8_link 13 = .ok (.iload_n 2, 1) := by decide +kernel
theorem dX8_link_14 : decode cX8_link 14 = .ok (.iconst 0, 1) := by decide +kernel
theorem dX8_link_15 : decode cX8_link 15 = .ok (.iconst 5, 1) := by decide +kernel
theorem dX8_link_16 : decode cX8_link 16 = .ok (.invokestatic 40, 3) := by decide +kernel
theorem dX8_link_19 : decode cX8_link 19 = .ok (.ifCond .ne 5, 3) := by decide +kernel
theorem dX8_link_22 : decode cX8_link 22 = .ok (.iconst (-1), 1) := by decide +kernel
theorem dX8_link_23 : decode cX8_link 23 = .ok (.ireturn, 1) := by decide +kernel
theorem dX8_link_24 : decode cX8_link 24 = .ok (.iload_n 2, 1) := by decide +kernel
theorem dX8_link_25 : decode cX8_link 25 = .ok (.tableswitch 88 0 4 #[35, 45, 55, 65, 76], 35) := by decide +kernel
theorem dX8_link_60 : decode cX8_link 60 = .ok (.aload_n 0, 1) := by decide +kernel
theorem dX8_link_61 : decode cX8_link 61 = .ok (.getfield 7, 3) := by decide +kernel
theorem dX8_link_64 : decode cX8_link 64 = .ok (.bipush 16, 2) := by decide +kernel
theorem dX8_link_66 : decode cX8_link 66 = .ok (.iload_n 1, 1) := by decide +kernel
theorem dX8_link_67 : decode cX8_link 67 = .ok (.iadd, 1) := by decide +kernel
theorem dX8_link_68 : decode cX8_link 68 = .ok (.iaload, 1) := by decide +kernel
theorem dX8_link_69 : decode cX8_link 69 = .ok (.ireturn, 1) := by decide +kernel
theorem dX8_link_70 : decode cX8_link 70 = .ok (.aload_n 0, 1) := by decide +kernel
theorem dX8_link_71 : decode cX8_link 71 = .ok (.getfield 7, 3) := by decide +kernel
theorem dX8_link_74 : decode cX8_link 74 = .ok (.bipush 28, 2) := by decide +kernel
theorem dX8_link_76 : decode cX8_link 76 = .ok (.iload_n 1, 1) := by decide +kernel
theorem dX8_link_77 : decode cX8_link 77 = .ok (.iadd, 1) := by decide +kernel
theorem dX8_link_78 : decode cX8_link 78 = .ok (.iaload, 1) := by decide +kernel
theorem dX8_link_79 : decode cX8_link 79 = .ok (.ireturn, 1) := by decide +kernel
theorem dX8_link_80 : decode cX8_link 80 = .ok (.aload_n 0, 1) := by decide +kernel
theorem dX8_link_81 : decode cX8_link 81 = .ok (.getfield 7, 3) := by decide +kernel
theorem dX8_link_84 : decode cX8_link 84 = .ok (.bipush 40, 2) := by decide +kernel
theorem dX8_link_86 : decode cX8_link 86 = .ok (.iload_n 1, 1) := by decide +kernel
theorem dX8_link_87 : decode cX8_link 87 = .ok (.iadd, 1) := by decide +kernel
theorem dX8_link_88 : decode cX8_link 88 = .ok (.iaload, 1) := by decide +kernel
theorem dX8_link_89 : decode cX8_link 89 = .ok (.ireturn, 1) := by decide +kernel
theorem dX8_link_90 : decode cX8_link 90 = .ok (.aload_n 0, 1) := by decide +kernel
theorem dX8_link_91 : decode cX8_link 91 = .ok (.getfield 7, 3) := by decide +kernel
theorem dX8_link_94 : decode cX8_link 94 = .ok (.iconst 5, 1) := by decide +kernel
theorem dX8_link_95 : decode cX8_link 95 = .ok (.iaload, 1) := by decide +kernel
theorem dX8_link_96 : decode cX8_link 96 = .ok (.iload_n 1, 1) := by decide +kernel
theorem dX8_link_97 : decode cX8_link 97 = .ok (.ishr, 1) := by decide +kernel
theorem dX8_link_98 : decode cX8_link 98 = .ok (.iconst 1, 1) := by decide +kernel
theorem dX8_link_99 : decode cX8_link 99 = .ok (.iand, 1) := by decide +kernel
theorem dX8_link_100 : decode cX8_link 100 = .ok (.ireturn, 1) := by decide +kernel
theorem dX8_link_101 : decode cX8_link 101 = .ok (.aload_n 0, 1) := by decide +kernel
theorem dX8_link_102 : decode cX8_link 102 = .ok (.getfield 7, 3) := by decide +kernel
theorem dX8_link_105 : decode cX8_link 105 = .ok (.bipush 6, 2) := by decide +kernel
theorem dX8_link_107 : decode cX8_link 107 = .ok (.iaload, 1) := by decide +kernel
theorem dX8_link_108 : decode cX8_link 108 = .ok (.iload_n 1, 1) := by decide +kernel
theorem dX8_link_109 : decode cX8_link 109 = .ok (.ishr, 1) := by decide +kernel
theorem dX8_link_110 : decode cX8_link 110 = .ok (.iconst 1, 1) := by decide +kernel
theorem dX8_link_111 : decode cX8_link 111 = .ok (.iand, 1) := by decide +kernel
theorem dX8_link_112 : decode cX8_link 112 = .ok (.ireturn, 1) := by decide +kernel
theorem dX8_link_113 : decode cX8_link 113 = .ok (.aload_n 0, 1) := by decide +kernel
theorem dX8_link_114 : decode cX8_link 114 = .ok (.iload_n 1, 1) := by decide +kernel
theorem dX8_link_115 : decode cX8_link 115 = .ok (.invokevirtual 148, 3) := by decide +kernel
theorem dX8_link_118 : decode cX8_link 118 = .ok (.ireturn, 1) := by decide +kernel
theorem dX8_farOf_0 : decode cX8_farOf 0 = .ok (.aload_n 0, 1) := by decide +kernel
theorem dX8_farOf_1 : decode cX8_farOf 1 = .ok (.aload_n 0, 1) := by decide +kernel
theorem dX8_farOf_2 : decode cX8_farOf 2 = .ok (.getfield 7, 3) := by decide +kernel
theorem dX8_farOf_5 : decode cX8_farOf 5 = .ok (.iconst 5, 1) := by decide +kernel
theorem dX8_farOf_6 : decode cX8_farOf 6 = .ok (.iaload, 1) := by decide +kernel
theorem dX8_farOf_7 : decode cX8_farOf 7 = .ok (.invokevirtual 104, 3) := by decide +kernel
theorem dX8_farOf_10 : decode cX8_farOf 10 = .ok (.iload_n 1, 1) := by decide +kernel
theorem dX8_farOf_11 : decode cX8_farOf 11 = .ok (.invokestatic 94, 3) := by decide +kernel
theorem dX8_farOf_14 : decode cX8_farOf 14 = .ok (.ifCond .ne 6, 3) := by decide +kernel
theorem dX8_farOf_17 : decode cX8_farOf 17 = .ok (.bipush (-9), 2) := by decide +kernel
theorem dX8_farOf_19 : decode cX8_farOf 19 = .ok (.ireturn, 1) := by decide +kernel
theorem dX8_farOf_20 : decode cX8_farOf 20 = .ok (.iconst 0, 1) := by decide +kernel
theorem dX8_farOf_21 : decode cX8_farOf 21 = .ok (.istore_n 2, 1) := by decide +kernel
theorem dX8_farOf_22 : decode cX8_farOf 22 = .ok (.iconst 0, 1) := by decide +kernel
theorem dX8_farOf_23 : decode cX8_farOf 23 = .ok (.istore_n 3, 1) := by decide +kernel
theorem dX8_farOf_24 : decode cX8_farOf 24 = .ok (.iload_n 3, 1) := by decide +kernel
theorem dX8_farOf_25 : decode cX8_farOf 25 = .ok (.aload_n 0, 1) := by decide +kernel
theorem dX8_farOf_26 : decode cX8_farOf 26 = .ok (.getfield 7, 3) := by decide +kernel
theorem dX8_farOf_29 : decode cX8_farOf 29 = .ok (.iconst 1, 1) := by decide +kernel
theorem dX8_farOf_30 : decode cX8_farOf 30 = .ok (.iaload, 1) := by decide +kernel
theorem dX8_farOf_31 : decode cX8_farOf 31 = .ok (.if_icmp .ge 61, 3) := by decide +kernel
theorem dX8_farOf_34 : decode cX8_farOf 34 = .ok (.iload_n 2, 1) := by decide +kernel
theorem dX8_farOf_35 : decode cX8_farOf 35 = .ok (.aload_n 0, 1) := by decide +kernel
theorem dX8_farOf_36 : decode cX8_farOf 36 = .ok (.getfield 7, 3) := by decide +kernel
theorem dX8_farOf_39 : decode cX8_farOf 39 = .ok (.iconst 5, 1) := by decide +kernel
theorem dX8_farOf_40 : decode cX8_farOf 40 = .ok (.iaload, 1) := by decide +kernel
theorem dX8_farOf_41 : decode cX8_farOf 41 = .ok (.iload_n 3, 1) := by decide +kernel
theorem dX8_farOf_42 : decode cX8_farOf 42 = .ok (.invokestatic 94, 3) := by decide +kernel
theorem dX8_farOf_45 : decode cX8_farOf 45 = .ok (.ifCond .eq 38, 3) := by decide +kernel
theorem dX8_farOf_48 : decode cX8_farOf 48 = .ok (.aload_n 0, 1) := by decide +kernel
theorem dX8_farOf_49 : decode cX8_farOf 49 = .ok (.aload_n 0, 1) := by decide +kernel
theorem dX8_farOf_50 : decode cX8_farOf 50 = .ok (.getfield 7, 3) := by decide +kernel
theorem dX8_farOf_53 : decode cX8_farOf 53 = .ok (.iconst 5, 1) := by decide +kernel
theorem dX8_farOf_54 : decode cX8_farOf 54 = .ok (.iaload, 1) := by decide +kernel
theorem dX8_farOf_55 : decode cX8_farOf 55 = .ok (.iconst 1, 1) := by decide +kernel
theorem dX8_farOf_56 : decode cX8_farOf 56 = .ok (.iload_n 3, 1) := by decide +kernel
theorem dX8_farOf_57 : decode cX8_farOf 57 = .ok (.ishl, 1) := by decide +kernel
theorem dX8_farOf_58 : decode cX8_farOf 58 = .ok (.iconst (-1), 1) := by decide +kernel
theorem dX8_farOf_59 : decode cX8_farOf 59 = .ok (.ixor, 1) := by decide +kernel
theorem dX8_farOf_60 : decode cX8_farOf 60 = .ok (.iand, 1) := by decide +kernel
theorem dX8_farOf_61 : decode cX8_farOf 61 = .ok (.invokevirtual 104, 3) := by decide +kernel
theorem dX8_farOf_64 : decode cX8_farOf 64 = .ok (.iload_n 1, 1) := by decide +kernel
theorem dX8_farOf_65 : decode cX8_farOf 65 = .ok (.invokestatic 94, 3) := by decide +kernel
theorem dX8_farOf_68 : decode cX8_farOf 68 = .ok (.ifCond .ne 15, 3) := by decide +kernel
theorem dX8_farOf_71 : decode cX8_farOf 71 = .ok (.aload_n 0, 1) := by decide +kernel
theorem dX8_farOf_72 : decode cX8_farOf 72 = .ok (.getfield 7, 3) := by decide +kernel
theorem dX8_farOf_75 : decode cX8_farOf 75 = .ok (.bipush 40, 2) := by decide +kernel
theorem dX8_farOf_77 : decode cX8_farOf 77 = .ok (.iload_n 3, 1) := by decide +kernel
theorem dX8_farOf_78 : decode cX8_farOf 78 = .ok (.iadd, 1) := by decide +kernel
theorem dX8_farOf_79 : decode cX8_farOf 79 = .ok (.iaload, 1) := by decide +kernel
theorem dX8_farOf_80 : decode cX8_farOf 80 = .ok (.goto 4, 3) := by decide +kernel
theorem dX8_farOf_83 : decode cX8_farOf 83 = .ok (.iconst 0, 1) := by decide +kernel
theorem dX8_farOf_84 : decode cX8_farOf 84 = .ok (.iadd, 1) := by decide +kernel
theorem dX8_farOf_85 : decode cX8_farOf 85 = .ok (.istore_n 2, 1) := by decide +kernel
theorem dX8_farOf_86 : decode cX8_farOf 86 = .ok (.iinc 3 1, 3) := by decide +kernel
theorem dX8_farOf_89 : decode cX8_farOf 89 = .ok (.goto (-65), 3) := by decide +kernel
theorem dX8_farOf_92 : decode cX8_farOf 92 = .ok (.iload_n 2, 1) := by decide +kernel
theorem dX8_farOf_93 : decode cX8_farOf 93 = .ok (.ireturn, 1) := by decide +kernel
theorem dX8_linksAt_0 : decode cX8_linksAt 0 = .ok (.iconst 0, 1) := by decide +kernel
theorem dX8_linksAt_1 : decode cX8_linksAt 1 = .ok (.istore_n 2, 1) := by decide +kernel
theorem dX8_linksAt_2 : decode cX8_linksAt 2 = .ok (.iconst 0, 1) := by decide +kernel
theorem dX8_linksAt_3 : decode cX8_linksAt 3 = .ok (.istore_n 3, 1) := by decide +kernel
theorem dX8_linksAt_4 : decode cX8_linksAt 4 = .ok (.iload_n 3, 1) := by decide +kernel
theorem dX8_linksAt_5 : decode cX8_linksAt 5 = .ok (.aload_n 0, 1) := by decide +kernel
theorem dX8_linksAt_6 : decode cX8_linksAt 6 = .ok (.getfield 7, 3) := by decide +kernel
theorem dX8_linksAt_9 : decode cX8_linksAt 9 = .ok (.iconst 1, 1) := by decide +kernel
theorem dX8_linksAt_10 : decode cX8_linksAt 10 = .ok (.iaload, 1) := by decide +kernel
theorem dX8_linksAt_11 : decode cX8_linksAt 11 = .ok (.if_icmp .ge 41, 3) := by decide +kernel
theorem dX8_linksAt_14 : decode cX8_linksAt 14 = .ok (.iload_n 2, 1) := by decide +kernel
theorem dX8_linksAt_15 : decode cX8_linksAt 15 = .ok (.aload_n 0, 1) := by decide +kernel
theorem dX8_linksAt_16 : decode cX8_linksAt 16 = .ok (.getfield 7, 3) := by decide +kernel
theorem dX8_linksAt_19 : decode cX8_linksAt 19 = .ok (.iconst 5, 1) := by decide +kernel
theorem dX8_linksAt_20 : decode cX8_linksAt 20 = .ok (.iaload, 1) := by decide +kernel
theorem dX8_linksAt_21 : decode cX8_linksAt 21 = .ok (.iload_n 3, 1) := by decide +kernel
theorem dX8_linksAt_22 : decode cX8_linksAt 22 = .ok (.invokestatic 94, 3) := by decide +kernel
theorem dX8_linksAt_25 : decode cX8_linksAt 25 = .ok (.ifCond .eq 18, 3) := by decide +kernel
theorem dX8_linksAt_28 : decode cX8_linksAt 28 = .ok (.aload_n 0, 1) := by decide +kernel
theorem dX8_linksAt_29 : decode cX8_linksAt 29 = .ok (.iload_n 3, 1) := by decide +kernel
theorem dX8_linksAt_30 : decode cX8_linksAt 30 = .ok (.iload_n 1, 1) := by decide +kernel
theorem dX8_linksAt_31 : decode cX8_linksAt 31 = .ok (.invokevirtual 98, 3) := by decide +kernel
theorem dX8_linksAt_34 : decode cX8_linksAt 34 = .ok (.bipush (-9), 2) := by decide +kernel
theorem dX8_linksAt_36 : decode cX8_linksAt 36 = .ok (.if_icmp .eq 7, 3) := by decide +kernel
theorem dX8_linksAt_39 : decode cX8_linksAt 39 = .ok (.iconst 1, 1) := by decide +kernel
theorem dX8_linksAt_40 : decode cX8_linksAt 40 = .ok (.goto 4, 3) := by decide +kernel
theorem dX8_linksAt_43 : decode cX8_linksAt 43 = .ok (.iconst 0, 1) := by decide +kernel
theorem dX8_linksAt_44 : decode cX8_linksAt 44 = .ok (.iadd, 1) := by decide +kernel
theorem dX8_linksAt_45 : decode cX8_linksAt 45 = .ok (.istore_n 2, 1) := by decide +kernel
theorem dX8_linksAt_46 : decode cX8_linksAt 46 = .ok (.iinc 3 1, 3) := by decide +kernel
theorem dX8_linksAt_49 : decode cX8_linksAt 49 = .ok (.goto (-45), 3) := by decide +kernel
theorem dX8_linksAt_52 : decode cX8_linksAt 52 = .ok (.iload_n 2, 1) := by decide +kernel
theorem dX8_linksAt_53 : decode cX8_linksAt 53 = .ok (.ireturn, 1) := by decide +kernel
theorem dX8_away_0 : decode cX8_away 0 = .ok (.aload_n 0, 1) := by decide +kernel
theorem dX8_away_1 : decode cX8_away 1 = .ok (.getfield 33, 3) := by decide +kernel
theorem dX8_away_4 : decode cX8_away 4 = .ok (.iload_n 1, 1) := by decide +kernel
theorem dX8_away_5 : decode cX8_away 5 = .ok (.iaload, 1) := by decide +kernel
theorem dX8_away_6 : decode cX8_away 6 = .ok (.ldc 97, 2) := by decide +kernel
theorem dX8_away_8 : decode cX8_away 8 = .ok (.if_icmp .lt 8, 3) := by decide +kernel
theorem dX8_away_11 : decode cX8_away 11 = .ok (.bipush (-9), 2) := by decide +kernel
theorem dX8_away_13 : decode cX8_away 13 = .ok (.goto 28, 3) := by decide +kernel
theorem dX8_away_16 : decode cX8_away 16 = .ok (.iload_n 2, 1) := by decide +kernel
theorem dX8_away_17 : decode cX8_away 17 = .ok (.ifCond .ne 15, 3) := by decide +kernel
theorem dX8_away_20 : decode cX8_away 20 = .ok (.aload_n 0, 1) := by decide +kernel
theorem dX8_away_21 : decode cX8_away 21 = .ok (.getfield 33, 3) := by decide +kernel
theorem dX8_away_24 : decode cX8_away 24 = .ok (.iload_n 1, 1) := by decide +kernel
theorem dX8_away_25 : decode cX8_away 25 = .ok (.iaload, 1) := by decide +kernel
theorem dX8_away_26 : decode cX8_away 26 = .ok (.bipush 16, 2) := by decide +kernel
theorem dX8_away_28 : decode cX8_away 28 = .ok (.idiv, 1) := by decide +kernel
theorem dX8_away_29 : decode cX8_away 29 = .ok (.goto 12, 3) := by decide +kernel
theorem dX8_away_32 : decode cX8_away 32 = .ok (.aload_n 0, 1) := by decide +kernel
theorem dX8_away_33 : decode cX8_away 33 = .ok (.getfield 33, 3) := by decide +kernel
theorem dX8_away_36 : decode cX8_away 36 = .ok (.iload_n 1, 1) := by decide +kernel
theorem dX8_away_37 : decode cX8_away 37 = .ok (.iaload, 1) := by decide +kernel
theorem dX8_away_38 : decode cX8_away 38 = .ok (.bipush 16, 2) := by decide +kernel
theorem dX8_away_40 : decode cX8_away 40 = .ok (.irem, 1) := by decide +kernel
theorem dX8_away_41 : decode cX8_away 41 = .ok (.ireturn, 1) := by decide +kernel
theorem dX8_node_0 : decode cX8_node 0 = .ok (.aload_n 0, 1) := by decide +kernel
theorem dX8_node_1 : decode cX8_node 1 = .ok (.iconst 0, 1) := by decide +kernel
theorem dX8_node_2 : decode cX8_node 2 = .ok (.putfield 36, 3) := by decide +kernel
theorem dX8_node_5 : decode cX8_node 5 = .ok (.aload_n 0, 1) := by decide +kernel
theorem dX8_node_6 : decode cX8_node 6 = .ok (.iload_n 1, 1) := by decide +kernel
theorem dX8_node_7 : decode cX8_node 7 = .ok (.invokevirtual 129, 3) := by decide +kernel
theorem dX8_node_10 : decode cX8_node 10 = .ok (.ifCond .eq 13, 3) := by decide +kernel
theorem dX8_node_13 : decode cX8_node 13 = .ok (.iload_n 2, 1) := by decide +kernel
theorem dX8_node_14 : decode cX8_node 14 = .ok (.iconst 0, 1) := by decide +kernel
theorem dX8_node_15 : decode cX8_node 15 = .ok (.bipush 6, 2) := by decide +kernel
theorem dX8_node_17 : decode cX8_node 17 = .ok (.invokestatic 40, 3) := by decide +kernel
theorem dX8_node_20 : decode cX8_node 20 = .ok (.ifCond .ne 5, 3) := by decide +kernel
theorem dX8_node_23 : decode cX8_node 23 = .ok (.iconst (-1), 1) := by decide +kernel
theorem dX8_node_24 : decode cX8_node 24 = .ok (.ireturn, 1) := by decide +kernel
theorem dX8_node_25 : decode cX8_node 25 = .ok (.aload_n 0, 1) := by decide +kernel
theorem dX8_node_26 : decode cX8_node 26 = .ok (.aload_n 0, 1) := by decide +kernel
theorem dX8_node_27 : decode cX8_node 27 = .ok (.aload_n 0, 1) := by decide +kernel
theorem dX8_node_28 : decode cX8_node 28 = .ok (.getfield 7, 3) := by decide +kernel
theorem dX8_node_31 : decode cX8_node 31 = .ok (.iconst 5, 1) := by decide +kernel
theorem dX8_node_32 : decode cX8_node 32 = .ok (.iaload, 1) := by decide +kernel
theorem dX8_node_33 : decode cX8_node 33 = .ok (.invokevirtual 104, 3) := by decide +kernel
theorem dX8_node_36 : decode cX8_node 36 = .ok (.invokevirtual 107, 3) := by decide +kernel
theorem dX8_node_39 : decode cX8_node 39 = .ok (.iload_n 2, 1) := by decide +kernel
theorem dX8_node_40 : decode cX8_node 40 = .ok (.tableswitch 102 0 6 #[44, 69, 84, 102, 102, 90, 96], 44) := by decide +kernel
theorem dX8_node_84 : decode cX8_node 84 = .ok (.iload_n 1, 1) := by decide +kernel
theorem dX8_node_85 : decode cX8_node 85 = .ok (.aload_n 0, 1) := by decide +kernel
theorem dX8_node_86 : decode cX8_node 86 = .ok (.getfield 7, 3) := by decide +kernel
theorem dX8_node_89 : decode cX8_node 89 = .ok (.iconst 2, 1) := by decide +kernel
theorem dX8_node_90 : decode cX8_node 90 = .ok (.iaload, 1) := by decide +kernel
theorem dX8_node_91 : decode cX8_node 91 = .ok (.if_icmp .ne 7, 3) := by decide +kernel
theorem dX8_node_94 : decode cX8_node 94 = .ok (.iconst 2, 1) := by decide +kernel
theorem dX8_node_95 : decode cX8_node 95 = .ok (.goto 13, 3) := by decide +kernel
theorem dX8_node_98 : decode cX8_node 98 = .ok (.aload_n 0, 1) := by decide +kernel
theorem dX8_node_99 : decode cX8_node 99 = .ok (.getfield 7, 3) := by decide +kernel
theorem dX8_node_102 : decode cX8_node 102 = .ok (.iconst 4, 1) := by decide +kernel
theorem dX8_node_103 : decode cX8_node 103 = .ok (.iaload, 1) := by decide +kernel
theorem dX8_node_104 : decode cX8_node 104 = .ok (.iload_n 1, 1) := by decide +kernel
theorem dX8_node_105 : decode cX8_node 105 = .ok (.ishr, 1) := by decide +kernel
theorem dX8_node_106 : decode cX8_node 106 = .ok (.iconst 1, 1) := by decide +kernel
theorem dX8_node_107 : decode cX8_node 107 = .ok (.iand, 1) := by decide +kernel
theorem dX8_node_108 : decode cX8_node 108 = .ok (.ireturn, 1) := by decide +kernel
theorem dX8_node_109 : decode cX8_node 109 = .ok (.aload_n 0, 1) := by decide +kernel
theorem dX8_node_110 : decode cX8_node 110 = .ok (.aload_n 0, 1) := by decide +kernel
theorem dX8_node_111 : decode cX8_node 111 = .ok (.getfield 7, 3) := by decide +kernel
theorem dX8_node_114 : decode cX8_node 114 = .ok (.iconst 5, 1) := by decide +kernel
theorem dX8_node_115 : decode cX8_node 115 = .ok (.iaload, 1) := by decide +kernel
theorem dX8_node_116 : decode cX8_node 116 = .ok (.invokevirtual 104, 3) := by decide +kernel
theorem dX8_node_119 : decode cX8_node 119 = .ok (.iload_n 1, 1) := by decide +kernel
theorem dX8_node_120 : decode cX8_node 120 = .ok (.ishr, 1) := by decide +kernel
theorem dX8_node_121 : decode cX8_node 121 = .ok (.iconst 1, 1) := by decide +kernel
theorem dX8_node_122 : decode cX8_node 122 = .ok (.iand, 1) := by decide +kernel
theorem dX8_node_123 : decode cX8_node 123 = .ok (.ireturn, 1) := by decide +kernel
theorem dX8_node_124 : decode cX8_node 124 = .ok (.aload_n 0, 1) := by decide +kernel
theorem dX8_node_125 : decode cX8_node 125 = .ok (.iload_n 1, 1) := by decide +kernel
theorem dX8_node_126 : decode cX8_node 126 = .ok (.invokevirtual 151, 3) := by decide +kernel
theorem dX8_node_129 : decode cX8_node 129 = .ok (.ireturn, 1) := by decide +kernel
theorem dX8_node_130 : decode cX8_node 130 = .ok (.aload_n 0, 1) := by decide +kernel
theorem dX8_node_131 : decode cX8_node 131 = .ok (.iload_n 1, 1) := by decide +kernel
theorem dX8_node_132 : decode cX8_node 132 = .ok (.invokevirtual 117, 3) := by decide +kernel
theorem dX8_node_135 : decode cX8_node 135 = .ok (.ireturn, 1) := by decide +kernel
theorem dX8_node_136 : decode cX8_node 136 = .ok (.aload_n 0, 1) := by decide +kernel
theorem dX8_node_137 : decode cX8_node 137 = .ok (.iload_n 1, 1) := by decide +kernel
theorem dX8_node_138 : decode cX8_node 138 = .ok (.invokevirtual 154, 3) := by decide +kernel
theorem dX8_node_141 : decode cX8_node 141 = .ok (.ireturn, 1) := by decide +kernel
theorem dX8_node_142 : decode cX8_node 142 = .ok (.aload_n 0, 1) := by decide +kernel
theorem dX8_node_143 : decode cX8_node 143 = .ok (.iload_n 1, 1) := by decide +kernel
theorem dX8_node_144 : decode cX8_node 144 = .ok (.iload_n 2, 1) := by decide +kernel
theorem dX8_node_145 : decode cX8_node 145 = .ok (.iconst 3, 1) := by decide +kernel
theorem dX8_node_146 : decode cX8_node 146 = .ok (.isub, 1) := by decide +kernel
theorem dX8_node_147 : decode cX8_node 147 = .ok (.invokevirtual 157, 3) := by decide +kernel
theorem dX8_node_150 : decode cX8_node 150 = .ok (.ireturn, 1) := by decide +kernel
theorem dX8_way_0 : decode cX8_way 0 = .ok (.aload_n 0, 1) := by decide +kernel
theorem dX8_way_1 : decode cX8_way 1 = .ok (.iconst 0, 1) := by decide +kernel
theorem dX8_way_2 : decode cX8_way 2 = .ok (.putfield 36, 3) := by decide +kernel
theorem dX8_way_5 : decode cX8_way 5 = .ok (.aload_n 0, 1) := by decide +kernel
theorem dX8_way_6 : decode cX8_way 6 = .ok (.iload_n 1, 1) := by decide +kernel
theorem dX8_way_7 : decode cX8_way 7 = .ok (.invokevirtual 129, 3) := by decide +kernel
theorem dX8_way_10 : decode cX8_way 10 = .ok (.ifCond .eq 7, 3) := by decide +kernel
theorem dX8_way_13 : decode cX8_way 13 = .ok (.iload_n 2, 1) := by decide +kernel
theorem dX8_way_14 : decode cX8_way 14 = .ok (.ifCond .ge 5, 3) := by decide +kernel
theorem dX8_way_17 : decode cX8_way 17 = .ok (.iconst (-1), 1) := by decide +kernel
theorem dX8_way_18 : decode cX8_way 18 = .ok (.ireturn, 1) := by decide +kernel
theorem dX8_way_19 : decode cX8_way 19 = .ok (.aload_n 0, 1) := by decide +kernel
theorem dX8_way_20 : decode cX8_way 20 = .ok (.aload_n 0, 1) := by decide +kernel
theorem dX8_way_21 : decode cX8_way 21 = .ok (.aload_n 0, 1) := by decide +kernel
theorem dX8_way_22 : decode cX8_way 22 = .ok (.getfield 7, 3) := by decide +kernel
theorem dX8_way_25 : decode cX8_way 25 = .ok (.iconst 5, 1) := by decide +kernel
theorem dX8_way_26 : decode cX8_way 26 = .ok (.iaload, 1) := by decide +kernel
theorem dX8_way_27 : decode cX8_way 27 = .ok (.invokevirtual 104, 3) := by decide +kernel
theorem dX8_way_30 : decode cX8_way 30 = .ok (.invokevirtual 107, 3) := by decide +kernel
theorem dX8_way_33 : decode cX8_way 33 = .ok (.aload_n 0, 1) := by decide +kernel
theorem dX8_way_34 : decode cX8_way 34 = .ok (.getfield 33, 3) := by decide +kernel
theorem dX8_way_37 : decode cX8_way 37 = .ok (.iload_n 1, 1) := by decide +kernel
theorem dX8_way_38 : decode cX8_way 38 = .ok (.iaload, 1) := by decide +kernel
theorem dX8_way_39 : decode cX8_way 39 = .ok (.ldc 97, 2) := by decide +kernel
theorem dX8_way_41 : decode cX8_way 41 = .ok (.if_icmp .ge 16, 3) := by decide +kernel
theorem dX8_way_44 : decode cX8_way 44 = .ok (.iload_n 2, 1) := by decide +kernel
theorem dX8_way_45 : decode cX8_way 45 = .ok (.aload_n 0, 1) := by decide +kernel
theorem dX8_way_46 : decode cX8_way 46 = .ok (.getfield 33, 3) := by decide +kernel
theorem dX8_way_49 : decode cX8_way 49 = .ok (.iload_n 1, 1) := by decide +kernel
theorem dX8_way_50 : decode cX8_way 50 = .ok (.iaload, 1) := by decide +kernel
theorem dX8_way_51 : decode cX8_way 51 = .ok (.bipush 16, 2) := by decide +kernel
theorem dX8_way_53 : decode cX8_way 53 = .ok (.irem, 1) := by decide +kernel
theorem dX8_way_54 : decode cX8_way 54 = .ok (.if_icmp .lt 6, 3) := by decide +kernel
theorem dX8_way_57 : decode cX8_way 57 = .ok (.bipush (-9), 2) := by decide +kernel
theorem dX8_way_59 : decode cX8_way 59 = .ok (.ireturn, 1) := by decide +kernel
theorem dX8_way_60 : decode cX8_way 60 = .ok (.iload_n 1, 1) := by decide +kernel
theorem dX8_way_61 : decode cX8_way 61 = .ok (.istore_n 3, 1) := by decide +kernel
theorem dX8_way_62 : decode cX8_way 62 = .ok (.iconst 0, 1) := by decide +kernel
theorem dX8_way_63 : decode cX8_way 63 = .ok (.istore 4, 2) := by decide +kernel
theorem dX8_way_65 : decode cX8_way 65 = .ok (.iload 4, 2) := by decide +kernel
theorem dX8_way_67 : decode cX8_way 67 = .ok (.iload_n 2, 1) := by decide +kernel
theorem dX8_way_68 : decode cX8_way 68 = .ok (.if_icmp .ge 20, 3) := by decide +kernel
theorem dX8_way_71 : decode cX8_way 71 = .ok (.aload_n 0, 1) := by decide +kernel
theorem dX8_way_72 : decode cX8_way 72 = .ok (.aload_n 0, 1) := by decide +kernel
theorem dX8_way_73 : decode cX8_way 73 = .ok (.iload_n 3, 1) := by decide +kernel
theorem dX8_way_74 : decode cX8_way 74 = .ok (.invokevirtual 101, 3) := by decide +kernel
theorem dX8_way_77 : decode cX8_way 77 = .ok (.iload_n 3, 1) := by decide +kernel
theorem dX8_way_78 : decode cX8_way 78 = .ok (.invokevirtual 98, 3) := by decide +kernel
theorem dX8_way_81 : decode cX8_way 81 = .ok (.istore_n 3, 1) := by decide +kernel
theorem dX8_way_82 : decode cX8_way 82 = .ok (.iinc 4 1, 3) := by decide +kernel
theorem dX8_way_85 : decode cX8_way 85 = .ok (.goto (-20), 3) := by decide +kernel
theorem dX8_way_88 : decode cX8_way 88 = .ok (.aload_n 0, 1) := by decide +kernel
theorem dX8_way_89 : decode cX8_way 89 = .ok (.iload_n 3, 1) := by decide +kernel
theorem dX8_way_90 : decode cX8_way 90 = .ok (.invokevirtual 101, 3) := by decide +kernel
theorem dX8_way_93 : decode cX8_way 93 = .ok (.ireturn, 1) := by decide +kernel
theorem dX8_least_0 : decode cX8_least 0 = .ok (.iconst 0, 1) := by decide +kernel
theorem dX8_least_1 : decode cX8_least 1 = .ok (.istore_n 1, 1) := by decide +kernel
theorem dX8_least_2 : decode cX8_least 2 = .ok (.aload_n 0, 1) := by decide +kernel
theorem dX8_least_3 : decode cX8_least 3 = .ok (.ldc 97, 2) := by decide +kernel
theorem dX8_least_5 : decode cX8_least 5 = .ok (.putfield 159, 3) := by decide +kernel
theorem dX8_least_8 : decode cX8_least 8 = .ok (.iconst 0, 1) := by decide +kernel
theorem dX8_least_9 : decode cX8_least 9 = .ok (.istore_n 2, 1) := by decide +kernel
theorem dX8_least_10 : decode cX8_least 10 = .ok (.iload_n 2, 1) := by decide +kernel
theorem dX8_least_11 : decode cX8_least 11 = .ok (.iconst 1, 1) := by decide +kernel
theorem dX8_least_12 : decode cX8_least 12 = .ok (.aload_n 0, 1) := by decide +kernel
theorem dX8_least_13 : decode cX8_least 13 = .ok (.getfield 7, 3) := by decide +kernel
theorem dX8_least_16 : decode cX8_least 16 = .ok (.iconst 1, 1) := by decide +kernel
theorem dX8_least_17 : decode cX8_least 17 = .ok (.iaload, 1) := by decide +kernel
theorem dX8_least_18 : decode cX8_least 18 = .ok (.ishl, 1) := by decide +kernel
theorem dX8_least_19 : decode cX8_least 19 = .ok (.if_icmp .ge 59, 3) := by decide +kernel
theorem dX8_least_22 : decode cX8_least 22 = .ok (.aload_n 0, 1) := by decide +kernel
theorem dX8_least_23 : decode cX8_least 23 = .ok (.iload_n 2, 1) := by decide +kernel
theorem dX8_least_24 : decode cX8_least 24 = .ok (.invokevirtual 123, 3) := by decide +kernel
theorem dX8_least_27 : decode cX8_least 27 = .ok (.istore_n 3, 1) := by decide +kernel
theorem dX8_least_28 : decode cX8_least 28 = .ok (.iload_n 2, 1) := by decide +kernel
theorem dX8_least_29 : decode cX8_least 29 = .ok (.aload_n 0, 1) := by decide +kernel
theorem dX8_least_30 : decode cX8_least 30 = .ok (.getfield 7, 3) := by decide +kernel
theorem dX8_least_33 : decode cX8_least 33 = .ok (.bipush 6, 2) := by decide +kernel
theorem dX8_least_35 : decode cX8_least 35 = .ok (.iaload, 1) := by decide +kernel
theorem dX8_least_36 : decode cX8_least 36 = .ok (.iand, 1) := by decide +kernel
theorem dX8_least_37 : decode cX8_least 37 = .ok (.ifCond .ne 35, 3) := by decide +kernel
theorem dX8_least_40 : decode cX8_least 40 = .ok (.iload_n 3, 1) := by decide +kernel
theorem dX8_least_41 : decode cX8_least 41 = .ok (.aload_n 0, 1) := by decide +kernel
theorem dX8_least_42 : decode cX8_least 42 = .ok (.getfield 159, 3) := by decide +kernel
theorem dX8_least_45 : decode cX8_least 45 = .ok (.if_icmp .ge 27, 3) := by decide +kernel
theorem dX8_least_48 : decode cX8_least 48 = .ok (.aload_n 0, 1) := by decide +kernel
theorem dX8_least_49 : decode cX8_least 49 = .ok (.getfield 7, 3) := by decide +kernel
theorem dX8_least_52 : decode cX8_least 52 = .ok (.iconst 4, 1) := by decide +kernel
theorem dX8_least_53 : decode cX8_least 53 = .ok (.iaload, 1) := by decide +kernel
theorem dX8_least_54 : decode cX8_least 54 = .ok (.aload_n 0, 1) := by decide +kernel
theorem dX8_least_55 : decode cX8_least 55 = .ok (.iload_n 2, 1) := by decide +kernel
theorem dX8_least_56 : decode cX8_least 56 = .ok (.invokevirtual 104, 3) := by decide +kernel
theorem dX8_least_59 : decode cX8_least 59 = .ok (.iconst (-1), 1) := by decide +kernel
theorem dX8_least_60 : decode cX8_least 60 = .ok (.ixor, 1) := by decide +kernel
theorem dX8_least_61 : decode cX8_least 61 = .ok (.iand, 1) := by decide +kernel
theorem dX8_least_62 : decode cX8_least 62 = .ok (.ifCond .ne 10, 3) := by decide +kernel
theorem dX8_least_65 : decode cX8_least 65 = .ok (.iload_n 2, 1) := by decide +kernel
theorem dX8_least_66 : decode cX8_least 66 = .ok (.istore_n 1, 1) := by decide +kernel
theorem dX8_least_67 : decode cX8_least 67 = .ok (.aload_n 0, 1) := by decide +kernel
theorem dX8_least_68 : decode cX8_least 68 = .ok (.iload_n 3, 1) := by decide +kernel
theorem dX8_least_69 : decode cX8_least 69 = .ok (.putfield 159, 3) := by decide +kernel
theorem dX8_least_72 : decode cX8_least 72 = .ok (.iinc 2 1, 3) := by decide +kernel
theorem dX8_least_75 : decode cX8_least 75 = .ok (.goto (-65), 3) := by decide +kernel
theorem dX8_least_78 : decode cX8_least 78 = .ok (.iload_n 1, 1) := by decide +kernel
theorem dX8_least_79 : decode cX8_least 79 = .ok (.ireturn, 1) := by decide +kernel
theorem dX8_busiest_0 : decode cX8_busiest 0 = .ok (.bipush (-9), 2) := by decide +kernel
theorem dX8_busiest_2 : decode cX8_busiest 2 = .ok (.istore_n 1, 1) := by decide +kernel
theorem dX8_busiest_3 : decode cX8_busiest 3 = .ok (.iconst 0, 1) := by decide +kernel
theorem dX8_busiest_4 : decode cX8_busiest 4 = .ok (.istore_n 2, 1) := by decide +kernel
theorem dX8_busiest_5 : decode cX8_busiest 5 = .ok (.iload_n 2, 1) := by decide +kernel
theorem dX8_busiest_6 : decode cX8_busiest 6 = .ok (.aload_n 0, 1) := by decide +kernel
theorem dX8_busiest_7 : decode cX8_busiest 7 = .ok (.getfield 7, 3) := by decide +kernel
theorem dX8_busiest_10 : decode cX8_busiest 10 = .ok (.iconst 1, 1) := by decide +kernel
theorem dX8_busiest_11 : decode cX8_busiest 11 = .ok (.iaload, 1) := by decide +kernel
theorem dX8_busiest_12 : decode cX8_busiest 12 = .ok (.if_icmp .ge 47, 3) := by decide +kernel
theorem dX8_busiest_15 : decode cX8_busiest 15 = .ok (.aload_n 0, 1) := by decide +kernel
theorem dX8_busiest_16 : decode cX8_busiest 16 = .ok (.getfield 7, 3) := by decide +kernel
theorem dX8_busiest_19 : decode cX8_busiest 19 = .ok (.iconst 5, 1) := by decide +kernel
theorem dX8_busiest_20 : decode cX8_busiest 20 = .ok (.iaload, 1) := by decide +kernel
theorem dX8_busiest_21 : decode cX8_busiest 21 = .ok (.iload_n 2, 1) := by decide +kernel
theorem dX8_busiest_22 : decode cX8_busiest 22 = .ok (.invokestatic 94, 3) := by decide +kernel
theorem dX8_busiest_25 : decode cX8_busiest 25 = .ok (.ifCond .eq 26, 3) := by decide +kernel
theorem dX8_busiest_28 : decode cX8_busiest 28 = .ok (.iload_n 1, 1) := by decide +kernel
theorem dX8_busiest_29 : decode cX8_busiest 29 = .ok (.bipush (-9), 2) := by decide +kernel
theorem dX8_busiest_31 : decode cX8_busiest 31 = .ok (.if_icmp .eq 16, 3) := by decide +kernel
theorem dX8_busiest_34 : decode cX8_busiest 34 = .ok (.aload_n 0, 1) := by decide +kernel
theorem dX8_busiest_35 : decode cX8_busiest 35 = .ok (.iload_n 2, 1) := by decide +kernel
theorem dX8_busiest_36 : decode cX8_busiest 36 = .ok (.invokevirtual 148, 3) := by decide +kernel
theorem dX8_busiest_39 : decode cX8_busiest 39 = .ok (.aload_n 0, 1) := by decide +kernel
theorem dX8_busiest_40 : decode cX8_busiest 40 = .ok (.iload_n 1, 1) := by decide +kernel
theorem dX8_busiest_41 : decode cX8_busiest 41 = .ok (.invokevirtual 148, 3) := by decide +kernel
theorem dX8_busiest_44 : decode cX8_busiest 44 = .ok (.if_icmp .le 7, 3) := by decide +kernel
theorem dX8_busiest_47 : decode cX8_busiest 47 = .ok (.iload_n 2, 1) := by decide +kernel
theorem dX8_busiest_48 : decode cX8_busiest 48 = .ok (.goto 4, 3) := by decide +kernel
theorem dX8_busiest_51 : decode cX8_busiest 51 = .ok (.iload_n 1, 1) := by decide +kernel
theorem dX8_busiest_52 : decode cX8_busiest 52 = .ok (.istore_n 1, 1) := by decide +kernel
theorem dX8_busiest_53 : decode cX8_busiest 53 = .ok (.iinc 2 1, 3) := by decide +kernel
theorem dX8_busiest_56 : decode cX8_busiest 56 = .ok (.goto (-51), 3) := by decide +kernel
theorem dX8_busiest_59 : decode cX8_busiest 59 = .ok (.iload_n 1, 1) := by decide +kernel
theorem dX8_busiest_60 : decode cX8_busiest 60 = .ok (.ireturn, 1) := by decide +kernel
theorem dX8_needed_0 : decode cX8_needed 0 = .ok (.iconst 1, 1) := by decide +kernel
theorem dX8_needed_1 : decode cX8_needed 1 = .ok (.aload_n 0, 1) := by decide +kernel
theorem dX8_needed_2 : decode cX8_needed 2 = .ok (.getfield 7, 3) := by decide +kernel
theorem dX8_needed_5 : decode cX8_needed 5 = .ok (.iconst 1, 1) := by decide +kernel
theorem dX8_needed_6 : decode cX8_needed 6 = .ok (.iaload, 1) := by decide +kernel
theorem dX8_needed_7 : decode cX8_needed 7 = .ok (.ishl, 1) := by decide +kernel
theorem dX8_needed_8 : decode cX8_needed 8 = .ok (.iconst 1, 1) := by decide +kernel
theorem dX8_needed_9 : decode cX8_needed 9 = .ok (.isub, 1) := by decide +kernel
theorem dX8_needed_10 : decode cX8_needed 10 = .ok (.aload_n 0, 1) := by decide +kernel
theorem dX8_needed_11 : decode cX8_needed 11 = .ok (.getfield 7, 3) := by decide +kernel
theorem dX8_needed_14 : decode cX8_needed 14 = .ok (.bipush 6, 2) := by decide +kernel
theorem dX8_needed_16 : decode cX8_needed 16 = .ok (.iaload, 1) := by decide +kernel
theorem dX8_needed_17 : decode cX8_needed 17 = .ok (.iconst (-1), 1) := by decide +kernel
theorem dX8_needed_18 : decode cX8_needed 18 = .ok (.ixor, 1) := by decide +kernel
theorem dX8_needed_19 : decode cX8_needed 19 = .ok (.iand, 1) := by decide +kernel
theorem dX8_needed_20 : decode cX8_needed 20 = .ok (.istore_n 1, 1) := by decide +kernel
theorem dX8_needed_21 : decode cX8_needed 21 = .ok (.iconst 0, 1) := by decide +kernel
theorem dX8_needed_22 : decode cX8_needed 22 = .ok (.istore_n 2, 1) := by decide +kernel
theorem dX8_needed_23 : decode cX8_needed 23 = .ok (.iconst 0, 1) := by decide +kernel
theorem dX8_needed_24 : decode cX8_needed 24 = .ok (.istore_n 3, 1) := by decide +kernel
theorem dX8_needed_25 : decode cX8_needed 25 = .ok (.iload_n 3, 1) := by decide +kernel
theorem dX8_needed_26 : decode cX8_needed 26 = .ok (.aload_n 0, 1) := by decide +kernel
theorem dX8_needed_27 : decode cX8_needed 27 = .ok (.getfield 7, 3) := by decide +kernel
theorem dX8_needed_30 : decode cX8_needed 30 = .ok (.iconst 1, 1) := by decide +kernel
theorem dX8_needed_31 : decode cX8_needed 31 = .ok (.iaload, 1) := by decide +kernel
theorem dX8_needed_32 : decode cX8_needed 32 = .ok (.if_icmp .ge 55, 3) := by decide +kernel
theorem dX8_needed_35 : decode cX8_needed 35 = .ok (.iload_n 2, 1) := by decide +kernel
theorem dX8_needed_36 : decode cX8_needed 36 = .ok (.aload_n 0, 1) := by decide +kernel
theorem dX8_needed_37 : decode cX8_needed 37 = .ok (.getfield 7, 3) := by decide +kernel
theorem dX8_needed_40 : decode cX8_needed 40 = .ok (.iconst 5, 1) := by decide +kernel
theorem dX8_needed_41 : decode cX8_needed 41 = .ok (.iaload, 1) := by decide +kernel
theorem dX8_needed_42 : decode cX8_needed 42 = .ok (.iload_n 3, 1) := by decide +kernel
theorem dX8_needed_43 : decode cX8_needed 43 = .ok (.invokestatic 94, 3) := by decide +kernel
theorem dX8_needed_46 : decode cX8_needed 46 = .ok (.ifCond .eq 32, 3) := by decide +kernel
theorem dX8_needed_49 : decode cX8_needed 49 = .ok (.aload_n 0, 1) := by decide +kernel
theorem dX8_needed_50 : decode cX8_needed 50 = .ok (.getfield 7, 3) := by decide +kernel
theorem dX8_needed_53 : decode cX8_needed 53 = .ok (.iconst 4, 1) := by decide +kernel
theorem dX8_needed_54 : decode cX8_needed 54 = .ok (.iaload, 1) := by decide +kernel
theorem dX8_needed_55 : decode cX8_needed 55 = .ok (.aload_n 0, 1) := by decide +kernel
theorem dX8_needed_56 : decode cX8_needed 56 = .ok (.iload_n 1, 1) := by decide +kernel
theorem dX8_needed_57 : decode cX8_needed 57 = .ok (.iconst 1, 1) := by decide +kernel
theorem dX8_needed_58 : decode cX8_needed 58 = .ok (.iload_n 3, 1) := by decide +kernel
theorem dX8_needed_59 : decode cX8_needed 59 = .ok (.ishl, 1) := by decide +kernel
theorem dX8_needed_60 : decode cX8_needed 60 = .ok (.iconst (-1), 1) := by decide +kernel
theorem dX8_needed_61 : decode cX8_needed 61 = .ok (.ixor, 1) := by decide +kernel
theorem dX8_needed_62 : decode cX8_needed 62 = .ok (.iand, 1) := by decide +kernel
theorem dX8_needed_63 : decode cX8_needed 63 = .ok (.invokevirtual 104, 3) := by decide +kernel
theorem dX8_needed_66 : decode cX8_needed 66 = .ok (.iconst (-1), 1) := by decide +kernel
theorem dX8_needed_67 : decode cX8_needed 67 = .ok (.ixor, 1) := by decide +kernel
theorem dX8_needed_68 : decode cX8_needed 68 = .ok (.iand, 1) := by decide +kernel
theorem dX8_needed_69 : decode cX8_needed 69 = .ok (.ifCond .eq 9, 3) := by decide +kernel
theorem dX8_needed_72 : decode cX8_needed 72 = .ok (.iconst 1, 1) := by decide +kernel
theorem dX8_needed_73 : decode cX8_needed 73 = .ok (.iload_n 3, 1) := by decide +kernel
theorem dX8_needed_74 : decode cX8_needed 74 = .ok (.ishl, 1) := by decide +kernel
theorem dX8_needed_75 : decode cX8_needed 75 = .ok (.goto 4, 3) := by decide +kernel
theorem dX8_needed_78 : decode cX8_needed 78 = .ok (.iconst 0, 1) := by decide +kernel
theorem dX8_needed_79 : decode cX8_needed 79 = .ok (.ior, 1) := by decide +kernel
theorem dX8_needed_80 : decode cX8_needed 80 = .ok (.istore_n 2, 1) := by decide +kernel
theorem dX8_needed_81 : decode cX8_needed 81 = .ok (.iinc 3 1, 3) := by decide +kernel
theorem dX8_needed_84 : decode cX8_needed 84 = .ok (.goto (-59), 3) := by decide +kernel
theorem dX8_needed_87 : decode cX8_needed 87 = .ok (.iload_n 2, 1) := by decide +kernel
theorem dX8_needed_88 : decode cX8_needed 88 = .ok (.ireturn, 1) := by decide +kernel
theorem dX8_tree_0 : decode cX8_tree 0 = .ok (.aload_n 0, 1) := by decide +kernel
theorem dX8_tree_1 : decode cX8_tree 1 = .ok (.iconst 0, 1) := by decide +kernel
theorem dX8_tree_2 : decode cX8_tree 2 = .ok (.putfield 36, 3) := by decide +kernel
theorem dX8_tree_5 : decode cX8_tree 5 = .ok (.iload_n 1, 1) := by decide +kernel
theorem dX8_tree_6 : decode cX8_tree 6 = .ok (.tableswitch 94 0 6 #[42, 53, 62, 72, 77, 84, 89], 42) := by decide +kernel
theorem dX8_tree_48 : decode cX8_tree 48 = .ok (.aload_n 0, 1) := by decide +kernel
theorem dX8_tree_49 : decode cX8_tree 49 = .ok (.aload_n 0, 1) := by decide +kernel
theorem dX8_tree_50 : decode cX8_tree 50 = .ok (.getfield 7, 3) := by decide +kernel
theorem dX8_tree_53 : decode cX8_tree 53 = .ok (.iconst 5, 1) := by decide +kernel
theorem dX8_tree_54 : decode cX8_tree 54 = .ok (.iaload, 1) := by decide +kernel
theorem dX8_tree_55 : decode cX8_tree 55 = .ok (.invokevirtual 123, 3) := by decide +kernel
theorem dX8_tree_58 : decode cX8_tree 58 = .ok (.ireturn, 1) := by decide +kernel
theorem dX8_tree_59 : decode cX8_tree 59 = .ok (.aload_n 0, 1) := by decide +kernel
theorem dX8_tree_60 : decode cX8_tree 60 = .ok (.aload_n 0, 1) := by decide +kernel
theorem dX8_tree_61 : decode cX8_tree 61 = .ok (.invokevirtual 120, 3) := by decide +kernel
theorem dX8_tree_64 : decode cX8_tree 64 = .ok (.invokevirtual 123, 3) := by decide +kernel
theorem dX8_tree_67 : decode cX8_tree 67 = .ok (.ireturn, 1) := by decide +kernel
theorem dX8_tree_68 : decode cX8_tree 68 = .ok (.aload_n 0, 1) := by decide +kernel
theorem dX8_tree_69 : decode cX8_tree 69 = .ok (.invokevirtual 162, 3) := by decide +kernel
theorem dX8_tree_72 : decode cX8_tree 72 = .ok (.pop, 1) := by decide +kernel
theorem dX8_tree_73 : decode cX8_tree 73 = .ok (.aload_n 0, 1) := by decide +kernel
theorem dX8_tree_74 : decode cX8_tree 74 = .ok (.getfield 159, 3) := by decide +kernel
theorem dX8_tree_77 : decode cX8_tree 77 = .ok (.ireturn, 1) := by decide +kernel
theorem dX8_tree_78 : decode cX8_tree 78 = .ok (.aload_n 0, 1) := by decide +kernel
theorem dX8_tree_79 : decode cX8_tree 79 = .ok (.invokevirtual 162, 3) := by decide +kernel
theorem dX8_tree_82 : decode cX8_tree 82 = .ok (.ireturn, 1) := by decide +kernel
theorem dX8_tree_83 : decode cX8_tree 83 = .ok (.aload_n 0, 1) := by decide +kernel
theorem dX8_tree_84 : decode cX8_tree 84 = .ok (.getfield 7, 3) := by decide +kernel
theorem dX8_tree_87 : decode cX8_tree 87 = .ok (.iconst 5, 1) := by decide +kernel
theorem dX8_tree_88 : decode cX8_tree 88 = .ok (.iaload, 1) := by decide +kernel
theorem dX8_tree_89 : decode cX8_tree 89 = .ok (.ireturn, 1) := by decide +kernel
theorem dX8_tree_90 : decode cX8_tree 90 = .ok (.aload_n 0, 1) := by decide +kernel
theorem dX8_tree_91 : decode cX8_tree 91 = .ok (.invokevirtual 165, 3) := by decide +kernel
theorem dX8_tree_94 : decode cX8_tree 94 = .ok (.ireturn, 1) := by decide +kernel
theorem dX8_tree_95 : decode cX8_tree 95 = .ok (.aload_n 0, 1) := by decide +kernel
theorem dX8_tree_96 : decode cX8_tree 96 = .ok (.invokevirtual 168, 3) := by decide +kernel
theorem dX8_tree_99 : decode cX8_tree 99 = .ok (.ireturn, 1) := by decide +kernel
theorem dX8_tree_100 : decode cX8_tree 100 = .ok (.iconst (-1), 1) := by decide +kernel
theorem dX8_tree_101 : decode cX8_tree 101 = .ok (.ireturn, 1) := by decide +kernel
theorem dX8_sees_0 : decode cX8_sees 0 = .ok (.aload_n 0, 1) := by decide +kernel
theorem dX8_sees_1 : decode cX8_sees 1 = .ok (.iconst 0, 1) := by decide +kernel
theorem dX8_sees_2 : decode cX8_sees 2 = .ok (.putfield 36, 3) := by decide +kernel
theorem dX8_sees_5 : decode cX8_sees 5 = .ok (.iload_n 1, 1) := by decide +kernel
theorem dX8_sees_6 : decode cX8_sees 6 = .ok (.iconst 0, 1) := by decide +kernel
theorem dX8_sees_7 : decode cX8_sees 7 = .ok (.iconst 1, 1) := by decide +kernel
theorem dX8_sees_8 : decode cX8_sees 8 = .ok (.invokestatic 40, 3) := by decide +kernel
theorem dX8_sees_11 : decode cX8_sees 11 = .ok (.ifCond .eq 19, 3) := by decide +kernel
theorem dX8_sees_14 : decode cX8_sees 14 = .ok (.iload_n 2, 1) := by decide +kernel
theorem dX8_sees_15 : decode cX8_sees 15 = .ok (.bipush (-9), 2) := by decide +kernel
theorem dX8_sees_17 : decode cX8_sees 17 = .ok (.if_icmp .eq 15, 3) := by decide +kernel
theorem dX8_sees_20 : decode cX8_sees 20 = .ok (.iload_n 2, 1) := by decide +kernel
theorem dX8_sees_21 : decode cX8_sees 21 = .ok (.iconst 0, 1) := by decide +kernel
theorem dX8_sees_22 : decode cX8_sees 22 = .ok (.bipush 99, 2) := by decide +kernel
theorem dX8_sees_24 : decode cX8_sees 24 = .ok (.invokestatic 40, 3) := by decide +kernel
theorem dX8_sees_27 : decode cX8_sees 27 = .ok (.ifCond .ne 5, 3) := by decide +kernel
theorem dX8_sees_30 : decode cX8_sees 30 = .ok (.iconst (-1), 1) := by decide +kernel
theorem dX8_sees_31 : decode cX8_sees 31 = .ok (.ireturn, 1) := by decide +kernel
theorem dX8_sees_32 : decode cX8_sees 32 = .ok (.aload_n 0, 1) := by decide +kernel
theorem dX8_sees_33 : decode cX8_sees 33 = .ok (.getfield 171, 3) := by decide +kernel
theorem dX8_sees_36 : decode cX8_sees 36 = .ok (.bipush 6, 2) := by decide +kernel
theorem dX8_sees_38 : decode cX8_sees 38 = .ok (.if_icmp .ne 6, 3) := by decide +kernel
theorem dX8_sees_41 : decode cX8_sees 41 = .ok (.bipush (-3), 2) := by decide +kernel
theorem dX8_sees_43 : decode cX8_sees 43 = .ok (.ireturn, 1) := by decide +kernel
theorem dX8_sees_44 : decode cX8_sees 44 = .ok (.aload_n 0, 1) := by decide +kernel
theorem dX8_sees_45 : decode cX8_sees 45 = .ok (.getfield 26, 3) := by decide +kernel
theorem dX8_sees_48 : decode cX8_sees 48 = .ok (.iconst 2, 1) := by decide +kernel
theorem dX8_sees_49 : decode cX8_sees 49 = .ok (.aload_n 0, 1) := by decide +kernel
theorem dX8_sees_50 : decode cX8_sees 50 = .ok (.getfield 171, 3) := by decide +kernel
theorem dX8_sees_53 : decode cX8_sees 53 = .ok (.imul, 1) := by decide +kernel
theorem dX8_sees_54 : decode cX8_sees 54 = .ok (.iload_n 1, 1) := by decide +kernel
theorem dX8_sees_55 : decode cX8_sees 55 = .ok (.iastore, 1) := by decide +kernel
theorem dX8_sees_56 : decode cX8_sees 56 = .ok (.aload_n 0, 1) := by decide +kernel
theorem dX8_sees_57 : decode cX8_sees 57 = .ok (.getfield 26, 3) := by decide +kernel
theorem dX8_sees_60 : decode cX8_sees 60 = .ok (.iconst 2, 1) := by decide +kernel
theorem dX8_sees_61 : decode cX8_sees 61 = .ok (.aload_n 0, 1) := by decide +kernel
theorem dX8_sees_62 : decode cX8_sees 62 = .ok (.getfield 171, 3) := by decide +kernel
theorem dX8_sees_65 : decode cX8_sees 65 = .ok (.imul, 1) := by decide +kernel
theorem dX8_sees_66 : decode cX8_sees 66 = .ok (.iconst 1, 1) := by decide +kernel
theorem dX8_sees_67 : decode cX8_sees 67 = .ok (.iadd, 1) := by decide +kernel
theorem dX8_sees_68 : decode cX8_sees 68 = .ok (.iload_n 2, 1) := by decide +kernel
theorem dX8_sees_69 : decode cX8_sees 69 = .ok (.iastore, 1) := by decide +kernel
theorem dX8_sees_70 : decode cX8_sees 70 = .ok (.aload_n 0, 1) := by decide +kernel
theorem dX8_sees_71 : decode cX8_sees 71 = .ok (.dup, 1) := by decide +kernel
theorem dX8_sees_72 : decode cX8_sees 72 = .ok (.getfield 171, 3) := by decide +kernel
theorem dX8_sees_75 : decode cX8_sees 75 = .ok (.iconst 1, 1) := by decide +kernel
theorem dX8_sees_76 : decode cX8_sees 76 = .ok (.iadd, 1) := by decide +kernel
theorem dX8_sees_77 : decode cX8_sees 77 = .ok (.putfield 171, 3) := by decide +kernel
theorem dX8_sees_80 : decode cX8_sees 80 = .ok (.aload_n 0, 1) := by decide +kernel
theorem dX8_sees_81 : decode cX8_sees 81 = .ok (.getfield 171, 3) := by decide +kernel
theorem dX8_sees_84 : decode cX8_sees 84 = .ok (.ireturn, 1) := by decide +kernel
theorem dX8_forget_0 : decode cX8_forget 0 = .ok (.aload_n 0, 1) := by decide +kernel
theorem dX8_forget_1 : decode cX8_forget 1 = .ok (.iconst 0, 1) := by decide +kernel
theorem dX8_forget_2 : decode cX8_forget 2 = .ok (.putfield 36, 3) := by decide +kernel
theorem dX8_forget_5 : decode cX8_forget 5 = .ok (.aload_n 0, 1) := by decide +kernel
theorem dX8_forget_6 : decode cX8_forget 6 = .ok (.getfield 171, 3) := by decide +kernel
theorem dX8_forget_9 : decode cX8_forget 9 = .ok (.istore_n 1, 1) := by decide +kernel
theorem dX8_forget_10 : decode cX8_forget 10 = .ok (.aload_n 0, 1) := by decide +kernel
theorem dX8_forget_11 : decode cX8_forget 11 = .ok (.iconst 0, 1) := by decide +kernel
theorem dX8_forget_12 : decode cX8_forget 12 = .ok (.putfield 171, 3) := by decide +kernel
theorem dX8_forget_15 : decode cX8_forget 15 = .ok (.iload_n 1, 1) := by decide +kernel
theorem dX8_forget_16 : decode cX8_forget 16 = .ok (.ireturn, 1) := by decide +kernel
theorem dX8_which_0 : decode cX8_which 0 = .ok (.aload_n 0, 1) := by decide +kernel
theorem dX8_which_1 : decode cX8_which 1 = .ok (.iconst 0, 1) := by decide +kernel
theorem dX8_which_2 : decode cX8_which 2 = .ok (.putfield 36, 3) := by decide +kernel
theorem dX8_which_5 : decode cX8_which 5 = .ok (.iload_n 1, 1) := by decide +kernel
theorem dX8_which_6 : decode cX8_which 6 = .ok (.iconst 0, 1) := by decide +kernel
theorem dX8_which_7 : decode cX8_which 7 = .ok (.iconst 1, 1) := by decide +kernel
theorem dX8_which_8 : decode cX8_which 8 = .ok (.invokestatic 40, 3) := by decide +kernel
theorem dX8_which_11 : decode cX8_which 11 = .ok (.ifCond .ne 5, 3) := by decide +kernel
theorem dX8_which_14 : decode cX8_which 14 = .ok (.iconst (-1), 1) := by decide +kernel
theorem dX8_which_15 : decode cX8_which 15 = .ok (.ireturn, 1) := by decide +kernel
theorem dX8_which_16 : decode cX8_which 16 = .ok (.aload_n 0, 1) := by decide +kernel
theorem dX8_which_17 : decode cX8_which 17 = .ok (.aload_n 0, 1) := by decide +kernel
theorem dX8_which_18 : decode cX8_which 18 = .ok (.aload_n 0, 1) := by decide +kernel
theorem dX8_which_19 : decode cX8_which 19 = .ok (.getfield 7, 3) := by decide +kernel
theorem dX8_which_22 : decode cX8_which 22 = .ok (.iconst 5, 1) := by decide +kernel
theorem dX8_which_23 : decode cX8_which 23 = .ok (.iaload, 1) := by decide +kernel
theorem dX8_which_24 : decode cX8_which 24 = .ok (.invokevirtual 104, 3) := by decide +kernel
theorem dX8_which_27 : decode cX8_which 27 = .ok (.invokevirtual 107, 3) := by decide +kernel
theorem dX8_which_30 : decode cX8_which 30 = .ok (.iconst 0, 1) := by decide +kernel
theorem dX8_which_31 : decode cX8_which 31 = .ok (.istore_n 2, 1) := by decide +kernel
theorem dX8_which_32 : decode cX8_which 32 = .ok (.bipush (-9), 2) := by decide +kernel
theorem dX8_which_34 : decode cX8_which 34 = .ok (.istore_n 3, 1) := by decide +kernel
theorem dX8_which_35 : decode cX8_which 35 = .ok (.iconst 0, 1) := by decide +kernel
theorem dX8_which_36 : decode cX8_which 36 = .ok (.istore 4, 2) := by decide +kernel
theorem dX8_which_38 : decode cX8_which 38 = .ok (.iload 4, 2) := by decide +kernel
theorem dX8_which_40 : decode cX8_which 40 = .ok (.aload_n 0, 1) := by decide +kernel
theorem dX8_which_41 : decode cX8_which 41 = .ok (.getfield 7, 3) := by decide +kernel
theorem dX8_which_44 : decode cX8_which 44 = .ok (.iconst 0, 1) := by decide +kernel
theorem dX8_which_45 : decode cX8_which 45 = .ok (.iaload, 1) := by decide +kernel
theorem dX8_which_46 : decode cX8_which 46 = .ok (.if_icmp .ge 129, 3) := by decide +kernel
theorem dX8_which_49 : decode cX8_which 49 = .ok (.iload 4, 2) := by decide +kernel
theorem dX8_which_51 : decode cX8_which 51 = .ok (.aload_n 0, 1) := by decide +kernel
theorem dX8_which_52 : decode cX8_which 52 = .ok (.getfield 7, 3) := by decide +kernel
theorem dX8_which_55 : decode cX8_which 55 = .ok (.iconst 2, 1) := by decide +kernel
theorem dX8_which_56 : decode cX8_which 56 = .ok (.iaload, 1) := by decide +kernel
theorem dX8_which_57 : decode cX8_which 57 = .ok (.if_icmp .eq 21, 3) := by decide +kernel
theorem dX8_which_60 : decode cX8_which 60 = .ok (.aload_n 0, 1) := by decide +kernel
theorem dX8_which_61 : decode cX8_which 61 = .ok (.getfield 7, 3) := by decide +kernel
theorem dX8_which_64 : decode cX8_which 64 = .ok (.iconst 4, 1) := by decide +kernel
theorem dX8_which_65 : decode cX8_which 65 = .ok (.iaload, 1) := by decide +kernel
theorem dX8_which_66 : decode cX8_which 66 = .ok (.iload 4, 2) := by decide +kernel
theorem dX8_which_68 : decode cX8_which 68 = .ok (.invokestatic 94, 3) := by decide +kernel
theorem dX8_which_71 : decode cX8_which 71 = .ok (.ifCond .ne 7, 3) := by decide +kernel
theorem dX8_which_74 : decode cX8_which 74 = .ok (.iconst 1, 1) := by decide +kernel
theorem dX8_which_75 : decode cX8_which 75 = .ok (.goto 4, 3) := by decide +kernel
theorem dX8_which_78 : decode cX8_which 78 = .ok (.iconst 0, 1) := by decide +kernel
theorem dX8_which_79 : decode cX8_which 79 = .ok (.istore 5, 2) := by decide +kernel
theorem dX8_which_81 : decode cX8_which 81 = .ok (.iconst 0, 1) := by decide +kernel
theorem dX8_which_82 : decode cX8_which 82 = .ok (.istore 6, 2) := by decide +kernel
theorem dX8_which_84 : decode cX8_which 84 = .ok (.iload 6, 2) := by decide +kernel
theorem dX8_which_86 : decode cX8_which 86 = .ok (.aload_n 0, 1) := by decide +kernel
theorem dX8_which_87 : decode cX8_which 87 = .ok (.getfield 171, 3) := by decide +kernel
theorem dX8_which_90 : decode cX8_which 90 = .ok (.if_icmp .ge 50, 3) := by decide +kernel
theorem dX8_which_93 : decode cX8_which 93 = .ok (.iload 5, 2) := by decide +kernel
theorem dX8_which_95 : decode cX8_which 95 = .ok (.ifCond .eq 45, 3) := by decide +kernel
theorem dX8_which_98 : decode cX8_which 98 = .ok (.aload_n 0, 1) := by decide +kernel
theorem dX8_which_99 : decode cX8_which 99 = .ok (.iload 4, 2) := by decide +kernel
theorem dX8_which_101 : decode cX8_which 101 = .ok (.aload_n 0, 1) := by decide +kernel
theorem dX8_which_102 : decode cX8_which 102 = .ok (.getfield 26, 3) := by decide +kernel
theorem dX8_which_105 : decode cX8_which 105 = .ok (.iconst 2, 1) := by decide +kernel
theorem dX8_which_106 : decode cX8_which 106 = .ok (.iload 6, 2) := by decide +kernel
theorem dX8_which_108 : decode cX8_which 108 = .ok (.imul, 1) := by decide +kernel
theorem dX8_which_109 : decode cX8_which 109 = .ok (.iaload, 1) := by decide +kernel
theorem dX8_which_110 : decode cX8_which 110 = .ok (.invokevirtual 157, 3) := by decide +kernel
theorem dX8_which_113 : decode cX8_which 113 = .ok (.aload_n 0, 1) := by decide +kernel
theorem dX8_which_114 : decode cX8_which 114 = .ok (.getfield 26, 3) := by decide +kernel
theorem dX8_which_117 : decode cX8_which 117 = .ok (.iconst 2, 1) := by decide +kernel
theorem dX8_which_118 : decode cX8_which 118 = .ok (.iload 6, 2) := by decide +kernel
theorem dX8_which_120 : decode cX8_which 120 = .ok (.imul, 1) := by decide +kernel
theorem dX8_which_121 : decode cX8_which 121 = .ok (.iconst 1, 1) := by decide +kernel
theorem dX8_which_122 : decode cX8_which 122 = .ok (.iadd, 1) := by decide +kernel
theorem dX8_which_123 : decode cX8_which 123 = .ok (.iaload, 1) := by decide +kernel
theorem dX8_which_124 : decode cX8_which 124 = .ok (.if_icmp .ne 7, 3) := by decide +kernel
theorem dX8_which_127 : decode cX8_which 127 = .ok (.iconst 1, 1) := by decide +kernel
theorem dX8_which_128 : decode cX8_which 128 = .ok (.goto 4, 3) := by decide +kernel
theorem dX8_which_131 : decode cX8_which 131 = .ok (.iconst 0, 1) := by decide +kernel
theorem dX8_which_132 : decode cX8_which 132 = .ok (.istore 5, 2) := by decide +kernel
theorem dX8_which_134 : decode cX8_which 134 = .ok (.iinc 6 1, 3) := by decide +kernel
theorem dX8_which_137 : decode cX8_which 137 = .ok (.goto (-53), 3) := by decide +kernel
theorem dX8_which_140 : decode cX8_which 140 = .ok (.iload 5, 2) := by decide +kernel
theorem dX8_which_142 : decode cX8_which 142 = .ok (.ifCond .eq 12, 3) := by decide +kernel
theorem dX8_which_145 : decode cX8_which 145 = .ok (.iload_n 2, 1) := by decide +kernel
theorem dX8_which_146 : decode cX8_which 146 = .ok (.ifCond .ne 8, 3) := by decide +kernel
theorem dX8_which_149 : decode cX8_which 149 = .ok (.iload 4, 2) := by decide +kernel
theorem dX8_which_151 : decode cX8_which 151 = .ok (.goto 4, 3) := by decide +kernel
theorem dX8_which_154 : decode cX8_which 154 = .ok (.iload_n 3, 1) := by decide +kernel
theorem dX8_which_155 : decode cX8_which 155 = .ok (.istore_n 3, 1) := by decide +kernel
theorem dX8_which_156 : decode cX8_which 156 = .ok (.iload_n 2, 1) := by decide +kernel
theorem dX8_which_157 : decode cX8_which 157 = .ok (.iload 5, 2) := by decide +kernel
theorem dX8_which_159 : decode cX8_which 159 = .ok (.ifCond .eq 7, 3) := by decide +kernel
theorem dX8_which_162 : decode cX8_which 162 = .ok (.iconst 1, 1) := by decide +kernel
theorem dX8_which_163 : decode cX8_which 163 = .ok (.goto 4, 3) := by decide +kernel
theorem dX8_which_166 : decode cX8_which 166 = .ok (.iconst 0, 1) := by decide +kernel
theorem dX8_which_167 : decode cX8_which 167 = .ok (.iadd, 1) := by decide +kernel
theorem dX8_which_168 : decode cX8_which 168 = .ok (.istore_n 2, 1) := by decide +kernel
theorem dX8_which_169 : decode cX8_which 169 = .ok (.iinc 4 1, 3) := by decide +kernel
theorem dX8_which_172 : decode cX8_which 172 = .ok (.goto (-134), 3) := by decide +kernel
theorem dX8_which_175 : decode cX8_which 175 = .ok (.iload_n 1, 1) := by decide +kernel
theorem dX8_which_176 : decode cX8_which 176 = .ok (.ifCond .ne 7, 3) := by decide +kernel
theorem dX8_which_179 : decode cX8_which 179 = .ok (.iload_n 2, 1) := by decide +kernel
theorem dX8_which_180 : decode cX8_which 180 = .ok (.goto 4, 3) := by decide +kernel
theorem dX8_which_183 : decode cX8_which 183 = .ok (.iload_n 3, 1) := by decide +kernel
theorem dX8_which_184 : decode cX8_which 184 = .ok (.ireturn, 1) := by decide +kernel
theorem dX8_keep_0 : decode cX8_keep 0 = .ok (.aload_n 0, 1) := by decide +kernel
theorem dX8_keep_1 : decode cX8_keep 1 = .ok (.iconst 0, 1) := by decide +kernel
theorem dX8_keep_2 : decode cX8_keep 2 = .ok (.putfield 36, 3) := by decide +kernel
theorem dX8_keep_5 : decode cX8_keep 5 = .ok (.iload_n 1, 1) := by decide +kernel
theorem dX8_keep_6 : decode cX8_keep 6 = .ok (.iconst 0, 1) := by decide +kernel
theorem dX8_keep_7 : decode cX8_keep 7 = .ok (.iconst 1, 1) := by decide +kernel
theorem dX8_keep_8 : decode cX8_keep 8 = .ok (.invokestatic 40, 3) := by decide +kernel
theorem dX8_keep_11 : decode cX8_keep 11 = .ok (.ifCond .ne 5, 3) := by decide +kernel
theorem dX8_keep_14 : decode cX8_keep 14 = .ok (.iconst (-1), 1) := by decide +kernel
theorem dX8_keep_15 : decode cX8_keep 15 = .ok (.ireturn, 1) := by decide +kernel
theorem dX8_keep_16 : decode cX8_keep 16 = .ok (.iconst 0, 1) := by decide +kernel
theorem dX8_keep_17 : decode cX8_keep 17 = .ok (.istore_n 2, 1) := by decide +kernel
theorem dX8_keep_18 : decode cX8_keep 18 = .ok (.iload_n 2, 1) := by decide +kernel
theorem dX8_keep_19 : decode cX8_keep 19 = .ok (.bipush 52, 2) := by decide +kernel
theorem dX8_keep_21 : decode cX8_keep 21 = .ok (.if_icmp .ge 26, 3) := by decide +kernel
theorem dX8_keep_24 : decode cX8_keep 24 = .ok (.aload_n 0, 1) := by decide +kernel
theorem dX8_keep_25 : decode cX8_keep 25 = .ok (.getfield 19, 3) := by decide +kernel
theorem dX8_keep_28 : decode cX8_keep 28 = .ok (.bipush 52, 2) := by decide +kernel
theorem dX8_keep_30 : decode cX8_keep 30 = .ok (.iload_n 1, 1) := by decide +kernel
theorem dX8_keep_31 : decode cX8_keep 31 = .ok (.imul, 1) := by decide +kernel
theorem dX8_keep_32 : decode cX8_keep 32 = .ok (.iload_n 2, 1) := by decide +kernel
theorem dX8_keep_33 : decode cX8_keep 33 = .ok (.iadd, 1) := by decide +kernel
theorem dX8_keep_34 : decode cX8_keep 34 = .ok (.aload_n 0, 1) := by decide +kernel
theorem dX8_keep_35 : decode cX8_keep 35 = .ok (.getfield 7, 3) := by decide +kernel
theorem dX8_keep_38 : decode cX8_keep 38 = .ok (.iload_n 2, 1) := by decide +kernel
theorem dX8_keep_39 : decode cX8_keep 39 = .ok (.iaload, 1) := by decide +kernel
theorem dX8_keep_40 : decode cX8_keep 40 = .ok (.iastore, 1) := by decide +kernel
theorem dX8_keep_41 : decode cX8_keep 41 = .ok (.iinc 2 1, 3) := by decide +kernel
theorem dX8_keep_44 : decode cX8_keep 44 = .ok (.goto (-26), 3) := by decide +kernel
theorem dX8_keep_47 : decode cX8_keep 47 = .ok (.aload_n 0, 1) := by decide +kernel
theorem dX8_keep_48 : decode cX8_keep 48 = .ok (.getfield 22, 3) := by decide +kernel
theorem dX8_keep_51 : decode cX8_keep 51 = .ok (.iload_n 1, 1) := by decide +kernel
theorem dX8_keep_52 : decode cX8_keep 52 = .ok (.iconst 1, 1) := by decide +kernel
theorem dX8_keep_53 : decode cX8_keep 53 = .ok (.bastore, 1) := by decide +kernel
theorem dX8_keep_54 : decode cX8_keep 54 = .ok (.aload_n 0, 1) := by decide +kernel
theorem dX8_keep_55 : decode cX8_keep 55 = .ok (.getfield 7, 3) := by decide +kernel
theorem dX8_keep_58 : decode cX8_keep 58 = .ok (.iconst 4, 1) := by decide +kernel
theorem dX8_keep_59 : decode cX8_keep 59 = .ok (.iaload, 1) := by decide +kernel
theorem dX8_keep_60 : decode cX8_keep 60 = .ok (.invokestatic 145, 3) := by decide +kernel
theorem dX8_keep_63 : decode cX8_keep 63 = .ok (.ireturn, 1) := by decide +kernel
theorem dX8_back_0 : decode cX8_back 0 = .ok (.aload_n 0, 1) := by decide +kernel
theorem dX8_back_1 : decode cX8_back 1 = .ok (.iconst 0, 1) := by decide +kernel
theorem dX8_back_2 : decode cX8_back 2 = .ok (.putfield 36, 3) := by decide +kernel
theorem dX8_back_5 : decode cX8_back 5 = .ok (.iload_n 1, 1) := by decide +kernel
theorem dX8_back_6 : decode cX8_back 6 = .ok (.iconst 0, 1) := by decide +kernel
theorem dX8_back_7 : decode cX8_back 7 = .ok (.iconst 1, 1) := by decide +kernel
theorem dX8_back_8 : decode cX8_back 8 = .ok (.invokestatic 40, 3) := by decide +kernel
theorem dX8_back_11 : decode cX8_back 11 = .ok (.ifCond .ne 5, 3) := by decide +kernel
theorem dX8_back_14 : decode cX8_back 14 = .ok (.iconst (-1), 1) := by decide +kernel
theorem dX8_back_15 : decode cX8_back 15 = .ok (.ireturn, 1) := by decide +kernel
theorem dX8_back_16 : decode cX8_back 16 = .ok (.aload_n 0, 1) := by decide +kernel
theorem dX8_back_17 : decode cX8_back 17 = .ok (.getfield 22, 3) := by decide +kernel
theorem dX8_back_20 : decode cX8_back 20 = .ok (.iload_n 1, 1) := by decide +kernel
theorem dX8_back_21 : decode cX8_back 21 = .ok (.baload, 1) := by decide +kernel
theorem dX8_back_22 : decode cX8_back 22 = .ok (.ifCond .ne 6, 3) := by decide +kernel
theorem dX8_back_25 : decode cX8_back 25 = .ok (.bipush (-2), 2) := by decide +kernel
theorem dX8_back_27 : decode cX8_back 27 = .ok (.ireturn, 1) := by decide +kernel
theorem dX8_back_28 : decode cX8_back 28 = .ok (.iconst 0, 1) := by decide +kernel
theorem dX8_back_29 : decode cX8_back 29 = .ok (.istore_n 2, 1) := by decide +kernel
theorem dX8_back_30 : decode cX8_back 30 = .ok (.iload_n 2, 1) := by decide +kernel
theorem dX8_back_31 : decode cX8_back 31 = .ok (.bipush 52, 2) := by decide +kernel
theorem dX8_back_33 : decode cX8_back 33 = .ok (.if_icmp .ge 26, 3) := by decide +kernel
theorem dX8_back_36 : decode cX8_back 36 = .ok (.aload_n 0, 1) := by decide +kernel
theorem dX8_back_37 : decode cX8_back 37 = .ok (.getfield 7, 3) := by decide +kernel
theorem dX8_back_40 : decode cX8_back 40 = .ok (.iload_n 2, 1) := by decide +kernel
theorem dX8_back_41 : decode cX8_back 41 = .ok (.aload_n 0, 1) := by decide +kernel
theorem dX8_back_42 : decode cX8_back 42 = .ok (.getfield 19, 3) := by decide +kernel
theorem dX8_back_45 : decode cX8_back 45 = .ok (.bipush 52, 2) := by decide +kernel
theorem dX8_back_47 : decode cX8_back 47 = .ok (.iload_n 1, 1) := by decide +kernel
theorem dX8_back_48 : decode cX8_back 48 = .ok (.imul, 1) := by decide +kernel
theorem dX8_back_49 : decode cX8_back 49 = .ok (.iload_n 2, 1) := by decide +kernel
theorem dX8_back_50 : decode cX8_back 50 = .ok (.iadd, 1) := by decide +kernel
theorem dX8_back_51 : decode cX8_back 51 = .ok (.iaload, 1) := by decide +kernel
theorem dX8_back_52 : decode cX8_back 52 = .ok (.iastore, 1) := by decide +kernel
theorem dX8_back_53 : decode cX8_back 53 = .ok (.iinc 2 1, 3) := by decide +kernel
theorem dX8_back_56 : decode cX8_back 56 = .ok (.goto (-26), 3) := by decide +kernel
theorem dX8_back_59 : decode cX8_back 59 = .ok (.aload_n 0, 1) := by decide +kernel
theorem dX8_back_60 : decode cX8_back 60 = .ok (.iconst 0, 1) := by decide +kernel
theorem dX8_back_61 : decode cX8_back 61 = .ok (.putfield 114, 3) := by decide +kernel
theorem dX8_back_64 : decode cX8_back 64 = .ok (.aload_n 0, 1) := by decide +kernel
theorem dX8_back_65 : decode cX8_back 65 = .ok (.getfield 7, 3) := by decide +kernel
theorem dX8_back_68 : decode cX8_back 68 = .ok (.iconst 4, 1) := by decide +kernel
theorem dX8_back_69 : decode cX8_back 69 = .ok (.iaload, 1) := by decide +kernel
theorem dX8_back_70 : decode cX8_back 70 = .ok (.invokestatic 145, 3) := by decide +kernel
theorem dX8_back_73 : decode cX8_back 73 = .ok (.ireturn, 1) := by decide +kernel
theorem dX8_count_0 : decode cX8_count 0 = .ok (.aload_n 0, 1) := by decide +kernel
theorem dX8_count_1 : decode cX8_count 1 = .ok (.iconst 0, 1) := by decide +kernel
theorem dX8_count_2 : decode cX8_count 2 = .ok (.putfield 36, 3) := by decide +kernel
theorem dX8_count_5 : decode cX8_count 5 = .ok (.iload_n 1, 1) := by decide +kernel
theorem dX8_count_6 : decode cX8_count 6 = .ok (.tableswitch 105 0 9 #[54, 54, 54, 54, 61, 71, 79, 90, 95, 100], 54) := by decide +kernel
theorem dX8_count_60 : decode cX8_count 60 = .ok (.aload_n 0, 1) := by decide +kernel
theorem dX8_count_61 : decode cX8_count 61 = .ok (.getfield 7, 3) := by decide +kernel
theorem dX8_count_64 : decode cX8_count 64 = .ok (.iload_n 1, 1) := by decide +kernel
theorem dX8_count_65 : decode cX8_count 65 = .ok (.iaload, 1) := by decide +kernel
theorem dX8_count_66 : decode cX8_count 66 = .ok (.ireturn, 1) := by decide +kernel
theorem dX8_count_67 : decode cX8_count 67 = .ok (.aload_n 0, 1) := by decide +kernel
theorem dX8_count_68 : decode cX8_count 68 = .ok (.getfield 7, 3) := by decide +kernel
theorem dX8_count_71 : decode cX8_count 71 = .ok (.iconst 4, 1) := by decide +kernel
theorem dX8_count_72 : decode cX8_count 72 = .ok (.iaload, 1) := by decide +kernel
theorem dX8_count_73 : decode cX8_count 73 = .ok (.invokestatic 145, 3) := by decide +kernel
theorem dX8_count_76 : decode cX8_count 76 = .ok (.ireturn, 1) := by decide +kernel
theorem dX8_count_77 : decode cX8_count 77 = .ok (.aload_n 0, 1) := by decide +kernel
theorem dX8_count_78 : decode cX8_count 78 = .ok (.getfield 7, 3) := by decide +kernel
theorem dX8_count_81 : decode cX8_count 81 = .ok (.bipush 7, 2) := by decide +kernel
theorem dX8_count_83 : decode cX8_count 83 = .ok (.iaload, 1) := by decide +kernel
theorem dX8_count_84 : decode cX8_count 84 = .ok (.ireturn, 1) := by decide +kernel
theorem dX8_count_85 : decode cX8_count 85 = .ok (.aload_n 0, 1) := by decide +kernel
theorem dX8_count_86 : decode cX8_count 86 = .ok (.getfield 7, 3) := by decide +kernel
theorem dX8_count_89 : decode cX8_count 89 = .ok (.bipush 6, 2) := by decide +kernel
theorem dX8_count_91 : decode cX8_count 91 = .ok (.iaload, 1) := by decide +kernel
theorem dX8_count_92 : decode cX8_count 92 = .ok (.invokestatic 145, 3) := by decide +kernel
theorem dX8_count_95 : decode cX8_count 95 = .ok (.ireturn, 1) := by decide +kernel
theorem dX8_count_96 : decode cX8_count 96 = .ok (.aload_n 0, 1) := by decide +kernel
theorem dX8_count_97 : decode cX8_count 97 = .ok (.getfield 171, 3) := by decide +kernel
theorem dX8_count_100 : decode cX8_count 100 = .ok (.ireturn, 1) := by decide +kernel
theorem dX8_count_101 : decode cX8_count 101 = .ok (.aload_n 0, 1) := by decide +kernel
theorem dX8_count_102 : decode cX8_count 102 = .ok (.getfield 44, 3) := by decide +kernel
theorem dX8_count_105 : decode cX8_count 105 = .ok (.ireturn, 1) := by decide +kernel
theorem dX8_count_106 : decode cX8_count 106 = .ok (.aload_n 0, 1) := by decide +kernel
theorem dX8_count_107 : decode cX8_count 107 = .ok (.getfield 114, 3) := by decide +kernel
theorem dX8_count_110 : decode cX8_count 110 = .ok (.ireturn, 1) := by decide +kernel
theorem dX8_count_111 : decode cX8_count 111 = .ok (.iconst (-1), 1) := by decide +kernel
theorem dX8_count_112 : decode cX8_count 112 = .ok (.ireturn, 1) := by decide +kernel
theorem dL_law_0 : decode cL_law 0 = .ok (.new 7, 3) := by decide +kernel
theorem dL_law_3 : decode cL_law 3 = .ok (.dup, 1) := by decide +kernel
theorem dL_law_4 : decode cL_law 4 = .ok (.invokespecial 9, 3) := by decide +kernel
theorem dL_law_7 : decode cL_law 7 = .ok (.astore_n 1, 1) := by decide +kernel
theorem dL_law_8 : decode cL_law 8 = .ok (.new 10, 3) := by decide +kernel
theorem dL_law_11 : decode cL_law 11 = .ok (.dup, 1) := by decide +kernel
theorem dL_law_12 : decode cL_law 12 = .ok (.invokespecial 12, 3) := by decide +kernel
theorem dL_law_15 : decode cL_law 15 = .ok (.astore_n 2, 1) := by decide +kernel
theorem dL_law_16 : decode cL_law 16 = .ok (.iconst 0, 1) := by decide +kernel
theorem dL_law_17 : decode cL_law 17 = .ok (.istore_n 3, 1) := by decide +kernel
theorem dL_law_18 : decode cL_law 18 = .ok (.iload_n 3, 1) := by decide +kernel
theorem dL_law_19 : decode cL_law 19 = .ok (.aload_n 0, 1) := by decide +kernel
theorem dL_law_20 : decode cL_law 20 = .ok (.arraylength, 1) := by decide +kernel
theorem dL_law_21 : decode cL_law 21 = .ok (.iconst 3, 1) := by decide +kernel
theorem dL_law_22 : decode cL_law 22 = .ok (.isub, 1) := by decide +kernel
theorem dL_law_23 : decode cL_law 23 = .ok (.if_icmp .gt 561, 3) := by decide +kernel
theorem dL_law_26 : decode cL_law 26 = .ok (.aload_n 0, 1) := by decide +kernel
theorem dL_law_27 : decode cL_law 27 = .ok (.iload_n 3, 1) := by decide +kernel
theorem dL_law_28 : decode cL_law 28 = .ok (.iaload, 1) := by decide +kernel
theorem dL_law_29 : decode cL_law 29 = .ok (.bipush 31, 2) := by decide +kernel
theorem dL_law_31 : decode cL_law 31 = .ok (.iand, 1) := by decide +kernel
theorem dL_law_32 : decode cL_law 32 = .ok (.tableswitch 546 0 19 #[96, 119, 132, 145, 168, 191, 204, 227, 250, 273, 286, 319, 352, 385, 408, 441, 454, 477, 500, 523], 96) := by decide +kernel
theorem dL_law_128 : decode cL_law 128 = .ok (.aload_n 1, 1) := by decide +kernel
theorem dL_law_129 : decode cL_law 129 = .ok (.aload_n 0, 1) := by decide +kernel
theorem dL_law_130 : decode cL_law 130 = .ok (.iload_n 3, 1) := by decide +kernel
theorem dL_law_131 : decode cL_law 131 = .ok (.iconst 1, 1) := by decide +kernel
theorem dL_law_132 : decode cL_law 132 = .ok (.iadd, 1) := by decide +kernel
theorem dL_law_133 : decode cL_law 133 = .ok (.iaload, 1) := by decide +kernel
theorem dL_law_134 : decode cL_law 134 = .ok (.invokevirtual 13, 3) := by decide +kernel
theorem dL_law_137 : decode cL_law 137 = .ok (.aload_n 2, 1) := by decide +kernel
theorem dL_law_138 : decode cL_law 138 = .ok (.aload_n 0, 1) := by decide +kernel
theorem dL_law_139 : decode cL_law 139 = .ok (.iload_n 3, 1) := by decide +kernel
theorem dL_law_140 : decode cL_law 140 = .ok (.iconst 1, 1) := by decide +kernel
theorem dL_law_141 : decode cL_law 141 = .ok (.iadd, 1) := by decide +kernel
theorem dL_law_142 : decode cL_law 142 = .ok (.iaload, 1) := by decide +kernel
theorem dL_law_143 : decode cL_law 143 = .ok (.invokevirtual 17, 3) := by decide +kernel
theorem dL_law_146 : decode cL_law 146 = .ok (.if_icmp .eq 432, 3) := by decide +kernel
theorem dL_law_149 : decode cL_law 149 = .ok (.iconst 0, 1) := by decide +kernel
theorem dL_law_150 : decode cL_law 150 = .ok (.ireturn, 1) := by decide +kernel
theorem dL_law_151 : decode cL_law 151 = .ok (.aload_n 1, 1) := by decide +kernel
theorem dL_law_152 : decode cL_law 152 = .ok (.invokevirtual 18, 3) := by decide +kernel
theorem dL_law_155 : decode cL_law 155 = .ok (.aload_n 2, 1) := by decide +kernel
theorem dL_law_156 : decode cL_law 156 = .ok (.invokevirtual 22, 3) := by decide +kernel
theorem dL_law_159 : decode cL_law 159 = .ok (.if_icmp .eq 419, 3) := by decide +kernel
theorem dL_law_162 : decode cL_law 162 = .ok (.iconst 0, 1) := by decide +kernel
theorem dL_law_163 : decode cL_law 163 = .ok (.ireturn, 1) := by decide +kernel
theorem dL_law_164 : decode cL_law 164 = .ok (.aload_n 1, 1) := by decide +kernel
theorem dL_law_165 : decode cL_law 165 = .ok (.invokevirtual 23, 3) := by decide +kernel
theorem dL_law_168 : decode cL_law 168 = .ok (.aload_n 2, 1) := by decide +kernel
theorem dL_law_169 : decode cL_law 169 = .ok (.invokevirtual 26, 3) := by decide +kernel
theorem dL_law_172 : decode cL_law 172 = .ok (.if_icmp .eq 406, 3) := by decide +kernel
theorem dL_law_175 : decode cL_law 175 = .ok (.iconst 0, 1) := by decide +kernel
theorem dL_law_176 : decode cL_law 176 = .ok (.ireturn, 1) := by decide +kernel
theorem dL_law_177 : decode cL_law 177 = .ok (.aload_n 1, 1) := by decide +kernel
theorem dL_law_178 : decode cL_law 178 = .ok (.aload_n 0, 1) := by decide +kernel
theorem dL_law_179 : decode cL_law 179 = .ok (.iload_n 3, 1) := by decide +kernel
theorem dL_law_180 : decode cL_law 180 = .ok (.iconst 1, 1) := by decide +kernel
theorem dL_law_181 : decode cL_law 181 = .ok (.iadd, 1) := by decide +kernel
theorem dL_law_182 : decode cL_law 182 = .ok (.iaload, 1) := by decide +kernel
theorem dL_law_183 : decode cL_law 183 = .ok (.invokevirtual 27, 3) := by decide +kernel
theorem dL_law_186 : decode cL_law 186 = .ok (.aload_n 2, 1) := by decide +kernel
theorem dL_law_187 : decode cL_law 187 = .ok (.aload_n 0, 1) := by decide +kernel
theorem dL_law_188 : decode cL_law 188 = .ok (.iload_n 3, 1) := by decide +kernel
theorem dL_law_189 : decode cL_law 189 = .ok (.iconst 1, 1) := by decide +kernel
theorem dL_law_190 : decode cL_law 190 = .ok (.iadd, 1) := by decide +kernel
theorem dL_law_191 : decode cL_law 191 = .ok (.iaload, 1) := by decide +kernel
theorem dL_law_192 : decode cL_law 192 = .ok (.invokevirtual 30, 3) := by decide +kernel
theorem dL_law_195 : decode cL_law 195 = .ok (.if_icmp .eq 383, 3) := by decide +kernel
theorem dL_law_198 : decode cL_law 198 = .ok (.iconst 0, 1) := by decide +kernel
theorem dL_law_199 : decode cL_law 199 = .ok (.ireturn, 1) := by decide +kernel
theorem dL_law_200 : decode cL_law 200 = .ok (.aload_n 1, 1) := by decide +kernel
theorem dL_law_201 : decode cL_law 201 = .ok (.aload_n 0, 1) := by decide +kernel
theorem dL_law_202 : decode cL_law 202 = .ok (.iload_n 3, 1) := by decide +kernel
theorem dL_law_203 : decode cL_law 203 = .ok (.iconst 1, 1) := by decide +kernel
theorem dL_law_204 : decode cL_law 204 = .ok (.iadd, 1) := by decide +kernel
theorem dL_law_205 : decode cL_law 205 = .ok (.iaload, 1) := by decide +kernel
theorem dL_law_206 : decode cL_law 206 = .ok (.invokevirtual 31, 3) := by decide +kernel
theorem dL_law_209 : decode cL_law 209 = .ok (.aload_n 2, 1) := by decide +kernel
theorem dL_law_210 : decode cL_law 210 = .ok (.aload_n 0, 1) := by decide +kernel
theorem dL_law_211 : decode cL_law 211 = .ok (.iload_n 3, 1) := by decide +kernel
theorem dL_law_212 : decode cL_law 212 = .ok (.iconst 1, 1) := by decide +kernel
theorem dL_law_213 : decode cL_law 213 = .ok (.iadd, 1) := by decide +kernel
theorem dL_law_214 : decode cL_law 214 = .ok (.iaload, 1) := by decide +kernel
theorem dL_law_215 : decode cL_law 215 = .ok (.invokevirtual 34, 3) := by decide +kernel
theorem dL_law_218 : decode cL_law 218 = .ok (.if_icmp .eq 360, 3) := by decide +kernel
theorem dL_law_221 : decode cL_law 221 = .ok (.iconst 0, 1) := by decide +kernel
theorem dL_law_222 : decode cL_law 222 = .ok (.ireturn, 1) := by decide +kernel
theorem dL_law_223 : decode cL_law 223 = .ok (.aload_n 1, 1) := by decide +kernel
theorem dL_law_224 : decode cL_law 224 = .ok (.invokevirtual 35, 3) := by decide +kernel
theorem dL_law_227 : decode cL_law 227 = .ok (.aload_n 2, 1) := by decide +kernel
theorem dL_law_228 : decode cL_law 228 = .ok (.invokevirtual 38, 3) := by decide +kernel
theorem dL_law_231 : decode cL_law 231 = .ok (.if_icmp .eq 347, 3) := by decide +kernel
theorem dL_law_234 : decode cL_law 234 = .ok (.iconst 0, 1) := by decide +kernel
theorem dL_law_235 : decode cL_law 235 = .ok (.ireturn, 1) := by decide +kernel
theorem dL_law_236 : decode cL_law 236 = .ok (.aload_n 1, 1) := by decide +kernel
theorem dL_law_237 : decode cL_law 237 = .ok (.aload_n 0, 1) := by decide +kernel
theorem dL_law_238 : decode cL_law 238 = .ok (.iload_n 3, 1) := by decide +kernel
theorem dL_law_239 : decode cL_law 239 = .ok (.iconst 1, 1) := by decide +kernel
theorem dL_law_240 : decode cL_law 240 = .ok (.iadd, 1) := by decide +kernel
theorem dL_law_241 : decode cL_law 241 = .ok (.iaload, 1) := by decide +kernel
theorem dL_law_242 : decode cL_law 242 = .ok (.invokevirtual 39, 3) := by decide +kernel
theorem dL_law_245 : decode cL_law 245 = .ok (.aload_n 2, 1) := by decide +kernel
theorem dL_law_246 : decode cL_law 246 = .ok (.aload_n 0, 1) := by decide +kernel
theorem dL_law_247 : decode cL_law 247 = .ok (.iload_n 3, 1) := by decide +kernel
theorem dL_law_248 : decode cL_law 248 = .ok (.iconst 1, 1) := by decide +kernel
theorem dL_law_249 : decode cL_law 249 = .ok (.iadd, 1) := by decide +kernel
theorem dL_law_250 : decode cL_law 250 = .ok (.iaload, 1) := by decide +kernel
theorem dL_law_251 : decode cL_law 251 = .ok (.invokevirtual 42, 3) := by decide +kernel
theorem dL_law_254 : decode cL_law 254 = .ok (.if_icmp .eq 324, 3) := by decide +kernel
theorem dL_law_257 : decode cL_law 257 = .ok (.iconst 0, 1) := by decide +kernel
theorem dL_law_258 : decode cL_law 258 = .ok (.ireturn, 1) := by decide +kernel
theorem dL_law_259 : decode cL_law 259 = .ok (.aload_n 1, 1) := by decide +kernel
theorem dL_law_260 : decode cL_law 260 = .ok (.aload_n 0, 1) := by decide +kernel
theorem dL_law_261 : decode cL_law 261 = .ok (.iload_n 3, 1) := by decide +kernel
theorem dL_law_262 : decode cL_law 262 = .ok (.iconst 1, 1) := by decide +kernel
theorem dL_law_263 : decode cL_law 263 = .ok (.iadd, 1) := by decide +kernel
theorem dL_law_264 : decode cL_law 264 = .ok (.iaload, 1) := by decide +kernel
theorem dL_law_265 : decode cL_law 265 = .ok (.invokevirtual 43, 3) := by decide +kernel
theorem dL_law_268 : decode cL_law 268 = .ok (.aload_n 2, 1) := by decide +kernel
theorem dL_law_269 : decode cL_law 269 = .ok (.aload_n 0, 1) := by decide +kernel
theorem dL_law_270 : decode cL_law 270 = .ok (.iload_n 3, 1) := by decide +kernel
theorem dL_law_271 : decode cL_law 271 = .ok (.iconst 1, 1) := by decide +kernel
theorem dL_law_272 : decode cL_law 272 = .ok (.iadd, 1) := by decide +kernel
theorem dL_law_273 : decode cL_law 273 = .ok (.iaload, 1) := by decide +kernel
theorem dL_law_274 : decode cL_law 274 = .ok (.invokevirtual 46, 3) := by decide +kernel
theorem dL_law_277 : decode cL_law 277 = .ok (.if_icmp .eq 301, 3) := by decide +kernel
theorem dL_law_280 : decode cL_law 280 = .ok (.iconst 0, 1) := by decide +kernel
theorem dL_law_281 : decode cL_law 281 = .ok (.ireturn, 1) := by decide +kernel
theorem dL_law_282 : decode cL_law 282 = .ok (.aload_n 1, 1) := by decide +kernel
theorem dL_law_283 : decode cL_law 283 = .ok (.aload_n 0, 1) := by decide +kernel
theorem dL_law_284 : decode cL_law 284 = .ok (.iload_n 3, 1) := by decide +kernel
theorem dL_law_285 : decode cL_law 285 = .ok (.iconst 1, 1) := by decide +kernel
theorem dL_law_286 : decode cL_law 286 = .ok (.iadd, 1) := by decide +kernel
theorem dL_law_287 : decode cL_law 287 = .ok (.iaload, 1) := by decide +kernel
theorem dL_law_288 : decode cL_law 288 = .ok (.invokevirtual 47, 3) := by decide +kernel
theorem dL_law_291 : decode cL_law 291 = .ok (.aload_n 2, 1) := by decide +kernel
theorem dL_law_292 : decode cL_law 292 = .ok (.aload_n 0, 1) := by decide +kernel
theorem dL_law_293 : decode cL_law 293 = .ok (.iload_n 3, 1) := by decide +kernel
theorem dL_law_294 : decode cL_law 294 = .ok (.iconst 1, 1) := by decide +kernel
theorem dL_law_295 : decode cL_law 295 = .ok (.iadd, 1) := by decide +kernel
theorem dL_law_296 : decode cL_law 296 = .ok (.iaload, 1) := by decide +kernel
theorem dL_law_297 : decode cL_law 297 = .ok (.invokevirtual 50, 3) := by decide +kernel
theorem dL_law_300 : decode cL_law 300 = .ok (.if_icmp .eq 278, 3) := by decide +kernel
theorem dL_law_303 : decode cL_law 303 = .ok (.iconst 0, 1) := by decide +kernel
theorem dL_law_304 : decode cL_law 304 = .ok (.ireturn, 1) := by decide +kernel
theorem dL_law_305 : decode cL_law 305 = .ok (.aload_n 1, 1) := by decide +kernel
theorem dL_law_306 : decode cL_law 306 = .ok (.invokevirtual 51, 3) := by decide +kernel
theorem dL_law_309 : decode cL_law 309 = .ok (.aload_n 2, 1) := by decide +kernel
theorem dL_law_310 : decode cL_law 310 = .ok (.invokevirtual 54, 3) := by decide +kernel
theorem dL_law_313 : decode cL_law 313 = .ok (.if_icmp .eq 265, 3) := by decide +kernel
theorem dL_law_316 : decode cL_law 316 = .ok (.iconst 0, 1) := by decide +kernel
theorem dL_law_317 : decode cL_law 317 = .ok (.ireturn, 1) := by decide +kernel
theorem dL_law_318 : decode cL_law 318 = .ok (.aload_n 1, 1) := by decide +kernel
theorem dL_law_319 : decode cL_law 319 = .ok (.aload_n 0, 1) := by decide +kernel
theorem dL_law_320 : decode cL_law 320 = .ok (.iload_n 3, 1) := by decide +kernel
theorem dL_law_321 : decode cL_law 321 = .ok (.iconst 1, 1) := by decide +kernel
theorem dL_law_322 : decode cL_law 322 = .ok (.iadd, 1) := by decide +kernel
theorem dL_law_323 : decode cL_law 323 = .ok (.iaload, 1) := by decide +kernel
theorem dL_law_324 : decode cL_law 324 = .ok (.aload_n 0, 1) := by decide +kernel
theorem dL_law_325 : decode cL_law 325 = .ok (.iload_n 3, 1) := by decide +kernel
theorem dL_law_326 : decode cL_law 326 = .ok (.iconst 2, 1) := by decide +kernel
theorem dL_law_327 : decode cL_law 327 = .ok (.iadd, 1) := by decide +kernel
theorem dL_law_328 : decode cL_law 328 = .ok (.iaload, 1) := by decide +kernel
theorem dL_law_329 : decode cL_law 329 = .ok (.invokevirtual 55, 3) := by decide +kernel
theorem dL_law_332 : decode cL_law 332 = .ok (.aload_n 2, 1) := by decide +kernel
theorem dL_law_333 : decode cL_law 333 = .ok (.aload_n 0, 1) := by decide +kernel
theorem dL_law_334 : decode cL_law 334 = .ok (.iload_n 3, 1) := by decide +kernel
theorem dL_law_335 : decode cL_law 335 = .ok (.iconst 1, 1) := by decide +kernel
theorem dL_law_336 : decode cL_law 336 = .ok (.iadd, 1) := by decide +kernel
theorem dL_law_337 : decode cL_law 337 = .ok (.iaload, 1) := by decide +kernel
theorem dL_law_338 : decode cL_law 338 = .ok (.aload_n 0, 1) := by decide +kernel
theorem dL_law_339 : decode cL_law 339 = .ok (.iload_n 3, 1) := by decide +kernel
theorem dL_law_340 : decode cL_law 340 = .ok (.iconst 2, 1) := by decide +kernel
theorem dL_law_341 : decode cL_law 341 = .ok (.iadd, 1) := by decide +kernel
theorem dL_law_342 : decode cL_law 342 = .ok (.iaload, 1) := by decide +kernel
theorem dL_law_343 : decode cL_law 343 = .ok (.invokevirtual 59, 3) := by decide +kernel
theorem dL_law_346 : decode cL_law 346 = .ok (.if_icmp .eq 232, 3) := by decide +kernel
theorem dL_law_349 : decode cL_law 349 = .ok (.iconst 0, 1) := by decide +kernel
theorem dL_law_350 : decode cL_law 350 = .ok (.ireturn, 1) := by decide +kernel
theorem dL_law_351 : decode cL_law 351 = .ok (.aload_n 1, 1) := by decide +kernel
theorem dL_law_352 : decode cL_law 352 = .ok (.aload_n 0, 1) := by decide +kernel
theorem dL_law_353 : decode cL_law 353 = .ok (.iload_n 3, 1) := by decide +kernel
theorem dL_law_354 : decode cL_law 354 = .ok (.iconst 1, 1) := by decide +kernel
theorem dL_law_355 : decode cL_law 355 = .ok (.iadd, 1) := by decide +kernel
theorem dL_law_356 : decode cL_law 356 = .ok (.iaload, 1) := by decide +kernel
theorem dL_law_357 : decode cL_law 357 = .ok (.aload_n 0, 1) := by decide +kernel
theorem dL_law_358 : decode cL_law 358 = .ok (.iload_n 3, 1) := by decide +kernel
theorem dL_law_359 : decode cL_law 359 = .ok (.iconst 2, 1) := by decide +kernel
theorem dL_law_360 : decode cL_law 360 = .ok (.iadd, 1) := by decide +kernel
theorem dL_law_361 : decode cL_law 361 = .ok (.iaload, 1) := by decide +kernel
theorem dL_law_362 : decode cL_law 362 = .ok (.invokevirtual 60, 3) := by decide +kernel
theorem dL_law_365 : decode cL_law 365 = .ok (.aload_n 2, 1) := by decide +kernel
theorem dL_law_366 : decode cL_law 366 = .ok (.aload_n 0, 1) := by decide +kernel
theorem dL_law_367 : decode cL_law 367 = .ok (.iload_n 3, 1) := by decide +kernel
theorem dL_law_368 : decode cL_law 368 = .ok (.iconst 1, 1) := by decide +kernel
theorem dL_law_369 : decode cL_law 369 = .ok (.iadd, 1) := by decide +kernel
theorem dL_law_370 : decode cL_law 370 = .ok (.iaload, 1) := by decide +kernel
theorem dL_law_371 : decode cL_law 371 = .ok (.aload_n 0, 1) := by decide +kernel
theorem dL_law_372 : decode cL_law 372 = .ok (.iload_n 3, 1) := by decide +kernel
theorem dL_law_373 : decode cL_law 373 = .ok (.iconst 2, 1) := by decide +kernel
theorem dL_law_374 : decode cL_law 374 = .ok (.iadd, 1) := by decide +kernel
theorem dL_law_375 : decode cL_law 375 = .ok (.iaload, 1) := by decide +kernel
theorem dL_law_376 : decode cL_law 376 = .ok (.invokevirtual 63, 3) := by decide +kernel
theorem dL_law_379 : decode cL_law 379 = .ok (.if_icmp .eq 199, 3) := by decide +kernel
theorem dL_law_382 : decode cL_law 382 = .ok (.iconst 0, 1) := by decide +kernel
theorem dL_law_383 : decode cL_law 383 = .ok (.ireturn, 1) := by decide +kernel
theorem dL_law_384 : decode cL_law 384 = .ok (.aload_n 1, 1) := by decide +kernel
theorem dL_law_385 : decode cL_law 385 = .ok (.aload_n 0, 1) := by decide +kernel
theorem dL_law_386 : decode cL_law 386 = .ok (.iload_n 3, 1) := by decide +kernel
theorem dL_law_387 : decode cL_law 387 = .ok (.iconst 1, 1) := by decide +kernel
theorem dL_law_388 : decode cL_law 388 = .ok (.iadd, 1) := by decide +kernel
theorem dL_law_389 : decode cL_law 389 = .ok (.iaload, 1) := by decide +kernel
theorem dL_law_390 : decode cL_law 390 = .ok (.aload_n 0, 1) := by decide +kernel
theorem dL_law_391 : decode cL_law 391 = .ok (.iload_n 3, 1) := by decide +kernel
theorem dL_law_392 : decode cL_law 392 = .ok (.iconst 2, 1) := by decide +kernel
theorem dL_law_393 : decode cL_law 393 = .ok (.iadd, 1) := by decide +kernel
theorem dL_law_394 : decode cL_law 394 = .ok (.iaload, 1) := by decide +kernel
theorem dL_law_395 : decode cL_law 395 = .ok (.invokevirtual 64, 3) := by decide +kernel
theorem dL_law_398 : decode cL_law 398 = .ok (.aload_n 2, 1) := by decide +kernel
theorem dL_law_399 : decode cL_law 399 = .ok (.aload_n 0, 1) := by decide +kernel
theorem dL_law_400 : decode cL_law 400 = .ok (.iload_n 3, 1) := by decide +kernel
theorem dL_law_401 : decode cL_law 401 = .ok (.iconst 1, 1) := by decide +kernel
theorem dL_law_402 : decode cL_law 402 = .ok (.iadd, 1) := by decide +kernel
theorem dL_law_403 : decode cL_law 403 = .ok (.iaload, 1) := by decide +kernel
theorem dL_law_404 : decode cL_law 404 = .ok (.aload_n 0, 1) := by decide +kernel
theorem dL_law_405 : decode cL_law 405 = .ok (.iload_n 3, 1) := by decide +kernel
theorem dL_law_406 : decode cL_law 406 = .ok (.iconst 2, 1) := by decide +kernel
theorem dL_law_407 : decode cL_law 407 = .ok (.iadd, 1) := by decide +kernel
theorem dL_law_408 : decode cL_law 408 = .ok (.iaload, 1) := by decide +kernel
theorem dL_law_409 : decode cL_law 409 = .ok (.invokevirtual 67, 3) := by decide +kernel
theorem dL_law_412 : decode cL_law 412 = .ok (.if_icmp .eq 166, 3) := by decide +kernel
theorem dL_law_415 : decode cL_law 415 = .ok (.iconst 0, 1) := by decide +kernel
theorem dL_law_416 : decode cL_law 416 = .ok (.ireturn, 1) := by decide +kernel
theorem dL_law_417 : decode cL_law 417 = .ok (.aload_n 1, 1) := by decide +kernel
theorem dL_law_418 : decode cL_law 418 = .ok (.aload_n 0, 1) := by decide +kernel
theorem dL_law_419 : decode cL_law 419 = .ok (.iload_n 3, 1) := by decide +kernel
theorem dL_law_420 : decode cL_law 420 = .ok (.iconst 1, 1) := by decide +kernel
theorem dL_law_421 : decode cL_law 421 = .ok (.iadd, 1) := by decide +kernel
theorem dL_law_422 : decode cL_law 422 = .ok (.iaload, 1) := by decide +kernel
theorem dL_law_423 : decode cL_law 423 = .ok (.invokevirtual 68, 3) := by decide +kernel
theorem dL_law_426 : decode cL_law 426 = .ok (.aload_n 2, 1) := by decide +kernel
theorem dL_law_427 : decode cL_law 427 = .ok (.aload_n 0, 1) := by decide +kernel
theorem dL_law_428 : decode cL_law 428 = .ok (.iload_n 3, 1) := by decide +kernel
theorem dL_law_429 : decode cL_law 429 = .ok (.iconst 1, 1) := by decide +kernel
theorem dL_law_430 : decode cL_law 430 = .ok (.iadd, 1) := by decide +kernel
theorem dL_law_431 : decode cL_law 431 = .ok (.iaload, 1) := by decide +kernel
theorem dL_law_432 : decode cL_law 432 = .ok (.invokevirtual 71, 3) := by decide +kernel
theorem dL_law_435 : decode cL_law 435 = .ok (.if_icmp .eq 143, 3) := by decide +kernel
theorem dL_law_438 : decode cL_law 438 = .ok (.iconst 0, 1) := by decide +kernel
theorem dL_law_439 : decode cL_law 439 = .ok (.ireturn, 1) := by decide +kernel
theorem dL_law_440 : decode cL_law 440 = .ok (.aload_n 1, 1) := by decide +kernel
theorem dL_law_441 : decode cL_law 441 = .ok (.aload_n 0, 1) := by decide +kernel
theorem dL_law_442 : decode cL_law 442 = .ok (.iload_n 3, 1) := by decide +kernel
theorem dL_law_443 : decode cL_law 443 = .ok (.iconst 1, 1) := by decide +kernel
theorem dL_law_444 : decode cL_law 444 = .ok (.iadd, 1) := by decide +kernel
theorem dL_law_445 : decode cL_law 445 = .ok (.iaload, 1) := by decide +kernel
theorem dL_law_446 : decode cL_law 446 = .ok (.aload_n 0, 1) := by decide +kernel
theorem dL_law_447 : decode cL_law 447 = .ok (.iload_n 3, 1) := by decide +kernel
theorem dL_law_448 : decode cL_law 448 = .ok (.iconst 2, 1) := by decide +kernel
theorem dL_law_449 : decode cL_law 449 = .ok (.iadd, 1) := by decide +kernel
theorem dL_law_450 : decode cL_law 450 = .ok (.iaload, 1) := by decide +kernel
theorem dL_law_451 : decode cL_law 451 = .ok (.invokevirtual 72, 3) := by decide +kernel
theorem dL_law_454 : decode cL_law 454 = .ok (.aload_n 2, 1) := by decide +kernel
theorem dL_law_455 : decode cL_law 455 = .ok (.aload_n 0, 1) := by decide +kernel
theorem dL_law_456 : decode cL_law 456 = .ok (.iload_n 3, 1) := by decide +kernel
theorem dL_law_457 : decode cL_law 457 = .ok (.iconst 1, 1) := by decide +kernel
theorem dL_law_458 : decode cL_law 458 = .ok (.iadd, 1) := by decide +kernel
theorem dL_law_459 : decode cL_law 459 = .ok (.iaload, 1) := by decide +kernel
theorem dL_law_460 : decode cL_law 460 = .ok (.aload_n 0, 1) := by decide +kernel
theorem dL_law_461 : decode cL_law 461 = .ok (.iload_n 3, 1) := by decide +kernel
theorem dL_law_462 : decode cL_law 462 = .ok (.iconst 2, 1) := by decide +kernel
theorem dL_law_463 : decode cL_law 463 = .ok (.iadd, 1) := by decide +kernel
theorem dL_law_464 : decode cL_law 464 = .ok (.iaload, 1) := by decide +kernel
theorem dL_law_465 : decode cL_law 465 = .ok (.invokevirtual 75, 3) := by decide +kernel
theorem dL_law_468 : decode cL_law 468 = .ok (.if_icmp .eq 110, 3) := by decide +kernel
theorem dL_law_471 : decode cL_law 471 = .ok (.iconst 0, 1) := by decide +kernel
theorem dL_law_472 : decode cL_law 472 = .ok (.ireturn, 1) := by decide +kernel
theorem dL_law_473 : decode cL_law 473 = .ok (.aload_n 1, 1) := by decide +kernel
theorem dL_law_474 : decode cL_law 474 = .ok (.invokevirtual 76, 3) := by decide +kernel
theorem dL_law_477 : decode cL_law 477 = .ok (.aload_n 2, 1) := by decide +kernel
theorem dL_law_478 : decode cL_law 478 = .ok (.invokevirtual 79, 3) := by decide +kernel
theorem dL_law_481 : decode cL_law 481 = .ok (.if_icmp .eq 97, 3) := by decide +kernel
theorem dL_law_484 : decode cL_law 484 = .ok (.iconst 0, 1) := by decide +kernel
theorem dL_law_485 : decode cL_law 485 = .ok (.ireturn, 1) := by decide +kernel
theorem dL_law_486 : decode cL_law 486 = .ok (.aload_n 1, 1) := by decide +kernel
theorem dL_law_487 : decode cL_law 487 = .ok (.aload_n 0, 1) := by decide +kernel
theorem dL_law_488 : decode cL_law 488 = .ok (.iload_n 3, 1) := by decide +kernel
theorem dL_law_489 : decode cL_law 489 = .ok (.iconst 1, 1) := by decide +kernel
theorem dL_law_490 : decode cL_law 490 = .ok (.iadd, 1) := by decide +kernel
theorem dL_law_491 : decode cL_law 491 = .ok (.iaload, 1) := by decide +kernel
theorem dL_law_492 : decode cL_law 492 = .ok (.invokevirtual 80, 3) := by decide +kernel
theorem dL_law_495 : decode cL_law 495 = .ok (.aload_n 2, 1) := by decide +kernel
theorem dL_law_496 : decode cL_law 496 = .ok (.aload_n 0, 1) := by decide +kernel
theorem dL_law_497 : decode cL_law 497 = .ok (.iload_n 3, 1) := by decide +kernel
theorem dL_law_498 : decode cL_law 498 = .ok (.iconst 1, 1) := by decide +kernel
theorem dL_law_499 : decode cL_law 499 = .ok (.iadd, 1) := by decide +kernel
theorem dL_law_500 : decode cL_law 500 = .ok (.iaload, 1) := by decide +kernel
theorem dL_law_501 : decode cL_law 501 = .ok (.invokevirtual 83, 3) := by decide +kernel
theorem dL_law_504 : decode cL_law 504 = .ok (.if_icmp .eq 74, 3) := by decide +kernel
theorem dL_law_507 : decode cL_law 507 = .ok (.iconst 0, 1) := by decide +kernel
theorem dL_law_508 : decode cL_law 508 = .ok (.ireturn, 1) := by decide +kernel
theorem dL_law_509 : decode cL_law 509 = .ok (.aload_n 1, 1) := by decide +kernel
theorem dL_law_510 : decode cL_law 510 = .ok (.aload_n 0, 1) := by decide +kernel
theorem dL_law_511 : decode cL_law 511 = .ok (.iload_n 3, 1) := by decide +kernel
theorem dL_law_512 : decode cL_law 512 = .ok (.iconst 1, 1) := by decide +kernel
theorem dL_law_513 : decode cL_law 513 = .ok (.iadd, 1) := by decide +kernel
theorem dL_law_514 : decode cL_law 514 = .ok (.iaload, 1) := by decide +kernel
theorem dL_law_515 : decode cL_law 515 = .ok (.invokevirtual 84, 3) := by decide +kernel
theorem dL_law_518 : decode cL_law 518 = .ok (.aload_n 2, 1) := by decide +kernel
theorem dL_law_519 : decode cL_law 519 = .ok (.aload_n 0, 1) := by decide +kernel
theorem dL_law_520 : decode cL_law 520 = .ok (.iload_n 3, 1) := by decide +kernel
theorem dL_law_521 : decode cL_law 521 = .ok (.iconst 1, 1) := by decide +kernel
theorem dL_law_522 : decode cL_law 522 = .ok (.iadd, 1) := by decide +kernel
theorem dL_law_523 : decode cL_law 523 = .ok (.iaload, 1) := by decide +kernel
theorem dL_law_524 : decode cL_law 524 = .ok (.invokevirtual 87, 3) := by decide +kernel
theorem dL_law_527 : decode cL_law 527 = .ok (.if_icmp .eq 51, 3) := by decide +kernel
theorem dL_law_530 : decode cL_law 530 = .ok (.iconst 0, 1) := by decide +kernel
theorem dL_law_531 : decode cL_law 531 = .ok (.ireturn, 1) := by decide +kernel
theorem dL_law_532 : decode cL_law 532 = .ok (.aload_n 1, 1) := by decide +kernel
theorem dL_law_533 : decode cL_law 533 = .ok (.aload_n 0, 1) := by decide +kernel
theorem dL_law_534 : decode cL_law 534 = .ok (.iload_n 3, 1) := by decide +kernel
theorem dL_law_535 : decode cL_law 535 = .ok (.iconst 1, 1) := by decide +kernel
theorem dL_law_536 : decode cL_law 536 = .ok (.iadd, 1) := by decide +kernel
theorem dL_law_537 : decode cL_law 537 = .ok (.iaload, 1) := by decide +kernel
theorem dL_law_538 : decode cL_law 538 = .ok (.invokevirtual 88, 3) := by decide +kernel
theorem dL_law_541 : decode cL_law 541 = .ok (.aload_n 2, 1) := by decide +kernel
theorem dL_law_542 : decode cL_law 542 = .ok (.aload_n 0, 1) := by decide +kernel
theorem dL_law_543 : decode cL_law 543 = .ok (.iload_n 3, 1) := by decide +kernel
theorem dL_law_544 : decode cL_law 544 = .ok (.iconst 1, 1) := by decide +kernel
theorem dL_law_545 : decode cL_law 545 = .ok (.iadd, 1) := by decide +kernel
theorem dL_law_546 : decode cL_law 546 = .ok (.iaload, 1) := by decide +kernel
theorem dL_law_547 : decode cL_law 547 = .ok (.invokevirtual 91, 3) := by decide +kernel
theorem dL_law_550 : decode cL_law 550 = .ok (.if_icmp .eq 28, 3) := by decide +kernel
theorem dL_law_553 : decode cL_law 553 = .ok (.iconst 0, 1) := by decide +kernel
theorem dL_law_554 : decode cL_law 554 = .ok (.ireturn, 1) := by decide +kernel
theorem dL_law_555 : decode cL_law 555 = .ok (.aload_n 1, 1) := by decide +kernel
theorem dL_law_556 : decode cL_law 556 = .ok (.aload_n 0, 1) := by decide +kernel
theorem dL_law_557 : decode cL_law 557 = .ok (.iload_n 3, 1) := by decide +kernel
theorem dL_law_558 : decode cL_law 558 = .ok (.iconst 1, 1) := by decide +kernel
theorem dL_law_559 : decode cL_law 559 = .ok (.iadd, 1) := by decide +kernel
theorem dL_law_560 : decode cL_law 560 = .ok (.iaload, 1) := by decide +kernel
theorem dL_law_561 : decode cL_law 561 = .ok (.invokevirtual 92, 3) := by decide +kernel
theorem dL_law_564 : decode cL_law 564 = .ok (.aload_n 2, 1) := by decide +kernel
theorem dL_law_565 : decode cL_law 565 = .ok (.aload_n 0, 1) := by decide +kernel
theorem dL_law_566 : decode cL_law 566 = .ok (.iload_n 3, 1) := by decide +kernel
theorem dL_law_567 : decode cL_law 567 = .ok (.iconst 1, 1) := by decide +kernel
theorem dL_law_568 : decode cL_law 568 = .ok (.iadd, 1) := by decide +kernel
theorem dL_law_569 : decode cL_law 569 = .ok (.iaload, 1) := by decide +kernel
theorem dL_law_570 : decode cL_law 570 = .ok (.invokevirtual 95, 3) := by decide +kernel
theorem dL_law_573 : decode cL_law 573 = .ok (.if_icmp .eq 5, 3) := by decide +kernel
theorem dL_law_576 : decode cL_law 576 = .ok (.iconst 0, 1) := by decide +kernel
theorem dL_law_577 : decode cL_law 577 = .ok (.ireturn, 1) := by decide +kernel
theorem dL_law_578 : decode cL_law 578 = .ok (.iinc 3 3, 3) := by decide +kernel
theorem dL_law_581 : decode cL_law 581 = .ok (.goto (-563), 3) := by decide +kernel
theorem dL_law_584 : decode cL_law 584 = .ok (.iconst 1, 1) := by decide +kernel
theorem dL_law_585 : decode cL_law 585 = .ok (.ireturn, 1) := by decide +kernel
