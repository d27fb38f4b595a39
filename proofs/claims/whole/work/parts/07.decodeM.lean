theorem dX2_init_0 : decode cX2_init 0 = .ok (.aload_n 0, 1) := by decide +kernel
theorem dX2_init_1 : decode cX2_init 1 = .ok (.invokespecial 1, 3) := by decide +kernel
theorem dX2_init_4 : decode cX2_init 4 = .ok (.aload_n 0, 1) := by decide +kernel
theorem dX2_init_5 : decode cX2_init 5 = .ok (.iconst 5, 1) := by decide +kernel
theorem dX2_init_6 : decode cX2_init 6 = .ok (.newarray .int, 2) := by decide +kernel
theorem dX2_init_8 : decode cX2_init 8 = .ok (.putfield 7, 3) := by decide +kernel
theorem dX2_init_11 : decode cX2_init 11 = .ok (.aload_n 0, 1) := by decide +kernel
theorem dX2_init_12 : decode cX2_init 12 = .ok (.iconst 5, 1) := by decide +kernel
theorem dX2_init_13 : decode cX2_init 13 = .ok (.newarray .long, 2) := by decide +kernel
theorem dX2_init_15 : decode cX2_init 15 = .ok (.putfield 13, 3) := by decide +kernel
theorem dX2_init_18 : decode cX2_init 18 = .ok (.aload_n 0, 1) := by decide +kernel
theorem dX2_init_19 : decode cX2_init 19 = .ok (.iconst 5, 1) := by decide +kernel
theorem dX2_init_20 : decode cX2_init 20 = .ok (.newarray .long, 2) := by decide +kernel
theorem dX2_init_22 : decode cX2_init 22 = .ok (.putfield 17, 3) := by decide +kernel
theorem dX2_init_25 : decode cX2_init 25 = .ok (.aload_n 0, 1) := by decide +kernel
theorem dX2_init_26 : decode cX2_init 26 = .ok (.iconst 5, 1) := by decide +kernel
theorem dX2_init_27 : decode cX2_init 27 = .ok (.newarray .int, 2) := by decide +kernel
theorem dX2_init_29 : decode cX2_init 29 = .ok (.putfield 20, 3) := by decide +kernel
theorem dX2_init_32 : decode cX2_init 32 = .ok (.aload_n 0, 1) := by decide +kernel
theorem dX2_init_33 : decode cX2_init 33 = .ok (.iconst 5, 1) := by decide +kernel
theorem dX2_init_34 : decode cX2_init 34 = .ok (.newarray .int, 2) := by decide +kernel
theorem dX2_init_36 : decode cX2_init 36 = .ok (.putfield 23, 3) := by decide +kernel
theorem dX2_init_39 : decode cX2_init 39 = .ok (.aload_n 0, 1) := by decide +kernel
theorem dX2_init_40 : decode cX2_init 40 = .ok (.iconst 5, 1) := by decide +kernel
theorem dX2_init_41 : decode cX2_init 41 = .ok (.newarray .int, 2) := by decide +kernel
theorem dX2_init_43 : decode cX2_init 43 = .ok (.putfield 26, 3) := by decide +kernel
theorem dX2_init_46 : decode cX2_init 46 = .ok (.aload_n 0, 1) := by decide +kernel
theorem dX2_init_47 : decode cX2_init 47 = .ok (.iconst 5, 1) := by decide +kernel
theorem dX2_init_48 : decode cX2_init 48 = .ok (.newarray .int, 2) := by decide +kernel
theorem dX2_init_50 : decode cX2_init 50 = .ok (.putfield 29, 3) := by decide +kernel
theorem dX2_init_53 : decode cX2_init 53 = .ok (.return_, 1) := by decide +kernel
theorem dX2_thrown_0 : decode cX2_thrown 0 = .ok (.aload_n 0, 1) := by decide +kernel
theorem dX2_thrown_1 : decode cX2_thrown 1 = .ok (.getfield 32, 3) := by decide +kernel
theorem dX2_thrown_4 : decode cX2_thrown 4 = .ok (.ireturn, 1) := by decide +kernel
theorem dX2_raise_0 : decode cX2_raise 0 = .ok (.aload_n 0, 1) := by decide +kernel
theorem dX2_raise_1 : decode cX2_raise 1 = .ok (.iload_n 1, 1) := by decide +kernel
theorem dX2_raise_2 : decode cX2_raise 2 = .ok (.putfield 32, 3) := by decide +kernel
theorem dX2_raise_5 : decode cX2_raise 5 = .ok (.iconst 0, 1) := by decide +kernel
theorem dX2_raise_6 : decode cX2_raise 6 = .ok (.ireturn, 1) := by decide +kernel
theorem dX2_in_0 : decode cX2_in 0 = .ok (.lload_n 0, 1) := by decide +kernel
theorem dX2_in_1 : decode cX2_in 1 = .ok (.lload_n 2, 1) := by decide +kernel
theorem dX2_in_2 : decode cX2_in 2 = .ok (.lcmp, 1) := by decide +kernel
theorem dX2_in_3 : decode cX2_in 3 = .ok (.ifCond .lt 14, 3) := by decide +kernel
theorem dX2_in_6 : decode cX2_in 6 = .ok (.lload_n 0, 1) := by decide +kernel
theorem dX2_in_7 : decode cX2_in 7 = .ok (.lload 4, 2) := by decide +kernel
theorem dX2_in_9 : decode cX2_in 9 = .ok (.lcmp, 1) := by decide +kernel
theorem dX2_in_10 : decode cX2_in 10 = .ok (.ifCond .gt 7, 3) := by decide +kernel
theorem dX2_in_13 : decode cX2_in 13 = .ok (.iconst 1, 1) := by decide +kernel
theorem dX2_in_14 : decode cX2_in 14 = .ok (.goto 4, 3) := by decide +kernel
theorem dX2_in_17 : decode cX2_in 17 = .ok (.iconst 0, 1) := by decide +kernel
theorem dX2_in_18 : decode cX2_in 18 = .ok (.ireturn, 1) := by decide +kernel
theorem dX2_size_0 : decode cX2_size 0 = .ok (.lload_n 0, 1) := by decide +kernel
theorem dX2_size_1 : decode cX2_size 1 = .ok (.lconst 0, 1) := by decide +kernel
theorem dX2_size_2 : decode cX2_size 2 = .ok (.lcmp, 1) := by decide +kernel
theorem dX2_size_3 : decode cX2_size 3 = .ok (.ifCond .ge 8, 3) := by decide +kernel
theorem dX2_size_6 : decode cX2_size 6 = .ok (.lload_n 0, 1) := by decide +kernel
theorem dX2_size_7 : decode cX2_size 7 = .ok (.lneg, 1) := by decide +kernel
theorem dX2_size_8 : decode cX2_size 8 = .ok (.goto 4, 3) := by decide +kernel
theorem dX2_size_11 : decode cX2_size 11 = .ok (.lload_n 0, 1) := by decide +kernel
theorem dX2_size_12 : decode cX2_size 12 = .ok (.lreturn, 1) := by decide +kernel
theorem dX2_divisor_0 : decode cX2_divisor 0 = .ok (.lload_n 0, 1) := by decide +kernel
theorem dX2_divisor_1 : decode cX2_divisor 1 = .ok (.invokestatic 36, 3) := by decide +kernel
theorem dX2_divisor_4 : decode cX2_divisor 4 = .ok (.lstore 4, 2) := by decide +kernel
theorem dX2_divisor_6 : decode cX2_divisor 6 = .ok (.lload_n 2, 1) := by decide +kernel
theorem dX2_divisor_7 : decode cX2_divisor 7 = .ok (.invokestatic 36, 3) := by decide +kernel
theorem dX2_divisor_10 : decode cX2_divisor 10 = .ok (.lstore 6, 2) := by decide +kernel
theorem dX2_divisor_12 : decode cX2_divisor 12 = .ok (.lload 6, 2) := by decide +kernel
theorem dX2_divisor_14 : decode cX2_divisor 14 = .ok (.lconst 0, 1) := by decide +kernel
theorem dX2_divisor_15 : decode cX2_divisor 15 = .ok (.lcmp, 1) := by decide +kernel
theorem dX2_divisor_16 : decode cX2_divisor 16 = .ok (.ifCond .eq 21, 3) := by decide +kernel
theorem dX2_divisor_19 : decode cX2_divisor 19 = .ok (.lload 4, 2) := by decide +kernel
theorem dX2_divisor_21 : decode cX2_divisor 21 = .ok (.lload 6, 2) := by decide +kernel
theorem dX2_divisor_23 : decode cX2_divisor 23 = .ok (.lrem, 1) := by decide +kernel
theorem dX2_divisor_24 : decode cX2_divisor 24 = .ok (.lstore 8, 2) := by decide +kernel
theorem dX2_divisor_26 : decode cX2_divisor 26 = .ok (.lload 6, 2) := by decide +kernel
theorem dX2_divisor_28 : decode cX2_divisor 28 = .ok (.lstore 4, 2) := by decide +kernel
theorem dX2_divisor_30 : decode cX2_divisor 30 = .ok (.lload 8, 2) := by decide +kernel
theorem dX2_divisor_32 : decode cX2_divisor 32 = .ok (.lstore 6, 2) := by decide +kernel
theorem dX2_divisor_34 : decode cX2_divisor 34 = .ok (.goto (-22), 3) := by decide +kernel
theorem dX2_divisor_37 : decode cX2_divisor 37 = .ok (.lload 4, 2) := by decide +kernel
theorem dX2_divisor_39 : decode cX2_divisor 39 = .ok (.lreturn, 1) := by decide +kernel
theorem dX2_lowest_0 : decode cX2_lowest 0 = .ok (.lload_n 1, 1) := by decide +kernel
theorem dX2_lowest_1 : decode cX2_lowest 1 = .ok (.lload_n 3, 1) := by decide +kernel
theorem dX2_lowest_2 : decode cX2_lowest 2 = .ok (.invokestatic 40, 3) := by decide +kernel
theorem dX2_lowest_5 : decode cX2_lowest 5 = .ok (.lstore 5, 2) := by decide +kernel
theorem dX2_lowest_7 : decode cX2_lowest 7 = .ok (.aload_n 0, 1) := by decide +kernel
theorem dX2_lowest_8 : decode cX2_lowest 8 = .ok (.lload_n 3, 1) := by decide +kernel
theorem dX2_lowest_9 : decode cX2_lowest 9 = .ok (.lconst 0, 1) := by decide +kernel
theorem dX2_lowest_10 : decode cX2_lowest 10 = .ok (.lcmp, 1) := by decide +kernel
theorem dX2_lowest_11 : decode cX2_lowest 11 = .ok (.ifCond .ge 11, 3) := by decide +kernel
theorem dX2_lowest_14 : decode cX2_lowest 14 = .ok (.lload_n 1, 1) := by decide +kernel
theorem dX2_lowest_15 : decode cX2_lowest 15 = .ok (.lload 5, 2) := by decide +kernel
theorem dX2_lowest_17 : decode cX2_lowest 17 = .ok (.ldiv, 1) := by decide +kernel
theorem dX2_lowest_18 : decode cX2_lowest 18 = .ok (.lneg, 1) := by decide +kernel
theorem dX2_lowest_19 : decode cX2_lowest 19 = .ok (.goto 7, 3) := by decide +kernel
theorem dX2_lowest_22 : decode cX2_lowest 22 = .ok (.lload_n 1, 1) := by decide +kernel
theorem dX2_lowest_23 : decode cX2_lowest 23 = .ok (.lload 5, 2) := by decide +kernel
theorem dX2_lowest_25 : decode cX2_lowest 25 = .ok (.ldiv, 1) := by decide +kernel
theorem dX2_lowest_26 : decode cX2_lowest 26 = .ok (.putfield 44, 3) := by decide +kernel
theorem dX2_lowest_29 : decode cX2_lowest 29 = .ok (.aload_n 0, 1) := by decide +kernel
theorem dX2_lowest_30 : decode cX2_lowest 30 = .ok (.lload_n 3, 1) := by decide +kernel
theorem dX2_lowest_31 : decode cX2_lowest 31 = .ok (.lconst 0, 1) := by decide +kernel
theorem dX2_lowest_32 : decode cX2_lowest 32 = .ok (.lcmp, 1) := by decide +kernel
theorem dX2_lowest_33 : decode cX2_lowest 33 = .ok (.ifCond .ge 11, 3) := by decide +kernel
theorem dX2_lowest_36 : decode cX2_lowest 36 = .ok (.lload_n 3, 1) := by decide +kernel
theorem dX2_lowest_37 : decode cX2_lowest 37 = .ok (.lload 5, 2) := by decide +kernel
theorem dX2_lowest_39 : decode cX2_lowest 39 = .ok (.ldiv, 1) := by decide +kernel
theorem dX2_lowest_40 : decode cX2_lowest 40 = .ok (.lneg, 1) := by decide +kernel
theorem dX2_lowest_41 : decode cX2_lowest 41 = .ok (.goto 7, 3) := by decide +kernel
theorem dX2_lowest_44 : decode cX2_lowest 44 = .ok (.lload_n 3, 1) := by decide +kernel
theorem dX2_lowest_45 : decode cX2_lowest 45 = .ok (.lload 5, 2) := by decide +kernel
theorem dX2_lowest_47 : decode cX2_lowest 47 = .ok (.ldiv, 1) := by decide +kernel
theorem dX2_lowest_48 : decode cX2_lowest 48 = .ok (.putfield 48, 3) := by decide +kernel
theorem dX2_lowest_51 : decode cX2_lowest 51 = .ok (.return_, 1) := by decide +kernel
theorem dX2_put_0 : decode cX2_put 0 = .ok (.aload_n 0, 1) := by decide +kernel
theorem dX2_put_1 : decode cX2_put 1 = .ok (.iload_n 1, 1) := by decide +kernel
theorem dX2_put_2 : decode cX2_put 2 = .ok (.i2l, 1) := by decide +kernel
theorem dX2_put_3 : decode cX2_put 3 = .ok (.lconst 0, 1) := by decide +kernel
theorem dX2_put_4 : decode cX2_put 4 = .ok (.ldc2_w 51, 3) := by decide +kernel
theorem dX2_put_7 : decode cX2_put 7 = .ok (.invokestatic 53, 3) := by decide +kernel
theorem dX2_put_10 : decode cX2_put 10 = .ok (.ifCond .ne 7, 3) := by decide +kernel
theorem dX2_put_13 : decode cX2_put 13 = .ok (.iconst 1, 1) := by decide +kernel
theorem dX2_put_14 : decode cX2_put 14 = .ok (.goto 22, 3) := by decide +kernel
theorem dX2_put_17 : decode cX2_put 17 = .ok (.iload_n 2, 1) := by decide +kernel
theorem dX2_put_18 : decode cX2_put 18 = .ok (.i2l, 1) := by decide +kernel
theorem dX2_put_19 : decode cX2_put 19 = .ok (.ldc2_w 57, 3) := by decide +kernel
theorem dX2_put_22 : decode cX2_put 22 = .ok (.ldc2_w 59, 3) := by decide +kernel
theorem dX2_put_25 : decode cX2_put 25 = .ok (.invokestatic 53, 3) := by decide +kernel
theorem dX2_put_28 : decode cX2_put 28 = .ok (.ifCond .eq 7, 3) := by decide +kernel
theorem dX2_put_31 : decode cX2_put 31 = .ok (.iconst 0, 1) := by decide +kernel
theorem dX2_put_32 : decode cX2_put 32 = .ok (.goto 4, 3) := by decide +kernel
theorem dX2_put_35 : decode cX2_put 35 = .ok (.iconst 2, 1) := by decide +kernel
theorem dX2_put_36 : decode cX2_put 36 = .ok (.putfield 32, 3) := by decide +kernel
theorem dX2_put_39 : decode cX2_put 39 = .ok (.aload_n 0, 1) := by decide +kernel
theorem dX2_put_40 : decode cX2_put 40 = .ok (.getfield 32, 3) := by decide +kernel
theorem dX2_put_43 : decode cX2_put 43 = .ok (.ifCond .le 5, 3) := by decide +kernel
theorem dX2_put_46 : decode cX2_put 46 = .ok (.iconst 0, 1) := by decide +kernel
theorem dX2_put_47 : decode cX2_put 47 = .ok (.ireturn, 1) := by decide +kernel
theorem dX2_put_48 : decode cX2_put 48 = .ok (.aload_n 0, 1) := by decide +kernel
theorem dX2_put_49 : decode cX2_put 49 = .ok (.getfield 7, 3) := by decide +kernel
theorem dX2_put_52 : decode cX2_put 52 = .ok (.iload_n 1, 1) := by decide +kernel
theorem dX2_put_53 : decode cX2_put 53 = .ok (.iaload, 1) := by decide +kernel
theorem dX2_put_54 : decode cX2_put 54 = .ok (.iload_n 2, 1) := by decide +kernel
theorem dX2_put_55 : decode cX2_put 55 = .ok (.if_icmp .eq 7, 3) := by decide +kernel
theorem dX2_put_58 : decode cX2_put 58 = .ok (.iconst 1, 1) := by decide +kernel
theorem dX2_put_59 : decode cX2_put 59 = .ok (.goto 4, 3) := by decide +kernel
theorem dX2_put_62 : decode cX2_put 62 = .ok (.iconst 0, 1) := by decide +kernel
theorem dX2_put_63 : decode cX2_put 63 = .ok (.istore_n 3, 1) := by decide +kernel
theorem dX2_put_64 : decode cX2_put 64 = .ok (.aload_n 0, 1) := by decide +kernel
theorem dX2_put_65 : decode cX2_put 65 = .ok (.getfield 7, 3) := by decide +kernel
theorem dX2_put_68 : decode cX2_put 68 = .ok (.iload_n 1, 1) := by decide +kernel
theorem dX2_put_69 : decode cX2_put 69 = .ok (.iload_n 2, 1) := by decide +kernel
theorem dX2_put_70 : decode cX2_put 70 = .ok (.iastore, 1) := by decide +kernel
theorem dX2_put_71 : decode cX2_put 71 = .ok (.iload_n 3, 1) := by decide +kernel
theorem dX2_put_72 : decode cX2_put 72 = .ok (.ireturn, 1) := by decide +kernel
theorem dX2_at_0 : decode cX2_at 0 = .ok (.aload_n 0, 1) := by decide +kernel
theorem dX2_at_1 : decode cX2_at 1 = .ok (.iload_n 1, 1) := by decide +kernel
theorem dX2_at_2 : decode cX2_at 2 = .ok (.i2l, 1) := by decide +kernel
theorem dX2_at_3 : decode cX2_at 3 = .ok (.lconst 0, 1) := by decide +kernel
theorem dX2_at_4 : decode cX2_at 4 = .ok (.ldc2_w 51, 3) := by decide +kernel
theorem dX2_at_7 : decode cX2_at 7 = .ok (.invokestatic 53, 3) := by decide +kernel
theorem dX2_at_10 : decode cX2_at 10 = .ok (.ifCond .eq 7, 3) := by decide +kernel
theorem dX2_at_13 : decode cX2_at 13 = .ok (.iconst 0, 1) := by decide +kernel
theorem dX2_at_14 : decode cX2_at 14 = .ok (.goto 4, 3) := by decide +kernel
theorem dX2_at_17 : decode cX2_at 17 = .ok (.iconst 1, 1) := by decide +kernel
theorem dX2_at_18 : decode cX2_at 18 = .ok (.putfield 32, 3) := by decide +kernel
theorem dX2_at_21 : decode cX2_at 21 = .ok (.aload_n 0, 1) := by decide +kernel
theorem dX2_at_22 : decode cX2_at 22 = .ok (.getfield 32, 3) := by decide +kernel
theorem dX2_at_25 : decode cX2_at 25 = .ok (.ifCond .le 7, 3) := by decide +kernel
theorem dX2_at_28 : decode cX2_at 28 = .ok (.iconst 0, 1) := by decide +kernel
theorem dX2_at_29 : decode cX2_at 29 = .ok (.goto 9, 3) := by decide +kernel
theorem dX2_at_32 : decode cX2_at 32 = .ok (.aload_n 0, 1) := by decide +kernel
theorem dX2_at_33 : decode cX2_at 33 = .ok (.getfield 7, 3) := by decide +kernel
theorem dX2_at_36 : decode cX2_at 36 = .ok (.iload_n 1, 1) := by decide +kernel
theorem dX2_at_37 : decode cX2_at 37 = .ok (.iaload, 1) := by decide +kernel
theorem dX2_at_38 : decode cX2_at 38 = .ok (.ireturn, 1) := by decide +kernel
theorem dX2_clear_0 : decode cX2_clear 0 = .ok (.aload_n 0, 1) := by decide +kernel
theorem dX2_clear_1 : decode cX2_clear 1 = .ok (.iconst 0, 1) := by decide +kernel
theorem dX2_clear_2 : decode cX2_clear 2 = .ok (.putfield 32, 3) := by decide +kernel
theorem dX2_clear_5 : decode cX2_clear 5 = .ok (.iconst 0, 1) := by decide +kernel
theorem dX2_clear_6 : decode cX2_clear 6 = .ok (.istore_n 1, 1) := by decide +kernel
theorem dX2_clear_7 : decode cX2_clear 7 = .ok (.iload_n 1, 1) := by decide +kernel
theorem dX2_clear_8 : decode cX2_clear 8 = .ok (.iconst 5, 1) := by decide +kernel
theorem dX2_clear_9 : decode cX2_clear 9 = .ok (.if_icmp .ge 16, 3) := by decide +kernel
theorem dX2_clear_12 : decode cX2_clear 12 = .ok (.aload_n 0, 1) := by decide +kernel
theorem dX2_clear_13 : decode cX2_clear 13 = .ok (.getfield 7, 3) := by decide +kernel
theorem dX2_clear_16 : decode cX2_clear 16 = .ok (.iload_n 1, 1) := by decide +kernel
theorem dX2_clear_17 : decode cX2_clear 17 = .ok (.iconst 0, 1) := by decide +kernel
theorem dX2_clear_18 : decode cX2_clear 18 = .ok (.iastore, 1) := by decide +kernel
theorem dX2_clear_19 : decode cX2_clear 19 = .ok (.iinc 1 1, 3) := by decide +kernel
theorem dX2_clear_22 : decode cX2_clear 22 = .ok (.goto (-15), 3) := by decide +kernel
theorem dX2_clear_25 : decode cX2_clear 25 = .ok (.return_, 1) := by decide +kernel
theorem dX2_degree_0 : decode cX2_degree 0 = .ok (.iconst 4, 1) := by decide +kernel
theorem dX2_degree_1 : decode cX2_degree 1 = .ok (.istore_n 1, 1) := by decide +kernel
theorem dX2_degree_2 : decode cX2_degree 2 = .ok (.iload_n 1, 1) := by decide +kernel
theorem dX2_degree_3 : decode cX2_degree 3 = .ok (.ifCond .lt 18, 3) := by decide +kernel
theorem dX2_degree_6 : decode cX2_degree 6 = .ok (.aload_n 0, 1) := by decide +kernel
theorem dX2_degree_7 : decode cX2_degree 7 = .ok (.getfield 7, 3) := by decide +kernel
theorem dX2_degree_10 : decode cX2_degree 10 = .ok (.iload_n 1, 1) := by decide +kernel
theorem dX2_degree_11 : decode cX2_degree 11 = .ok (.iaload, 1) := by decide +kernel
theorem dX2_degree_12 : decode cX2_degree 12 = .ok (.ifCond .ne 9, 3) := by decide +kernel
theorem dX2_degree_15 : decode cX2_degree 15 = .ok (.iinc 1 (-1), 3) := by decide +kernel
theorem dX2_degree_18 : decode cX2_degree 18 = .ok (.goto (-16), 3) := by decide +kernel
theorem dX2_degree_21 : decode cX2_degree 21 = .ok (.iload_n 1, 1) := by decide +kernel
theorem dX2_degree_22 : decode cX2_degree 22 = .ok (.ireturn, 1) := by decide +kernel
theorem dX2_change_0 : decode cX2_change 0 = .ok (.aload_n 0, 1) := by decide +kernel
theorem dX2_change_1 : decode cX2_change 1 = .ok (.iload_n 1, 1) := by decide +kernel
theorem dX2_change_2 : decode cX2_change 2 = .ok (.i2l, 1) := by decide +kernel
theorem dX2_change_3 : decode cX2_change 3 = .ok (.ldc2_w 61, 3) := by decide +kernel
theorem dX2_change_6 : decode cX2_change 6 = .ok (.ldc2_w 63, 3) := by decide +kernel
theorem dX2_change_9 : decode cX2_change 9 = .ok (.invokestatic 53, 3) := by decide +kernel
theorem dX2_change_12 : decode cX2_change 12 = .ok (.ifCond .eq 7, 3) := by decide +kernel
theorem dX2_change_15 : decode cX2_change 15 = .ok (.iconst 0, 1) := by decide +kernel
theorem dX2_change_16 : decode cX2_change 16 = .ok (.goto 4, 3) := by decide +kernel
theorem dX2_change_19 : decode cX2_change 19 = .ok (.iconst 1, 1) := by decide +kernel
theorem dX2_change_20 : decode cX2_change 20 = .ok (.putfield 32, 3) := by decide +kernel
theorem dX2_change_23 : decode cX2_change 23 = .ok (.aload_n 0, 1) := by decide +kernel
theorem dX2_change_24 : decode cX2_change 24 = .ok (.invokevirtual 65, 3) := by decide +kernel
theorem dX2_change_27 : decode cX2_change 27 = .ok (.istore_n 2, 1) := by decide +kernel
theorem dX2_change_28 : decode cX2_change 28 = .ok (.aload_n 0, 1) := by decide +kernel
theorem dX2_change_29 : decode cX2_change 29 = .ok (.getfield 32, 3) := by decide +kernel
theorem dX2_change_32 : decode cX2_change 32 = .ok (.ifCond .gt 7, 3) := by decide +kernel
theorem dX2_change_35 : decode cX2_change 35 = .ok (.iload_n 2, 1) := by decide +kernel
theorem dX2_change_36 : decode cX2_change 36 = .ok (.ifCond .ge 5, 3) := by decide +kernel
theorem dX2_change_39 : decode cX2_change 39 = .ok (.iconst 0, 1) := by decide +kernel
theorem dX2_change_40 : decode cX2_change 40 = .ok (.ireturn, 1) := by decide +kernel
theorem dX2_change_41 : decode cX2_change 41 = .ok (.iconst 0, 1) := by decide +kernel
theorem dX2_change_42 : decode cX2_change 42 = .ok (.istore_n 3, 1) := by decide +kernel
theorem dX2_change_43 : decode cX2_change 43 = .ok (.iload_n 3, 1) := by decide +kernel
theorem dX2_change_44 : decode cX2_change 44 = .ok (.iconst 5, 1) := by decide +kernel
theorem dX2_change_45 : decode cX2_change 45 = .ok (.if_icmp .ge 66, 3) := by decide +kernel
theorem dX2_change_48 : decode cX2_change 48 = .ok (.aload_n 0, 1) := by decide +kernel
theorem dX2_change_49 : decode cX2_change 49 = .ok (.getfield 13, 3) := by decide +kernel
theorem dX2_change_52 : decode cX2_change 52 = .ok (.iload_n 3, 1) := by decide +kernel
theorem dX2_change_53 : decode cX2_change 53 = .ok (.iload_n 1, 1) := by decide +kernel
theorem dX2_change_54 : decode cX2_change 54 = .ok (.iconst 2, 1) := by decide +kernel
theorem dX2_change_55 : decode cX2_change 55 = .ok (.if_icmp .ne 20, 3) := by decide +kernel
theorem dX2_change_58 : decode cX2_change 58 = .ok (.iload_n 3, 1) := by decide +kernel
theorem dX2_change_59 : decode cX2_change 59 = .ok (.iload_n 2, 1) := by decide +kernel
theorem dX2_change_60 : decode cX2_change 60 = .ok (.if_icmp .gt 15, 3) := by decide +kernel
theorem dX2_change_63 : decode cX2_change 63 = .ok (.aload_n 0, 1) := by decide +kernel
theorem dX2_change_64 : decode cX2_change 64 = .ok (.getfield 7, 3) := by decide +kernel
theorem dX2_change_67 : decode cX2_change 67 = .ok (.iload_n 2, 1) := by decide +kernel
theorem dX2_change_68 : decode cX2_change 68 = .ok (.iload_n 3, 1) := by decide +kernel
theorem dX2_change_69 : decode cX2_change 69 = .ok (.isub, 1) := by decide +kernel
theorem dX2_change_70 : decode cX2_change 70 = .ok (.iaload, 1) := by decide +kernel
theorem dX2_change_71 : decode cX2_change 71 = .ok (.i2l, 1) := by decide +kernel
theorem dX2_change_72 : decode cX2_change 72 = .ok (.goto 32, 3) := by decide +kernel
theorem dX2_change_75 : decode cX2_change 75 = .ok (.iload_n 1, 1) := by decide +kernel
theorem dX2_change_76 : decode cX2_change 76 = .ok (.ifCond .ne 21, 3) := by decide +kernel
theorem dX2_change_79 : decode cX2_change 79 = .ok (.iload_n 3, 1) := by decide +kernel
theorem dX2_change_80 : decode cX2_change 80 = .ok (.iconst 2, 1) := by decide +kernel
theorem dX2_change_81 : decode cX2_change 81 = .ok (.irem, 1) := by decide +kernel
theorem dX2_change_82 : decode cX2_change 82 = .ok (.iconst 1, 1) := by decide +kernel
theorem dX2_change_83 : decode cX2_change 83 = .ok (.if_icmp .ne 14, 3) := by decide +kernel
theorem dX2_change_86 : decode cX2_change 86 = .ok (.aload_n 0, 1) := by decide +kernel
theorem dX2_change_87 : decode cX2_change 87 = .ok (.getfield 7, 3) := by decide +kernel
theorem dX2_change_90 : decode cX2_change 90 = .ok (.iload_n 3, 1) := by decide +kernel
theorem dX2_change_91 : decode cX2_change 91 = .ok (.iaload, 1) := by decide +kernel
theorem dX2_change_92 : decode cX2_change 92 = .ok (.ineg, 1) := by decide +kernel
theorem dX2_change_93 : decode cX2_change 93 = .ok (.i2l, 1) := by decide +kernel
theorem dX2_change_94 : decode cX2_change 94 = .ok (.goto 10, 3) := by decide +kernel
theorem dX2_change_97 : decode cX2_change 97 = .ok (.aload_n 0, 1) := by decide +kernel
theorem dX2_change_98 : decode cX2_change 98 = .ok (.getfield 7, 3) := by decide +kernel
theorem dX2_change_101 : decode cX2_change 101 = .ok (.iload_n 3, 1) := by decide +kernel
theorem dX2_change_102 : decode cX2_change 102 = .ok (.iaload, 1) := by decide +kernel
theorem dX2_change_103 : decode cX2_change 103 = .ok (.i2l, 1) := by decide +kernel
theorem dX2_change_104 : decode cX2_change 104 = .ok (.lastore, 1) := by decide +kernel
theorem dX2_change_105 : decode cX2_change 105 = .ok (.iinc 3 1, 3) := by decide +kernel
theorem dX2_change_108 : decode cX2_change 108 = .ok (.goto (-65), 3) := by decide +kernel
theorem dX2_change_111 : decode cX2_change 111 = .ok (.iload_n 1, 1) := by decide +kernel
theorem dX2_change_112 : decode cX2_change 112 = .ok (.iconst 1, 1) := by decide +kernel
theorem dX2_change_113 : decode cX2_change 113 = .ok (.if_icmp .eq 8, 3) := by decide +kernel
theorem dX2_change_116 : decode cX2_change 116 = .ok (.iload_n 1, 1) := by decide +kernel
theorem dX2_change_117 : decode cX2_change 117 = .ok (.iconst (-1), 1) := by decide +kernel
theorem dX2_change_118 : decode cX2_change 118 = .ok (.if_icmp .ne 53, 3) := by decide +kernel
theorem dX2_change_121 : decode cX2_change 121 = .ok (.iconst 0, 1) := by decide +kernel
theorem dX2_change_122 : decode cX2_change 122 = .ok (.istore_n 3, 1) := by decide +kernel
theorem dX2_change_123 : decode cX2_change 123 = .ok (.iload_n 3, 1) := by decide +kernel
theorem dX2_change_124 : decode cX2_change 124 = .ok (.iconst 4, 1) := by decide +kernel
theorem dX2_change_125 : decode cX2_change 125 = .ok (.if_icmp .ge 46, 3) := by decide +kernel
theorem dX2_change_128 : decode cX2_change 128 = .ok (.iconst 3, 1) := by decide +kernel
theorem dX2_change_129 : decode cX2_change 129 = .ok (.istore 4, 2) := by decide +kernel
theorem dX2_change_131 : decode cX2_change 131 = .ok (.iload 4, 2) := by decide +kernel
theorem dX2_change_133 : decode cX2_change 133 = .ok (.iload_n 3, 1) := by decide +kernel
theorem dX2_change_134 : decode cX2_change 134 = .ok (.if_icmp .lt 31, 3) := by decide +kernel
theorem dX2_change_137 : decode cX2_change 137 = .ok (.aload_n 0, 1) := by decide +kernel
theorem dX2_change_138 : decode cX2_change 138 = .ok (.getfield 13, 3) := by decide +kernel
theorem dX2_change_141 : decode cX2_change 141 = .ok (.iload 4, 2) := by decide +kernel
theorem dX2_change_143 : decode cX2_change 143 = .ok (.dup2, 1) := by decide +kernel
theorem dX2_change_144 : decode cX2_change 144 = .ok (.laload, 1) := by decide +kernel
theorem dX2_change_145 : decode cX2_change 145 = .ok (.iload_n 1, 1) := by decide +kernel
theorem dX2_change_146 : decode cX2_change 146 = .ok (.i2l, 1) := by decide +kernel
theorem dX2_change_147 : decode cX2_change 147 = .ok (.aload_n 0, 1) := by decide +kernel
theorem dX2_change_148 : decode cX2_change 148 = .ok (.getfield 13, 3) := by decide +kernel
theorem dX2_change_151 : decode cX2_change 151 = .ok (.iload 4, 2) := by decide +kernel
theorem dX2_change_153 : decode cX2_change 153 = .ok (.iconst 1, 1) := by decide +kernel
theorem dX2_change_154 : decode cX2_change 154 = .ok (.iadd, 1) := by decide +kernel
theorem dX2_change_155 : decode cX2_change 155 = .ok (.laload, 1) := by decide +kernel
theorem dX2_change_156 : decode cX2_change 156 = .ok (.lmul, 1) := by decide +kernel
theorem dX2_change_157 : decode cX2_change 157 = .ok (.ladd, 1) := by decide +kernel
theorem dX2_change_158 : decode cX2_change 158 = .ok (.lastore, 1) := by decide +kernel
theorem dX2_change_159 : decode cX2_change 159 = .ok (.iinc 4 (-1), 3) := by decide +kernel
theorem dX2_change_162 : decode cX2_change 162 = .ok (.goto (-31), 3) := by decide +kernel
theorem dX2_change_165 : decode cX2_change 165 = .ok (.iinc 3 1, 3) := by decide +kernel
theorem dX2_change_168 : decode cX2_change 168 = .ok (.goto (-45), 3) := by decide +kernel
theorem dX2_change_171 : decode cX2_change 171 = .ok (.iconst 0, 1) := by decide +kernel
theorem dX2_change_172 : decode cX2_change 172 = .ok (.istore_n 3, 1) := by decide +kernel
theorem dX2_change_173 : decode cX2_change 173 = .ok (.iload_n 3, 1) := by decide +kernel
theorem dX2_change_174 : decode cX2_change 174 = .ok (.iconst 5, 1) := by decide +kernel
theorem dX2_change_175 : decode cX2_change 175 = .ok (.if_icmp .ge 29, 3) := by decide +kernel
theorem dX2_change_178 : decode cX2_change 178 = .ok (.aload_n 0, 1) := by decide +kernel
theorem dX2_change_179 : decode cX2_change 179 = .ok (.getfield 13, 3) := by decide +kernel
theorem dX2_change_182 : decode cX2_change 182 = .ok (.iload_n 3, 1) := by decide +kernel
theorem dX2_change_183 : decode cX2_change 183 = .ok (.laload, 1) := by decide +kernel
theorem dX2_change_184 : decode cX2_change 184 = .ok (.ldc2_w 57, 3) := by decide +kernel
theorem dX2_change_187 : decode cX2_change 187 = .ok (.ldc2_w 59, 3) := by decide +kernel
theorem dX2_change_190 : decode cX2_change 190 = .ok (.invokestatic 53, 3) := by decide +kernel
theorem dX2_change_193 : decode cX2_change 193 = .ok (.ifCond .ne 5, 3) := by decide +kernel
theorem dX2_change_196 : decode cX2_change 196 = .ok (.iconst 0, 1) := by decide +kernel
theorem dX2_change_197 : decode cX2_change 197 = .ok (.ireturn, 1) := by decide +kernel
theorem dX2_change_198 : decode cX2_change 198 = .ok (.iinc 3 1, 3) := by decide +kernel
theorem dX2_change_201 : decode cX2_change 201 = .ok (.goto (-28), 3) := by decide +kernel
theorem dX2_change_204 : decode cX2_change 204 = .ok (.iconst 0, 1) := by decide +kernel
theorem dX2_change_205 : decode cX2_change 205 = .ok (.istore_n 3, 1) := by decide +kernel
theorem dX2_change_206 : decode cX2_change 206 = .ok (.iload_n 3, 1) := by decide +kernel
theorem dX2_change_207 : decode cX2_change 207 = .ok (.iconst 5, 1) := by decide +kernel
theorem dX2_change_208 : decode cX2_change 208 = .ok (.if_icmp .ge 22, 3) := by decide +kernel
theorem dX2_change_211 : decode cX2_change 211 = .ok (.aload_n 0, 1) := by decide +kernel
theorem dX2_change_212 : decode cX2_change 212 = .ok (.getfield 7, 3) := by decide +kernel
theorem dX2_change_215 : decode cX2_change 215 = .ok (.iload_n 3, 1) := by decide +kernel
theorem dX2_change_216 : decode cX2_change 216 = .ok (.aload_n 0, 1) := by decide +kernel
theorem dX2_change_217 : decode cX2_change 217 = .ok (.getfield 13, 3) := by decide +kernel
theorem dX2_change_220 : decode cX2_change 220 = .ok (.iload_n 3, 1) := by decide +kernel
theorem dX2_change_221 : decode cX2_change 221 = .ok (.laload, 1) := by decide +kernel
theorem dX2_change_222 : decode cX2_change 222 = .ok (.l2i, 1) := by decide +kernel
theorem dX2_change_223 : decode cX2_change 223 = .ok (.iastore, 1) := by decide +kernel
theorem dX2_change_224 : decode cX2_change 224 = .ok (.iinc 3 1, 3) := by decide +kernel
theorem dX2_change_227 : decode cX2_change 227 = .ok (.goto (-21), 3) := by decide +kernel
theorem dX2_change_230 : decode cX2_change 230 = .ok (.iconst 1, 1) := by decide +kernel
theorem dX2_change_231 : decode cX2_change 231 = .ok (.ireturn, 1) := by decide +kernel
theorem dX2_restDegree_0 : decode cX2_restDegree 0 = .ok (.iconst 4, 1) := by decide +kernel
theorem dX2_restDegree_1 : decode cX2_restDegree 1 = .ok (.istore_n 1, 1) := by decide +kernel
theorem dX2_restDegree_2 : decode cX2_restDegree 2 = .ok (.aload_n 0, 1) := by decide +kernel
theorem dX2_restDegree_3 : decode cX2_restDegree 3 = .ok (.getfield 13, 3) := by decide +kernel
theorem dX2_restDegree_6 : decode cX2_restDegree 6 = .ok (.iload_n 1, 1) := by decide +kernel
theorem dX2_restDegree_7 : decode cX2_restDegree 7 = .ok (.laload, 1) := by decide +kernel
theorem dX2_restDegree_8 : decode cX2_restDegree 8 = .ok (.lconst 0, 1) := by decide +kernel
theorem dX2_restDegree_9 : decode cX2_restDegree 9 = .ok (.lcmp, 1) := by decide +kernel
theorem dX2_restDegree_10 : decode cX2_restDegree 10 = .ok (.ifCond .ne 9, 3) := by decide +kernel
theorem dX2_restDegree_13 : decode cX2_restDegree 13 = .ok (.iinc 1 (-1), 3) := by decide +kernel
theorem dX2_restDegree_16 : decode cX2_restDegree 16 = .ok (.goto (-14), 3) := by decide +kernel
theorem dX2_restDegree_19 : decode cX2_restDegree 19 = .ok (.iload_n 1, 1) := by decide +kernel
theorem dX2_restDegree_20 : decode cX2_restDegree 20 = .ok (.ireturn, 1) := by decide +kernel
theorem dX2_divides_0 : decode cX2_divides 0 = .ok (.iload_n 1, 1) := by decide +kernel
theorem dX2_divides_1 : decode cX2_divides 1 = .ok (.ifCond .ne 7, 3) := by decide +kernel
theorem dX2_divides_4 : decode cX2_divides 4 = .ok (.iconst 1, 1) := by decide +kernel
theorem dX2_divides_5 : decode cX2_divides 5 = .ok (.goto 4, 3) := by decide +kernel
theorem dX2_divides_8 : decode cX2_divides 8 = .ok (.iconst 2, 1) := by decide +kernel
theorem dX2_divides_9 : decode cX2_divides 9 = .ok (.istore 4, 2) := by decide +kernel
theorem dX2_divides_11 : decode cX2_divides 11 = .ok (.aload_n 0, 1) := by decide +kernel
theorem dX2_divides_12 : decode cX2_divides 12 = .ok (.invokevirtual 69, 3) := by decide +kernel
theorem dX2_divides_15 : decode cX2_divides 15 = .ok (.istore 5, 2) := by decide +kernel
theorem dX2_divides_17 : decode cX2_divides 17 = .ok (.iload 5, 2) := by decide +kernel
theorem dX2_divides_19 : decode cX2_divides 19 = .ok (.iload 4, 2) := by decide +kernel
theorem dX2_divides_21 : decode cX2_divides 21 = .ok (.if_icmp .ge 5, 3) := by decide +kernel
theorem dX2_divides_24 : decode cX2_divides 24 = .ok (.iconst 0, 1) := by decide +kernel
theorem dX2_divides_25 : decode cX2_divides 25 = .ok (.ireturn, 1) := by decide +kernel
theorem dX2_divides_26 : decode cX2_divides 26 = .ok (.iconst 0, 1) := by decide +kernel
theorem dX2_divides_27 : decode cX2_divides 27 = .ok (.istore 6, 2) := by decide +kernel
theorem dX2_divides_29 : decode cX2_divides 29 = .ok (.iload 6, 2) := by decide +kernel
theorem dX2_divides_31 : decode cX2_divides 31 = .ok (.iconst 5, 1) := by decide +kernel
theorem dX2_divides_32 : decode cX2_divides 32 = .ok (.if_icmp .ge 17, 3) := by decide +kernel
theorem dX2_divides_35 : decode cX2_divides 35 = .ok (.aload_n 0, 1) := by decide +kernel
theorem dX2_divides_36 : decode cX2_divides 36 = .ok (.getfield 17, 3) := by decide +kernel
theorem dX2_divides_39 : decode cX2_divides 39 = .ok (.iload 6, 2) := by decide +kernel
theorem dX2_divides_41 : decode cX2_divides 41 = .ok (.lconst 0, 1) := by decide +kernel
theorem dX2_divides_42 : decode cX2_divides 42 = .ok (.lastore, 1) := by decide +kernel
theorem dX2_divides_43 : decode cX2_divides 43 = .ok (.iinc 6 1, 3) := by decide +kernel
theorem dX2_divides_46 : decode cX2_divides 46 = .ok (.goto (-17), 3) := by decide +kernel
theorem dX2_divides_49 : decode cX2_divides 49 = .ok (.iload 5, 2) := by decide +kernel
theorem dX2_divides_51 : decode cX2_divides 51 = .ok (.istore 6, 2) := by decide +kernel
theorem dX2_divides_53 : decode cX2_divides 53 = .ok (.iload 6, 2) := by decide +kernel
theorem dX2_divides_55 : decode cX2_divides 55 = .ok (.ifCond .lt 211, 3) := by decide +kernel
theorem dX2_divides_58 : decode cX2_divides 58 = .ok (.aload_n 0, 1) := by decide +kernel
theorem dX2_divides_59 : decode cX2_divides 59 = .ok (.getfield 13, 3) := by decide +kernel
theorem dX2_divides_62 : decode cX2_divides 62 = .ok (.iload 6, 2) := by decide +kernel
theorem dX2_divides_64 : decode cX2_divides 64 = .ok (.laload, 1) := by decide +kernel
theorem dX2_divides_65 : decode cX2_divides 65 = .ok (.lstore 7, 2) := by decide +kernel
theorem dX2_divides_67 : decode cX2_divides 67 = .ok (.iload 4, 2) := by decide +kernel
theorem dX2_divides_69 : decode cX2_divides 69 = .ok (.iconst 1, 1) := by decide +kernel
theorem dX2_divides_70 : decode cX2_divides 70 = .ok (.if_icmp .ne 72, 3) := by decide +kernel
theorem dX2_divides_73 : decode cX2_divides 73 = .ok (.iload 6, 2) := by decide +kernel
theorem dX2_divides_75 : decode cX2_divides 75 = .ok (.iload 5, 2) := by decide +kernel
theorem dX2_divides_77 : decode cX2_divides 77 = .ok (.if_icmp .ge 18, 3) := by decide +kernel
theorem dX2_divides_80 : decode cX2_divides 80 = .ok (.lload 7, 2) := by decide +kernel
theorem dX2_divides_82 : decode cX2_divides 82 = .ok (.iload_n 3, 1) := by decide +kernel
theorem dX2_divides_83 : decode cX2_divides 83 = .ok (.i2l, 1) := by decide +kernel
theorem dX2_divides_84 : decode cX2_divides 84 = .ok (.aload_n 0, 1) := by decide +kernel
theorem dX2_divides_85 : decode cX2_divides 85 = .ok (.getfield 17, 3) := by decide +kernel
theorem dX2_divides_88 : decode cX2_divides 88 = .ok (.iload 6, 2) := by decide +kernel
theorem dX2_divides_90 : decode cX2_divides 90 = .ok (.laload, 1) := by decide +kernel
theorem dX2_divides_91 : decode cX2_divides 91 = .ok (.lmul, 1) := by decide +kernel
theorem dX2_divides_92 : decode cX2_divides 92 = .ok (.lsub, 1) := by decide +kernel
theorem dX2_divides_93 : decode cX2_divides 93 = .ok (.lstore 7, 2) := by decide +kernel
theorem dX2_divides_95 : decode cX2_divides 95 = .ok (.iload 6, 2) := by decide +kernel
theorem dX2_divides_97 : decode cX2_divides 97 = .ok (.ifCond .ne 16, 3) := by decide +kernel
theorem dX2_divides_100 : decode cX2_divides 100 = .ok (.lload 7, 2) := by decide +kernel
theorem dX2_divides_102 : decode cX2_divides 102 = .ok (.lconst 0, 1) := by decide +kernel
theorem dX2_divides_103 : decode cX2_divides 103 = .ok (.lcmp, 1) := by decide +kernel
theorem dX2_divides_104 : decode cX2_divides 104 = .ok (.ifCond .ne 7, 3) := by decide +kernel
theorem dX2_divides_107 : decode cX2_divides 107 = .ok (.iconst 1, 1) := by decide +kernel
theorem dX2_divides_108 : decode cX2_divides 108 = .ok (.goto 4, 3) := by decide +kernel
theorem dX2_divides_111 : decode cX2_divides 111 = .ok (.iconst 0, 1) := by decide +kernel
theorem dX2_divides_112 : decode cX2_divides 112 = .ok (.ireturn, 1) := by decide +kernel
theorem dX2_divides_113 : decode cX2_divides 113 = .ok (.lload 7, 2) := by decide +kernel
theorem dX2_divides_115 : decode cX2_divides 115 = .ok (.iload_n 2, 1) := by decide +kernel
theorem dX2_divides_116 : decode cX2_divides 116 = .ok (.i2l, 1) := by decide +kernel
theorem dX2_divides_117 : decode cX2_divides 117 = .ok (.lrem, 1) := by decide +kernel
theorem dX2_divides_118 : decode cX2_divides 118 = .ok (.lconst 0, 1) := by decide +kernel
theorem dX2_divides_119 : decode cX2_divides 119 = .ok (.lcmp, 1) := by decide +kernel
theorem dX2_divides_120 : decode cX2_divides 120 = .ok (.ifCond .eq 5, 3) := by decide +kernel
theorem dX2_divides_123 : decode cX2_divides 123 = .ok (.iconst 0, 1) := by decide +kernel
theorem dX2_divides_124 : decode cX2_divides 124 = .ok (.ireturn, 1) := by decide +kernel
theorem dX2_divides_125 : decode cX2_divides 125 = .ok (.aload_n 0, 1) := by decide +kernel
theorem dX2_divides_126 : decode cX2_divides 126 = .ok (.getfield 17, 3) := by decide +kernel
theorem dX2_divides_129 : decode cX2_divides 129 = .ok (.iload 6, 2) := by decide +kernel
theorem dX2_divides_131 : decode cX2_divides 131 = .ok (.iconst 1, 1) := by decide +kernel
theorem dX2_divides_132 : decode cX2_divides 132 = .ok (.isub, 1) := by decide +kernel
theorem dX2_divides_133 : decode cX2_divides 133 = .ok (.lload 7, 2) := by decide +kernel
theorem dX2_divides_135 : decode cX2_divides 135 = .ok (.iload_n 2, 1) := by decide +kernel
theorem dX2_divides_136 : decode cX2_divides 136 = .ok (.i2l, 1) := by decide +kernel
theorem dX2_divides_137 : decode cX2_divides 137 = .ok (.ldiv, 1) := by decide +kernel
theorem dX2_divides_138 : decode cX2_divides 138 = .ok (.lastore, 1) := by decide +kernel
theorem dX2_divides_139 : decode cX2_divides 139 = .ok (.goto 121, 3) := by decide +kernel
theorem dX2_divides_142 : decode cX2_divides 142 = .ok (.iload 6, 2) := by decide +kernel
theorem dX2_divides_144 : decode cX2_divides 144 = .ok (.iconst 1, 1) := by decide +kernel
theorem dX2_divides_145 : decode cX2_divides 145 = .ok (.isub, 1) := by decide +kernel
theorem dX2_divides_146 : decode cX2_divides 146 = .ok (.ifCond .lt 27, 3) := by decide +kernel
theorem dX2_divides_149 : decode cX2_divides 149 = .ok (.iload 6, 2) := by decide +kernel
theorem dX2_divides_151 : decode cX2_divides 151 = .ok (.iload 5, 2) := by decide +kernel
theorem dX2_divides_153 : decode cX2_divides 153 = .ok (.if_icmp .ge 20, 3) := by decide +kernel
theorem dX2_divides_156 : decode cX2_divides 156 = .ok (.lload 7, 2) := by decide +kernel
theorem dX2_divides_158 : decode cX2_divides 158 = .ok (.iload_n 2, 1) := by decide +kernel
theorem dX2_divides_159 : decode cX2_divides 159 = .ok (.i2l, 1) := by decide +kernel
theorem dX2_divides_160 : decode cX2_divides 160 = .ok (.aload_n 0, 1) := by decide +kernel
theorem dX2_divides_161 : decode cX2_divides 161 = .ok (.getfield 17, 3) := by decide +kernel
theorem dX2_divides_164 : decode cX2_divides 164 = .ok (.iload 6, 2) := by decide +kernel
theorem dX2_divides_166 : decode cX2_divides 166 = .ok (.iconst 1, 1) := by decide +kernel
theorem dX2_divides_167 : decode cX2_divides 167 = .ok (.isub, 1) := by decide +kernel
theorem dX2_divides_168 : decode cX2_divides 168 = .ok (.laload, 1) := by decide +kernel
theorem dX2_divides_169 : decode cX2_divides 169 = .ok (.lmul, 1) := by decide +kernel
theorem dX2_divides_170 : decode cX2_divides 170 = .ok (.lsub, 1) := by decide +kernel
theorem dX2_divides_171 : decode cX2_divides 171 = .ok (.lstore 7, 2) := by decide +kernel
theorem dX2_divides_173 : decode cX2_divides 173 = .ok (.iload 6, 2) := by decide +kernel
theorem dX2_divides_175 : decode cX2_divides 175 = .ok (.ifCond .ne 20, 3) := by decide +kernel
theorem dX2_divides_178 : decode cX2_divides 178 = .ok (.lload 7, 2) := by decide +kernel
theorem dX2_divides_180 : decode cX2_divides 180 = .ok (.iload_n 3, 1) := by decide +kernel
theorem dX2_divides_181 : decode cX2_divides 181 = .ok (.i2l, 1) := by decide +kernel
theorem dX2_divides_182 : decode cX2_divides 182 = .ok (.aload_n 0, 1) := by decide +kernel
theorem dX2_divides_183 : decode cX2_divides 183 = .ok (.getfield 17, 3) := by decide +kernel
theorem dX2_divides_186 : decode cX2_divides 186 = .ok (.iconst 0, 1) := by decide +kernel
theorem dX2_divides_187 : decode cX2_divides 187 = .ok (.laload, 1) := by decide +kernel
theorem dX2_divides_188 : decode cX2_divides 188 = .ok (.lmul, 1) := by decide +kernel
theorem dX2_divides_189 : decode cX2_divides 189 = .ok (.lsub, 1) := by decide +kernel
theorem dX2_divides_190 : decode cX2_divides 190 = .ok (.lstore 7, 2) := by decide +kernel
theorem dX2_divides_192 : decode cX2_divides 192 = .ok (.goto 27, 3) := by decide +kernel
theorem dX2_divides_195 : decode cX2_divides 195 = .ok (.iload 6, 2) := by decide +kernel
theorem dX2_divides_197 : decode cX2_divides 197 = .ok (.iload 5, 2) := by decide +kernel
theorem dX2_divides_199 : decode cX2_divides 199 = .ok (.iconst 2, 1) := by decide +kernel
theorem dX2_divides_200 : decode cX2_divides 200 = .ok (.isub, 1) := by decide +kernel
theorem dX2_divides_201 : decode cX2_divides 201 = .ok (.if_icmp .gt 18, 3) := by decide +kernel
theorem dX2_divides_204 : decode cX2_divides 204 = .ok (.lload 7, 2) := by decide +kernel
theorem dX2_divides_206 : decode cX2_divides 206 = .ok (.iload_n 3, 1) := by decide +kernel
theorem dX2_divides_207 : decode cX2_divides 207 = .ok (.i2l, 1) := by decide +kernel
theorem dX2_divides_208 : decode cX2_divides 208 = .ok (.aload_n 0, 1) := by decide +kernel
theorem dX2_divides_209 : decode cX2_divides 209 = .ok (.getfield 17, 3) := by decide +kernel
theorem dX2_divides_212 : decode cX2_divides 212 = .ok (.iload 6, 2) := by decide +kernel
theorem dX2_divides_214 : decode cX2_divides 214 = .ok (.laload, 1) := by decide +kernel
theorem dX2_divides_215 : decode cX2_divides 215 = .ok (.lmul, 1) := by decide +kernel
theorem dX2_divides_216 : decode cX2_divides 216 = .ok (.lsub, 1) := by decide +kernel
theorem dX2_divides_217 : decode cX2_divides 217 = .ok (.lstore 7, 2) := by decide +kernel
theorem dX2_divides_219 : decode cX2_divides 219 = .ok (.iload 6, 2) := by decide +kernel
theorem dX2_divides_221 : decode cX2_divides 221 = .ok (.iconst 2, 1) := by decide +kernel
theorem dX2_divides_222 : decode cX2_divides 222 = .ok (.if_icmp .ge 12, 3) := by decide +kernel
theorem dX2_divides_225 : decode cX2_divides 225 = .ok (.lload 7, 2) := by decide +kernel
theorem dX2_divides_227 : decode cX2_divides 227 = .ok (.lconst 0, 1) := by decide +kernel
theorem dX2_divides_228 : decode cX2_divides 228 = .ok (.lcmp, 1) := by decide +kernel
theorem dX2_divides_229 : decode cX2_divides 229 = .ok (.ifCond .eq 31, 3) := by decide +kernel
theorem dX2_divides_232 : decode cX2_divides 232 = .ok (.iconst 0, 1) := by decide +kernel
theorem dX2_divides_233 : decode cX2_divides 233 = .ok (.ireturn, 1) := by decide +kernel
theorem dX2_divides_234 : decode cX2_divides 234 = .ok (.lload 7, 2) := by decide +kernel
theorem dX2_divides_236 : decode cX2_divides 236 = .ok (.iload_n 1, 1) := by decide +kernel
theorem dX2_divides_237 : decode cX2_divides 237 = .ok (.i2l, 1) := by decide +kernel
theorem dX2_divides_238 : decode cX2_divides 238 = .ok (.lrem, 1) := by decide +kernel
theorem dX2_divides_239 : decode cX2_divides 239 = .ok (.lconst 0, 1) := by decide +kernel
theorem dX2_divides_240 : decode cX2_divides 240 = .ok (.lcmp, 1) := by decide +kernel
theorem dX2_divides_241 : decode cX2_divides 241 = .ok (.ifCond .eq 5, 3) := by decide +kernel
theorem dX2_divides_244 : decode cX2_divides 244 = .ok (.iconst 0, 1) := by decide +kernel
theorem dX2_divides_245 : decode cX2_divides 245 = .ok (.ireturn, 1) := by decide +kernel
theorem dX2_divides_246 : decode cX2_divides 246 = .ok (.aload_n 0, 1) := by decide +kernel
theorem dX2_divides_247 : decode cX2_divides 247 = .ok (.getfield 17, 3) := by decide +kernel
theorem dX2_divides_250 : decode cX2_divides 250 = .ok (.iload 6, 2) := by decide +kernel
theorem dX2_divides_252 : decode cX2_divides 252 = .ok (.iconst 2, 1) := by decide +kernel
theorem dX2_divides_253 : decode cX2_divides 253 = .ok (.isub, 1) := by decide +kernel
theorem dX2_divides_254 : decode cX2_divides 254 = .ok (.lload 7, 2) := by decide +kernel
theorem dX2_divides_256 : decode cX2_divides 256 = .ok (.iload_n 1, 1) := by decide +kernel
theorem dX2_divides_257 : decode cX2_divides 257 = .ok (.i2l, 1) := by decide +kernel
theorem dX2_divides_258 : decode cX2_divides 258 = .ok (.ldiv, 1) := by decide +kernel
theorem dX2_divides_259 : decode cX2_divides 259 = .ok (.lastore, 1) := by decide +kernel
theorem dX2_divides_260 : decode cX2_divides 260 = .ok (.iinc 6 (-1), 3) := by decide +kernel
theorem dX2_divides_263 : decode cX2_divides 263 = .ok (.goto (-210), 3) := by decide +kernel
theorem dX2_divides_266 : decode cX2_divides 266 = .ok (.iconst 1, 1) := by decide +kernel
theorem dX2_divides_267 : decode cX2_divides 267 = .ok (.ireturn, 1) := by decide +kernel
theorem dX2_take_0 : decode cX2_take 0 = .ok (.aload_n 0, 1) := by decide +kernel
theorem dX2_take_1 : decode cX2_take 1 = .ok (.getfield 20, 3) := by decide +kernel
theorem dX2_take_4 : decode cX2_take 4 = .ok (.aload_n 0, 1) := by decide +kernel
theorem dX2_take_5 : decode cX2_take 5 = .ok (.getfield 72, 3) := by decide +kernel
theorem dX2_take_8 : decode cX2_take 8 = .ok (.iload_n 1, 1) := by decide +kernel
theorem dX2_take_9 : decode cX2_take 9 = .ok (.iastore, 1) := by decide +kernel
theorem dX2_take_10 : decode cX2_take 10 = .ok (.aload_n 0, 1) := by decide +kernel
theorem dX2_take_11 : decode cX2_take 11 = .ok (.getfield 23, 3) := by decide +kernel
theorem dX2_take_14 : decode cX2_take 14 = .ok (.aload_n 0, 1) := by decide +kernel
theorem dX2_take_15 : decode cX2_take 15 = .ok (.getfield 72, 3) := by decide +kernel
theorem dX2_take_18 : decode cX2_take 18 = .ok (.iload_n 2, 1) := by decide +kernel
theorem dX2_take_19 : decode cX2_take 19 = .ok (.iastore, 1) := by decide +kernel
theorem dX2_take_20 : decode cX2_take 20 = .ok (.aload_n 0, 1) := by decide +kernel
theorem dX2_take_21 : decode cX2_take 21 = .ok (.getfield 26, 3) := by decide +kernel
theorem dX2_take_24 : decode cX2_take 24 = .ok (.aload_n 0, 1) := by decide +kernel
theorem dX2_take_25 : decode cX2_take 25 = .ok (.getfield 72, 3) := by decide +kernel
theorem dX2_take_28 : decode cX2_take 28 = .ok (.iload_n 3, 1) := by decide +kernel
theorem dX2_take_29 : decode cX2_take 29 = .ok (.iastore, 1) := by decide +kernel
theorem dX2_take_30 : decode cX2_take 30 = .ok (.aload_n 0, 1) := by decide +kernel
theorem dX2_take_31 : decode cX2_take 31 = .ok (.getfield 29, 3) := by decide +kernel
theorem dX2_take_34 : decode cX2_take 34 = .ok (.aload_n 0, 1) := by decide +kernel
theorem dX2_take_35 : decode cX2_take 35 = .ok (.getfield 72, 3) := by decide +kernel
theorem dX2_take_38 : decode cX2_take 38 = .ok (.iconst 0, 1) := by decide +kernel
theorem dX2_take_39 : decode cX2_take 39 = .ok (.iastore, 1) := by decide +kernel
theorem dX2_take_40 : decode cX2_take 40 = .ok (.aload_n 0, 1) := by decide +kernel
theorem dX2_take_41 : decode cX2_take 41 = .ok (.iload_n 1, 1) := by decide +kernel
theorem dX2_take_42 : decode cX2_take 42 = .ok (.iload_n 2, 1) := by decide +kernel
theorem dX2_take_43 : decode cX2_take 43 = .ok (.iload_n 3, 1) := by decide +kernel
theorem dX2_take_44 : decode cX2_take 44 = .ok (.invokevirtual 75, 3) := by decide +kernel
theorem dX2_take_47 : decode cX2_take 47 = .ok (.ifCond .eq 48, 3) := by decide +kernel
theorem dX2_take_50 : decode cX2_take 50 = .ok (.iconst 0, 1) := by decide +kernel
theorem dX2_take_51 : decode cX2_take 51 = .ok (.istore 4, 2) := by decide +kernel
theorem dX2_take_53 : decode cX2_take 53 = .ok (.iload 4, 2) := by decide +kernel
theorem dX2_take_55 : decode cX2_take 55 = .ok (.iconst 5, 1) := by decide +kernel
theorem dX2_take_56 : decode cX2_take 56 = .ok (.if_icmp .ge 23, 3) := by decide +kernel
theorem dX2_take_59 : decode cX2_take 59 = .ok (.aload_n 0, 1) := by decide +kernel
theorem dX2_take_60 : decode cX2_take 60 = .ok (.getfield 13, 3) := by decide +kernel
theorem dX2_take_63 : decode cX2_take 63 = .ok (.iload 4, 2) := by decide +kernel
theorem dX2_take_65 : decode cX2_take 65 = .ok (.aload_n 0, 1) := by decide +kernel
theorem dX2_take_66 : decode cX2_take 66 = .ok (.getfield 17, 3) := by decide +kernel
theorem dX2_take_69 : decode cX2_take 69 = .ok (.iload 4, 2) := by decide +kernel
theorem dX2_take_71 : decode cX2_take 71 = .ok (.laload, 1) := by decide +kernel
theorem dX2_take_72 : decode cX2_take 72 = .ok (.lastore, 1) := by decide +kernel
theorem dX2_take_73 : decode cX2_take 73 = .ok (.iinc 4 1, 3) := by decide +kernel
theorem dX2_take_76 : decode cX2_take 76 = .ok (.goto (-23), 3) := by decide +kernel
theorem dX2_take_79 : decode cX2_take 79 = .ok (.aload_n 0, 1) := by decide +kernel
theorem dX2_take_80 : decode cX2_take 80 = .ok (.getfield 29, 3) := by decide +kernel
theorem dX2_take_83 : decode cX2_take 83 = .ok (.aload_n 0, 1) := by decide +kernel
theorem dX2_take_84 : decode cX2_take 84 = .ok (.getfield 72, 3) := by decide +kernel
theorem dX2_take_87 : decode cX2_take 87 = .ok (.dup2, 1) := by decide +kernel
theorem dX2_take_88 : decode cX2_take 88 = .ok (.iaload, 1) := by decide +kernel
theorem dX2_take_89 : decode cX2_take 89 = .ok (.iconst 1, 1) := by decide +kernel
theorem dX2_take_90 : decode cX2_take 90 = .ok (.iadd, 1) := by decide +kernel
theorem dX2_take_91 : decode cX2_take 91 = .ok (.iastore, 1) := by decide +kernel
theorem dX2_take_92 : decode cX2_take 92 = .ok (.goto (-52), 3) := by decide +kernel
theorem dX2_take_95 : decode cX2_take 95 = .ok (.aload_n 0, 1) := by decide +kernel
theorem dX2_take_96 : decode cX2_take 96 = .ok (.getfield 29, 3) := by decide +kernel
theorem dX2_take_99 : decode cX2_take 99 = .ok (.aload_n 0, 1) := by decide +kernel
theorem dX2_take_100 : decode cX2_take 100 = .ok (.getfield 72, 3) := by decide +kernel
theorem dX2_take_103 : decode cX2_take 103 = .ok (.iaload, 1) := by decide +kernel
theorem dX2_take_104 : decode cX2_take 104 = .ok (.ifCond .le 13, 3) := by decide +kernel
theorem dX2_take_107 : decode cX2_take 107 = .ok (.aload_n 0, 1) := by decide +kernel
theorem dX2_take_108 : decode cX2_take 108 = .ok (.dup, 1) := by decide +kernel
theorem dX2_take_109 : decode cX2_take 109 = .ok (.getfield 72, 3) := by decide +kernel
theorem dX2_take_112 : decode cX2_take 112 = .ok (.iconst 1, 1) := by decide +kernel
theorem dX2_take_113 : decode cX2_take 113 = .ok (.iadd, 1) := by decide +kernel
theorem dX2_take_114 : decode cX2_take 114 = .ok (.putfield 72, 3) := by decide +kernel
theorem dX2_take_117 : decode cX2_take 117 = .ok (.return_, 1) := by decide +kernel
theorem dX2_order_0 : decode cX2_order 0 = .ok (.aload_n 0, 1) := by decide +kernel
theorem dX2_order_1 : decode cX2_order 1 = .ok (.getfield 72, 3) := by decide +kernel
theorem dX2_order_4 : decode cX2_order 4 = .ok (.iconst 1, 1) := by decide +kernel
theorem dX2_order_5 : decode cX2_order 5 = .ok (.isub, 1) := by decide +kernel
theorem dX2_order_6 : decode cX2_order 6 = .ok (.istore_n 1, 1) := by decide +kernel
theorem dX2_order_7 : decode cX2_order 7 = .ok (.iload_n 1, 1) := by decide +kernel
theorem dX2_order_8 : decode cX2_order 8 = .ok (.ifCond .le 140, 3) := by decide +kernel
theorem dX2_order_11 : decode cX2_order 11 = .ok (.aload_n 0, 1) := by decide +kernel
theorem dX2_order_12 : decode cX2_order 12 = .ok (.getfield 26, 3) := by decide +kernel
theorem dX2_order_15 : decode cX2_order 15 = .ok (.iload_n 1, 1) := by decide +kernel
theorem dX2_order_16 : decode cX2_order 16 = .ok (.iconst 1, 1) := by decide +kernel
theorem dX2_order_17 : decode cX2_order 17 = .ok (.isub, 1) := by decide +kernel
theorem dX2_order_18 : decode cX2_order 18 = .ok (.iaload, 1) := by decide +kernel
theorem dX2_order_19 : decode cX2_order 19 = .ok (.ineg, 1) := by decide +kernel
theorem dX2_order_20 : decode cX2_order 20 = .ok (.i2l, 1) := by decide +kernel
theorem dX2_order_21 : decode cX2_order 21 = .ok (.aload_n 0, 1) := by decide +kernel
theorem dX2_order_22 : decode cX2_order 22 = .ok (.getfield 23, 3) := by decide +kernel
theorem dX2_order_25 : decode cX2_order 25 = .ok (.iload_n 1, 1) := by decide +kernel
theorem dX2_order_26 : decode cX2_order 26 = .ok (.iaload, 1) := by decide +kernel
theorem dX2_order_27 : decode cX2_order 27 = .ok (.i2l, 1) := by decide +kernel
theorem dX2_order_28 : decode cX2_order 28 = .ok (.lmul, 1) := by decide +kernel
theorem dX2_order_29 : decode cX2_order 29 = .ok (.aload_n 0, 1) := by decide +kernel
theorem dX2_order_30 : decode cX2_order 30 = .ok (.getfield 26, 3) := by decide +kernel
theorem dX2_order_33 : decode cX2_order 33 = .ok (.iload_n 1, 1) := by decide +kernel
theorem dX2_order_34 : decode cX2_order 34 = .ok (.iaload, 1) := by decide +kernel
theorem dX2_order_35 : decode cX2_order 35 = .ok (.ineg, 1) := by decide +kernel
theorem dX2_order_36 : decode cX2_order 36 = .ok (.i2l, 1) := by decide +kernel
theorem dX2_order_37 : decode cX2_order 37 = .ok (.aload_n 0, 1) := by decide +kernel
theorem dX2_order_38 : decode cX2_order 38 = .ok (.getfield 23, 3) := by decide +kernel
theorem dX2_order_41 : decode cX2_order 41 = .ok (.iload_n 1, 1) := by decide +kernel
theorem dX2_order_42 : decode cX2_order 42 = .ok (.iconst 1, 1) := by decide +kernel
theorem dX2_order_43 : decode cX2_order 43 = .ok (.isub, 1) := by decide +kernel
theorem dX2_order_44 : decode cX2_order 44 = .ok (.iaload, 1) := by decide +kernel
theorem dX2_order_45 : decode cX2_order 45 = .ok (.i2l, 1) := by decide +kernel
theorem dX2_order_46 : decode cX2_order 46 = .ok (.lmul, 1) := by decide +kernel
theorem dX2_order_47 : decode cX2_order 47 = .ok (.lcmp, 1) := by decide +kernel
theorem dX2_order_48 : decode cX2_order 48 = .ok (.ifCond .ge 4, 3) := by decide +kernel
theorem dX2_order_51 : decode cX2_order 51 = .ok (.return_, 1) := by decide +kernel
theorem dX2_order_52 : decode cX2_order 52 = .ok (.aload_n 0, 1) := by decide +kernel
theorem dX2_order_53 : decode cX2_order 53 = .ok (.getfield 23, 3) := by decide +kernel
theorem dX2_order_56 : decode cX2_order 56 = .ok (.iload_n 1, 1) := by decide +kernel
theorem dX2_order_57 : decode cX2_order 57 = .ok (.iaload, 1) := by decide +kernel
theorem dX2_order_58 : decode cX2_order 58 = .ok (.istore_n 2, 1) := by decide +kernel
theorem dX2_order_59 : decode cX2_order 59 = .ok (.aload_n 0, 1) := by decide +kernel
theorem dX2_order_60 : decode cX2_order 60 = .ok (.getfield 23, 3) := by decide +kernel
theorem dX2_order_63 : decode cX2_order 63 = .ok (.iload_n 1, 1) := by decide +kernel
theorem dX2_order_64 : decode cX2_order 64 = .ok (.aload_n 0, 1) := by decide +kernel
theorem dX2_order_65 : decode cX2_order 65 = .ok (.getfield 23, 3) := by decide +kernel
theorem dX2_order_68 : decode cX2_order 68 = .ok (.iload_n 1, 1) := by decide +kernel
theorem dX2_order_69 : decode cX2_order 69 = .ok (.iconst 1, 1) := by decide +kernel
theorem dX2_order_70 : decode cX2_order 70 = .ok (.isub, 1) := by decide +kernel
theorem dX2_order_71 : decode cX2_order 71 = .ok (.iaload, 1) := by decide +kernel
theorem dX2_order_72 : decode cX2_order 72 = .ok (.iastore, 1) := by decide +kernel
theorem dX2_order_73 : decode cX2_order 73 = .ok (.aload_n 0, 1) := by decide +kernel
theorem dX2_order_74 : decode cX2_order 74 = .ok (.getfield 23, 3) := by decide +kernel
theorem dX2_order_77 : decode cX2_order 77 = .ok (.iload_n 1, 1) := by decide +kernel
theorem dX2_order_78 : decode cX2_order 78 = .ok (.iconst 1, 1) := by decide +kernel
theorem dX2_order_79 : decode cX2_order 79 = .ok (.isub, 1) := by decide +kernel
theorem dX2_order_80 : decode cX2_order 80 = .ok (.iload_n 2, 1) := by decide +kernel
theorem dX2_order_81 : decode cX2_order 81 = .ok (.iastore, 1) := by decide +kernel
theorem dX2_order_82 : decode cX2_order 82 = .ok (.aload_n 0, 1) := by decide +kernel
theorem dX2_order_83 : decode cX2_order 83 = .ok (.getfield 26, 3) := by decide +kernel
theorem dX2_order_86 : decode cX2_order 86 = .ok (.iload_n 1, 1) := by decide +kernel
theorem dX2_order_87 : decode cX2_order 87 = .ok (.iaload, 1) := by decide +kernel
theorem dX2_order_88 : decode cX2_order 88 = .ok (.istore_n 2, 1) := by decide +kernel
theorem dX2_order_89 : decode cX2_order 89 = .ok (.aload_n 0, 1) := by decide +kernel
theorem dX2_order_90 : decode cX2_order 90 = .ok (.getfield 26, 3) := by decide +kernel
theorem dX2_order_93 : decode cX2_order 93 = .ok (.iload_n 1, 1) := by decide +kernel
theorem dX2_order_94 : decode cX2_order 94 = .ok (.aload_n 0, 1) := by decide +kernel
theorem dX2_order_95 : decode cX2_order 95 = .ok (.getfield 26, 3) := by decide +kernel
theorem dX2_order_98 : decode cX2_order 98 = .ok (.iload_n 1, 1) := by decide +kernel
theorem dX2_order_99 : decode cX2_order 99 = .ok (.iconst 1, 1) := by decide +kernel
theorem dX2_order_100 : decode cX2_order 100 = .ok (.isub, 1) := by decide +kernel
theorem dX2_order_101 : decode cX2_order 101 = .ok (.iaload, 1) := by decide +kernel
theorem dX2_order_102 : decode cX2_order 102 = .ok (.iastore, 1) := by decide +kernel
theorem dX2_order_103 : decode cX2_order 103 = .ok (.aload_n 0, 1) := by decide +kernel
theorem dX2_order_104 : decode cX2_order 104 = .ok (.getfield 26, 3) := by decide +kernel
theorem dX2_order_107 : decode cX2_order 107 = .ok (.iload_n 1, 1) := by decide +kernel
theorem dX2_order_108 : decode cX2_order 108 = .ok (.iconst 1, 1) := by decide +kernel
theorem dX2_order_109 : decode cX2_order 109 = .ok (.isub, 1) := by decide +kernel
theorem dX2_order_110 : decode cX2_order 110 = .ok (.iload_n 2, 1) := by decide +kernel
theorem dX2_order_111 : decode cX2_order 111 = .ok (.iastore, 1) := by decide +kernel
theorem dX2_order_112 : decode cX2_order 112 = .ok (.aload_n 0, 1) := by decide +kernel
theorem dX2_order_113 : decode cX2_order 113 = .ok (.getfield 29, 3) := by decide +kernel
theorem dX2_order_116 : decode cX2_order 116 = .ok (.iload_n 1, 1) := by decide +kernel
theorem dX2_order_117 : decode cX2_order 117 = .ok (.iaload, 1) := by decide +kernel
theorem dX2_order_118 : decode cX2_order 118 = .ok (.istore_n 2, 1) := by decide +kernel
theorem dX2_order_119 : decode cX2_order 119 = .ok (.aload_n 0, 1) := by decide +kernel
theorem dX2_order_120 : decode cX2_order 120 = .ok (.getfield 29, 3) := by decide +kernel
theorem dX2_order_123 : decode cX2_order 123 = .ok (.iload_n 1, 1) := by decide +kernel
theorem dX2_order_124 : decode cX2_order 124 = .ok (.aload_n 0, 1) := by decide +kernel
theorem dX2_order_125 : decode cX2_order 125 = .ok (.getfield 29, 3) := by decide +kernel
theorem dX2_order_128 : decode cX2_order 128 = .ok (.iload_n 1, 1) := by decide +kernel
theorem dX2_order_129 : decode cX2_order 129 = .ok (.iconst 1, 1) := by decide +kernel
theorem dX2_order_130 : decode cX2_order 130 = .ok (.isub, 1) := by decide +kernel
theorem dX2_order_131 : decode cX2_order 131 = .ok (.iaload, 1) := by decide +kernel
theorem dX2_order_132 : decode cX2_order 132 = .ok (.iastore, 1) := by decide +kernel
theorem dX2_order_133 : decode cX2_order 133 = .ok (.aload_n 0, 1) := by decide +kernel
theorem dX2_order_134 : decode cX2_order 134 = .ok (.getfield 29, 3) := by decide +kernel
theorem dX2_order_137 : decode cX2_order 137 = .ok (.iload_n 1, 1) := by decide +kernel
theorem dX2_order_138 : decode cX2_order 138 = .ok (.iconst 1, 1) := by decide +kernel
theorem dX2_order_139 : decode cX2_order 139 = .ok (.isub, 1) := by decide +kernel
theorem dX2_order_140 : decode cX2_order 140 = .ok (.iload_n 2, 1) := by decide +kernel
theorem dX2_order_141 : decode cX2_order 141 = .ok (.iastore, 1) := by decide +kernel
theorem dX2_order_142 : decode cX2_order 142 = .ok (.iinc 1 (-1), 3) := by decide +kernel
theorem dX2_order_145 : decode cX2_order 145 = .ok (.goto (-138), 3) := by decide +kernel
theorem dX2_order_148 : decode cX2_order 148 = .ok (.return_, 1) := by decide +kernel
theorem dX2_isNone_0 : decode cX2_isNone 0 = .ok (.aload_n 0, 1) := by decide +kernel
theorem dX2_isNone_1 : decode cX2_isNone 1 = .ok (.invokevirtual 65, 3) := by decide +kernel
theorem dX2_isNone_4 : decode cX2_isNone 4 = .ok (.ifCond .ge 7, 3) := by decide +kernel
theorem dX2_isNone_7 : decode cX2_isNone 7 = .ok (.iconst 1, 1) := by decide +kernel
theorem dX2_isNone_8 : decode cX2_isNone 8 = .ok (.goto 4, 3) := by decide +kernel
theorem dX2_isNone_11 : decode cX2_isNone 11 = .ok (.iconst 0, 1) := by decide +kernel
theorem dX2_isNone_12 : decode cX2_isNone 12 = .ok (.ireturn, 1) := by decide +kernel
theorem dX2_find_0 : decode cX2_find 0 = .ok (.aload_n 0, 1) := by decide +kernel
theorem dX2_find_1 : decode cX2_find 1 = .ok (.iconst 0, 1) := by decide +kernel
theorem dX2_find_2 : decode cX2_find 2 = .ok (.putfield 72, 3) := by decide +kernel
theorem dX2_find_5 : decode cX2_find 5 = .ok (.aload_n 0, 1) := by decide +kernel
theorem dX2_find_6 : decode cX2_find 6 = .ok (.invokevirtual 65, 3) := by decide +kernel
theorem dX2_find_9 : decode cX2_find 9 = .ok (.istore_n 1, 1) := by decide +kernel
theorem dX2_find_10 : decode cX2_find 10 = .ok (.lconst 0, 1) := by decide +kernel
theorem dX2_find_11 : decode cX2_find 11 = .ok (.lstore_n 2, 1) := by decide +kernel
theorem dX2_find_12 : decode cX2_find 12 = .ok (.iconst 0, 1) := by decide +kernel
theorem dX2_find_13 : decode cX2_find 13 = .ok (.istore 4, 2) := by decide +kernel
theorem dX2_find_15 : decode cX2_find 15 = .ok (.iload 4, 2) := by decide +kernel
theorem dX2_find_17 : decode cX2_find 17 = .ok (.iconst 5, 1) := by decide +kernel
theorem dX2_find_18 : decode cX2_find 18 = .ok (.if_icmp .ge 22, 3) := by decide +kernel
theorem dX2_find_21 : decode cX2_find 21 = .ok (.lload_n 2, 1) := by decide +kernel
theorem dX2_find_22 : decode cX2_find 22 = .ok (.aload_n 0, 1) := by decide +kernel
theorem dX2_find_23 : decode cX2_find 23 = .ok (.getfield 7, 3) := by decide +kernel
theorem dX2_find_26 : decode cX2_find 26 = .ok (.iload 4, 2) := by decide +kernel
theorem dX2_find_28 : decode cX2_find 28 = .ok (.iaload, 1) := by decide +kernel
theorem dX2_find_29 : decode cX2_find 29 = .ok (.i2l, 1) := by decide +kernel
theorem dX2_find_30 : decode cX2_find 30 = .ok (.invokestatic 40, 3) := by decide +kernel
theorem dX2_find_33 : decode cX2_find 33 = .ok (.lstore_n 2, 1) := by decide +kernel
theorem dX2_find_34 : decode cX2_find 34 = .ok (.iinc 4 1, 3) := by decide +kernel
theorem dX2_find_37 : decode cX2_find 37 = .ok (.goto (-22), 3) := by decide +kernel
theorem dX2_find_40 : decode cX2_find 40 = .ok (.aload_n 0, 1) := by decide +kernel
theorem dX2_find_41 : decode cX2_find 41 = .ok (.aload_n 0, 1) := by decide +kernel
theorem dX2_find_42 : decode cX2_find 42 = .ok (.getfield 7, 3) := by decide +kernel
theorem dX2_find_45 : decode cX2_find 45 = .ok (.iload_n 1, 1) := by decide +kernel
theorem dX2_find_46 : decode cX2_find 46 = .ok (.iaload, 1) := by decide +kernel
theorem dX2_find_47 : decode cX2_find 47 = .ok (.ifCond .ge 8, 3) := by decide +kernel
theorem dX2_find_50 : decode cX2_find 50 = .ok (.lload_n 2, 1) := by decide +kernel
theorem dX2_find_51 : decode cX2_find 51 = .ok (.lneg, 1) := by decide +kernel
theorem dX2_find_52 : decode cX2_find 52 = .ok (.goto 4, 3) := by decide +kernel
theorem dX2_find_55 : decode cX2_find 55 = .ok (.lload_n 2, 1) := by decide +kernel
theorem dX2_find_56 : decode cX2_find 56 = .ok (.l2i, 1) := by decide +kernel
theorem dX2_find_57 : decode cX2_find 57 = .ok (.putfield 79, 3) := by decide +kernel
theorem dX2_find_60 : decode cX2_find 60 = .ok (.iconst 0, 1) := by decide +kernel
theorem dX2_find_61 : decode cX2_find 61 = .ok (.istore 4, 2) := by decide +kernel
theorem dX2_find_63 : decode cX2_find 63 = .ok (.iload 4, 2) := by decide +kernel
theorem dX2_find_65 : decode cX2_find 65 = .ok (.iconst 5, 1) := by decide +kernel
theorem dX2_find_66 : decode cX2_find 66 = .ok (.if_icmp .ge 29, 3) := by decide +kernel
theorem dX2_find_69 : decode cX2_find 69 = .ok (.aload_n 0, 1) := by decide +kernel
theorem dX2_find_70 : decode cX2_find 70 = .ok (.getfield 13, 3) := by decide +kernel
theorem dX2_find_73 : decode cX2_find 73 = .ok (.iload 4, 2) := by decide +kernel
theorem dX2_find_75 : decode cX2_find 75 = .ok (.aload_n 0, 1) := by decide +kernel
theorem dX2_find_76 : decode cX2_find 76 = .ok (.getfield 7, 3) := by decide +kernel
theorem dX2_find_79 : decode cX2_find 79 = .ok (.iload 4, 2) := by decide +kernel
theorem dX2_find_81 : decode cX2_find 81 = .ok (.iaload, 1) := by decide +kernel
theorem dX2_find_82 : decode cX2_find 82 = .ok (.aload_n 0, 1) := by decide +kernel
theorem dX2_find_83 : decode cX2_find 83 = .ok (.getfield 79, 3) := by decide +kernel
theorem dX2_find_86 : decode cX2_find 86 = .ok (.idiv, 1) := by decide +kernel
theorem dX2_find_87 : decode cX2_find 87 = .ok (.i2l, 1) := by decide +kernel
theorem dX2_find_88 : decode cX2_find 88 = .ok (.lastore, 1) := by decide +kernel
theorem dX2_find_89 : decode cX2_find 89 = .ok (.iinc 4 1, 3) := by decide +kernel
theorem dX2_find_92 : decode cX2_find 92 = .ok (.goto (-29), 3) := by decide +kernel
theorem dX2_find_95 : decode cX2_find 95 = .ok (.iconst 1, 1) := by decide +kernel
theorem dX2_find_96 : decode cX2_find 96 = .ok (.istore 4, 2) := by decide +kernel
theorem dX2_find_98 : decode cX2_find 98 = .ok (.iload 4, 2) := by decide +kernel
theorem dX2_find_100 : decode cX2_find 100 = .ok (.bipush 20, 2) := by decide +kernel
theorem dX2_find_102 : decode cX2_find 102 = .ok (.if_icmp .gt 71, 3) := by decide +kernel
theorem dX2_find_105 : decode cX2_find 105 = .ok (.bipush (-20), 2) := by decide +kernel
theorem dX2_find_107 : decode cX2_find 107 = .ok (.istore 5, 2) := by decide +kernel
theorem dX2_find_109 : decode cX2_find 109 = .ok (.iload 5, 2) := by decide +kernel
theorem dX2_find_111 : decode cX2_find 111 = .ok (.bipush 20, 2) := by decide +kernel
theorem dX2_find_113 : decode cX2_find 113 = .ok (.if_icmp .gt 54, 3) := by decide +kernel
theorem dX2_find_116 : decode cX2_find 116 = .ok (.iload 4, 2) := by decide +kernel
theorem dX2_find_118 : decode cX2_find 118 = .ok (.i2l, 1) := by decide +kernel
theorem dX2_find_119 : decode cX2_find 119 = .ok (.iload 5, 2) := by decide +kernel
theorem dX2_find_121 : decode cX2_find 121 = .ok (.i2l, 1) := by decide +kernel
theorem dX2_find_122 : decode cX2_find 122 = .ok (.invokestatic 40, 3) := by decide +kernel
theorem dX2_find_125 : decode cX2_find 125 = .ok (.lconst 1, 1) := by decide +kernel
theorem dX2_find_126 : decode cX2_find 126 = .ok (.lcmp, 1) := by decide +kernel
theorem dX2_find_127 : decode cX2_find 127 = .ok (.ifCond .eq 6, 3) := by decide +kernel
theorem dX2_find_130 : decode cX2_find 130 = .ok (.goto 31, 3) := by decide +kernel
theorem dX2_find_133 : decode cX2_find 133 = .ok (.aload_n 0, 1) := by decide +kernel
theorem dX2_find_134 : decode cX2_find 134 = .ok (.getfield 72, 3) := by decide +kernel
theorem dX2_find_137 : decode cX2_find 137 = .ok (.istore 6, 2) := by decide +kernel
theorem dX2_find_139 : decode cX2_find 139 = .ok (.aload_n 0, 1) := by decide +kernel
theorem dX2_find_140 : decode cX2_find 140 = .ok (.iconst 0, 1) := by decide +kernel
theorem dX2_find_141 : decode cX2_find 141 = .ok (.iload 4, 2) := by decide +kernel
theorem dX2_find_143 : decode cX2_find 143 = .ok (.iload 5, 2) := by decide +kernel
theorem dX2_find_145 : decode cX2_find 145 = .ok (.invokevirtual 82, 3) := by decide +kernel
theorem dX2_find_148 : decode cX2_find 148 = .ok (.aload_n 0, 1) := by decide +kernel
theorem dX2_find_149 : decode cX2_find 149 = .ok (.getfield 72, 3) := by decide +kernel
theorem dX2_find_152 : decode cX2_find 152 = .ok (.iload 6, 2) := by decide +kernel
theorem dX2_find_154 : decode cX2_find 154 = .ok (.if_icmp .le 7, 3) := by decide +kernel
theorem dX2_find_157 : decode cX2_find 157 = .ok (.aload_n 0, 1) := by decide +kernel
theorem dX2_find_158 : decode cX2_find 158 = .ok (.invokevirtual 86, 3) := by decide +kernel
theorem dX2_find_161 : decode cX2_find 161 = .ok (.iinc 5 1, 3) := by decide +kernel
theorem dX2_find_164 : decode cX2_find 164 = .ok (.goto (-55), 3) := by decide +kernel
theorem dX2_find_167 : decode cX2_find 167 = .ok (.iinc 4 1, 3) := by decide +kernel
theorem dX2_find_170 : decode cX2_find 170 = .ok (.goto (-72), 3) := by decide +kernel
theorem dX2_find_173 : decode cX2_find 173 = .ok (.iconst 1, 1) := by decide +kernel
theorem dX2_find_174 : decode cX2_find 174 = .ok (.istore 4, 2) := by decide +kernel
theorem dX2_find_176 : decode cX2_find 176 = .ok (.iload 4, 2) := by decide +kernel
theorem dX2_find_178 : decode cX2_find 178 = .ok (.bipush 20, 2) := by decide +kernel
theorem dX2_find_180 : decode cX2_find 180 = .ok (.if_icmp .gt 196, 3) := by decide +kernel
theorem dX2_find_183 : decode cX2_find 183 = .ok (.aload_n 0, 1) := by decide +kernel
theorem dX2_find_184 : decode cX2_find 184 = .ok (.invokevirtual 69, 3) := by decide +kernel
theorem dX2_find_187 : decode cX2_find 187 = .ok (.iconst 1, 1) := by decide +kernel
theorem dX2_find_188 : decode cX2_find 188 = .ok (.if_icmp .le 188, 3) := by decide +kernel
theorem dX2_find_191 : decode cX2_find 191 = .ok (.aload_n 0, 1) := by decide +kernel
theorem dX2_find_192 : decode cX2_find 192 = .ok (.getfield 13, 3) := by decide +kernel
theorem dX2_find_195 : decode cX2_find 195 = .ok (.aload_n 0, 1) := by decide +kernel
theorem dX2_find_196 : decode cX2_find 196 = .ok (.invokevirtual 69, 3) := by decide +kernel
theorem dX2_find_199 : decode cX2_find 199 = .ok (.laload, 1) := by decide +kernel
theorem dX2_find_200 : decode cX2_find 200 = .ok (.iload 4, 2) := by decide +kernel
theorem dX2_find_202 : decode cX2_find 202 = .ok (.i2l, 1) := by decide +kernel
theorem dX2_find_203 : decode cX2_find 203 = .ok (.lrem, 1) := by decide +kernel
theorem dX2_find_204 : decode cX2_find 204 = .ok (.lconst 0, 1) := by decide +kernel
theorem dX2_find_205 : decode cX2_find 205 = .ok (.lcmp, 1) := by decide +kernel
theorem dX2_find_206 : decode cX2_find 206 = .ok (.ifCond .eq 6, 3) := by decide +kernel
theorem dX2_find_209 : decode cX2_find 209 = .ok (.goto 161, 3) := by decide +kernel
theorem dX2_find_212 : decode cX2_find 212 = .ok (.sipush (-240), 3) := by decide +kernel
theorem dX2_find_215 : decode cX2_find 215 = .ok (.istore 5, 2) := by decide +kernel
theorem dX2_find_217 : decode cX2_find 217 = .ok (.iload 5, 2) := by decide +kernel
theorem dX2_find_219 : decode cX2_find 219 = .ok (.sipush 240, 3) := by decide +kernel
theorem dX2_find_222 : decode cX2_find 222 = .ok (.if_icmp .gt 148, 3) := by decide +kernel
theorem dX2_find_225 : decode cX2_find 225 = .ok (.bipush (-20), 2) := by decide +kernel
theorem dX2_find_227 : decode cX2_find 227 = .ok (.istore 6, 2) := by decide +kernel
theorem dX2_find_229 : decode cX2_find 229 = .ok (.iload 6, 2) := by decide +kernel
theorem dX2_find_231 : decode cX2_find 231 = .ok (.bipush 20, 2) := by decide +kernel
theorem dX2_find_233 : decode cX2_find 233 = .ok (.if_icmp .gt 131, 3) := by decide +kernel
theorem dX2_find_236 : decode cX2_find 236 = .ok (.iload 6, 2) := by decide +kernel
theorem dX2_find_238 : decode cX2_find 238 = .ok (.ifCond .eq 120, 3) := by decide +kernel
theorem dX2_find_241 : decode cX2_find 241 = .ok (.iload 4, 2) := by decide +kernel
theorem dX2_find_243 : decode cX2_find 243 = .ok (.iload 5, 2) := by decide +kernel
theorem dX2_find_245 : decode cX2_find 245 = .ok (.iadd, 1) := by decide +kernel
theorem dX2_find_246 : decode cX2_find 246 = .ok (.iload 6, 2) := by decide +kernel
theorem dX2_find_248 : decode cX2_find 248 = .ok (.iadd, 1) := by decide +kernel
theorem dX2_find_249 : decode cX2_find 249 = .ok (.ifCond .eq 109, 3) := by decide +kernel
theorem dX2_find_252 : decode cX2_find 252 = .ok (.aload_n 0, 1) := by decide +kernel
theorem dX2_find_253 : decode cX2_find 253 = .ok (.getfield 13, 3) := by decide +kernel
theorem dX2_find_256 : decode cX2_find 256 = .ok (.iconst 0, 1) := by decide +kernel
theorem dX2_find_257 : decode cX2_find 257 = .ok (.laload, 1) := by decide +kernel
theorem dX2_find_258 : decode cX2_find 258 = .ok (.iload 6, 2) := by decide +kernel
theorem dX2_find_260 : decode cX2_find 260 = .ok (.i2l, 1) := by decide +kernel
theorem dX2_find_261 : decode cX2_find 261 = .ok (.lrem, 1) := by decide +kernel
theorem dX2_find_262 : decode cX2_find 262 = .ok (.lconst 0, 1) := by decide +kernel
theorem dX2_find_263 : decode cX2_find 263 = .ok (.lcmp, 1) := by decide +kernel
theorem dX2_find_264 : decode cX2_find 264 = .ok (.ifCond .ne 94, 3) := by decide +kernel
theorem dX2_find_267 : decode cX2_find 267 = .ok (.aload_n 0, 1) := by decide +kernel
theorem dX2_find_268 : decode cX2_find 268 = .ok (.getfield 13, 3) := by decide +kernel
theorem dX2_find_271 : decode cX2_find 271 = .ok (.iconst 0, 1) := by decide +kernel
theorem dX2_find_272 : decode cX2_find 272 = .ok (.laload, 1) := by decide +kernel
theorem dX2_find_273 : decode cX2_find 273 = .ok (.aload_n 0, 1) := by decide +kernel
theorem dX2_find_274 : decode cX2_find 274 = .ok (.getfield 13, 3) := by decide +kernel
theorem dX2_find_277 : decode cX2_find 277 = .ok (.iconst 1, 1) := by decide +kernel
theorem dX2_find_278 : decode cX2_find 278 = .ok (.laload, 1) := by decide +kernel
theorem dX2_find_279 : decode cX2_find 279 = .ok (.ladd, 1) := by decide +kernel
theorem dX2_find_280 : decode cX2_find 280 = .ok (.aload_n 0, 1) := by decide +kernel
theorem dX2_find_281 : decode cX2_find 281 = .ok (.getfield 13, 3) := by decide +kernel
theorem dX2_find_284 : decode cX2_find 284 = .ok (.iconst 2, 1) := by decide +kernel
theorem dX2_find_285 : decode cX2_find 285 = .ok (.laload, 1) := by decide +kernel
theorem dX2_find_286 : decode cX2_find 286 = .ok (.ladd, 1) := by decide +kernel
theorem dX2_find_287 : decode cX2_find 287 = .ok (.aload_n 0, 1) := by decide +kernel
theorem dX2_find_288 : decode cX2_find 288 = .ok (.getfield 13, 3) := by decide +kernel
theorem dX2_find_291 : decode cX2_find 291 = .ok (.iconst 3, 1) := by decide +kernel
theorem dX2_find_292 : decode cX2_find 292 = .ok (.laload, 1) := by decide +kernel
theorem dX2_find_293 : decode cX2_find 293 = .ok (.ladd, 1) := by decide +kernel
theorem dX2_find_294 : decode cX2_find 294 = .ok (.aload_n 0, 1) := by decide +kernel
theorem dX2_find_295 : decode cX2_find 295 = .ok (.getfield 13, 3) := by decide +kernel
theorem dX2_find_298 : decode cX2_find 298 = .ok (.iconst 4, 1) := by decide +kernel
theorem dX2_find_299 : decode cX2_find 299 = .ok (.laload, 1) := by decide +kernel
theorem dX2_find_300 : decode cX2_find 300 = .ok (.ladd, 1) := by decide +kernel
theorem dX2_find_301 : decode cX2_find 301 = .ok (.iload 4, 2) := by decide +kernel
theorem dX2_find_303 : decode cX2_find 303 = .ok (.iload 5, 2) := by decide +kernel
theorem dX2_find_305 : decode cX2_find 305 = .ok (.iadd, 1) := by decide +kernel
theorem dX2_find_306 : decode cX2_find 306 = .ok (.iload 6, 2) := by decide +kernel
theorem dX2_find_308 : decode cX2_find 308 = .ok (.iadd, 1) := by decide +kernel
theorem dX2_find_309 : decode cX2_find 309 = .ok (.i2l, 1) := by decide +kernel
theorem dX2_find_310 : decode cX2_find 310 = .ok (.lrem, 1) := by decide +kernel
theorem dX2_find_311 : decode cX2_find 311 = .ok (.lconst 0, 1) := by decide +kernel
theorem dX2_find_312 : decode cX2_find 312 = .ok (.lcmp, 1) := by decide +kernel
theorem dX2_find_313 : decode cX2_find 313 = .ok (.ifCond .ne 45, 3) := by decide +kernel
theorem dX2_find_316 : decode cX2_find 316 = .ok (.iload 4, 2) := by decide +kernel
theorem dX2_find_318 : decode cX2_find 318 = .ok (.i2l, 1) := by decide +kernel
theorem dX2_find_319 : decode cX2_find 319 = .ok (.iload 5, 2) := by decide +kernel
theorem dX2_find_321 : decode cX2_find 321 = .ok (.i2l, 1) := by decide +kernel
theorem dX2_find_322 : decode cX2_find 322 = .ok (.invokestatic 40, 3) := by decide +kernel
theorem dX2_find_325 : decode cX2_find 325 = .ok (.iload 6, 2) := by decide +kernel
theorem dX2_find_327 : decode cX2_find 327 = .ok (.i2l, 1) := by decide +kernel
theorem dX2_find_328 : decode cX2_find 328 = .ok (.invokestatic 40, 3) := by decide +kernel
theorem dX2_find_331 : decode cX2_find 331 = .ok (.lconst 1, 1) := by decide +kernel
theorem dX2_find_332 : decode cX2_find 332 = .ok (.lcmp, 1) := by decide +kernel
theorem dX2_find_333 : decode cX2_find 333 = .ok (.ifCond .eq 6, 3) := by decide +kernel
theorem dX2_find_336 : decode cX2_find 336 = .ok (.goto 22, 3) := by decide +kernel
theorem dX2_find_339 : decode cX2_find 339 = .ok (.aload_n 0, 1) := by decide +kernel
theorem dX2_find_340 : decode cX2_find 340 = .ok (.iload 4, 2) := by decide +kernel
theorem dX2_find_342 : decode cX2_find 342 = .ok (.iload 5, 2) := by decide +kernel
theorem dX2_find_344 : decode cX2_find 344 = .ok (.iload 6, 2) := by decide +kernel
theorem dX2_find_346 : decode cX2_find 346 = .ok (.invokevirtual 82, 3) := by decide +kernel
theorem dX2_find_349 : decode cX2_find 349 = .ok (.aload_n 0, 1) := by decide +kernel
theorem dX2_find_350 : decode cX2_find 350 = .ok (.invokevirtual 69, 3) := by decide +kernel
theorem dX2_find_353 : decode cX2_find 353 = .ok (.iconst 2, 1) := by decide +kernel
theorem dX2_find_354 : decode cX2_find 354 = .ok (.if_icmp .ge 4, 3) := by decide +kernel
theorem dX2_find_357 : decode cX2_find 357 = .ok (.return_, 1) := by decide +kernel
theorem dX2_find_358 : decode cX2_find 358 = .ok (.iinc 6 1, 3) := by decide +kernel
theorem dX2_find_361 : decode cX2_find 361 = .ok (.goto (-132), 3) := by decide +kernel
theorem dX2_find_364 : decode cX2_find 364 = .ok (.iinc 5 1, 3) := by decide +kernel
theorem dX2_find_367 : decode cX2_find 367 = .ok (.goto (-150), 3) := by decide +kernel
theorem dX2_find_370 : decode cX2_find 370 = .ok (.iinc 4 1, 3) := by decide +kernel
theorem dX2_find_373 : decode cX2_find 373 = .ok (.goto (-197), 3) := by decide +kernel
theorem dX2_find_376 : decode cX2_find 376 = .ok (.return_, 1) := by decide +kernel
theorem dX2_factors_0 : decode cX2_factors 0 = .ok (.aload_n 0, 1) := by decide +kernel
theorem dX2_factors_1 : decode cX2_factors 1 = .ok (.invokevirtual 89, 3) := by decide +kernel
theorem dX2_factors_4 : decode cX2_factors 4 = .ok (.ifCond .eq 9, 3) := by decide +kernel
theorem dX2_factors_7 : decode cX2_factors 7 = .ok (.aload_n 0, 1) := by decide +kernel
theorem dX2_factors_8 : decode cX2_factors 8 = .ok (.iconst 1, 1) := by decide +kernel
theorem dX2_factors_9 : decode cX2_factors 9 = .ok (.invokevirtual 93, 3) := by decide +kernel
theorem dX2_factors_12 : decode cX2_factors 12 = .ok (.ireturn, 1) := by decide +kernel
theorem dX2_factors_13 : decode cX2_factors 13 = .ok (.aload_n 0, 1) := by decide +kernel
theorem dX2_factors_14 : decode cX2_factors 14 = .ok (.iconst 0, 1) := by decide +kernel
theorem dX2_factors_15 : decode cX2_factors 15 = .ok (.putfield 32, 3) := by decide +kernel
theorem dX2_factors_18 : decode cX2_factors 18 = .ok (.aload_n 0, 1) := by decide +kernel
theorem dX2_factors_19 : decode cX2_factors 19 = .ok (.invokevirtual 97, 3) := by decide +kernel
theorem dX2_factors_22 : decode cX2_factors 22 = .ok (.aload_n 0, 1) := by decide +kernel
theorem dX2_factors_23 : decode cX2_factors 23 = .ok (.getfield 72, 3) := by decide +kernel
theorem dX2_factors_26 : decode cX2_factors 26 = .ok (.ireturn, 1) := by decide +kernel
theorem dX2_isFactor_0 : decode cX2_isFactor 0 = .ok (.aload_n 0, 1) := by decide +kernel
theorem dX2_isFactor_1 : decode cX2_isFactor 1 = .ok (.aload_n 0, 1) := by decide +kernel
theorem dX2_isFactor_2 : decode cX2_isFactor 2 = .ok (.invokevirtual 89, 3) := by decide +kernel
theorem dX2_isFactor_5 : decode cX2_isFactor 5 = .ok (.ifCond .eq 7, 3) := by decide +kernel
theorem dX2_isFactor_8 : decode cX2_isFactor 8 = .ok (.iconst 1, 1) := by decide +kernel
theorem dX2_isFactor_9 : decode cX2_isFactor 9 = .ok (.goto 4, 3) := by decide +kernel
theorem dX2_isFactor_12 : decode cX2_isFactor 12 = .ok (.iconst 0, 1) := by decide +kernel
theorem dX2_isFactor_13 : decode cX2_isFactor 13 = .ok (.putfield 32, 3) := by decide +kernel
theorem dX2_isFactor_16 : decode cX2_isFactor 16 = .ok (.aload_n 0, 1) := by decide +kernel
theorem dX2_isFactor_17 : decode cX2_isFactor 17 = .ok (.getfield 32, 3) := by decide +kernel
theorem dX2_isFactor_20 : decode cX2_isFactor 20 = .ok (.ifCond .le 5, 3) := by decide +kernel
theorem dX2_isFactor_23 : decode cX2_isFactor 23 = .ok (.iconst 0, 1) := by decide +kernel
theorem dX2_isFactor_24 : decode cX2_isFactor 24 = .ok (.ireturn, 1) := by decide +kernel
theorem dX2_isFactor_25 : decode cX2_isFactor 25 = .ok (.aload_n 0, 1) := by decide +kernel
theorem dX2_isFactor_26 : decode cX2_isFactor 26 = .ok (.invokevirtual 97, 3) := by decide +kernel
theorem dX2_isFactor_29 : decode cX2_isFactor 29 = .ok (.aload_n 0, 1) := by decide +kernel
theorem dX2_isFactor_30 : decode cX2_isFactor 30 = .ok (.iload_n 1, 1) := by decide +kernel
theorem dX2_isFactor_31 : decode cX2_isFactor 31 = .ok (.i2l, 1) := by decide +kernel
theorem dX2_isFactor_32 : decode cX2_isFactor 32 = .ok (.lconst 0, 1) := by decide +kernel
theorem dX2_isFactor_33 : decode cX2_isFactor 33 = .ok (.aload_n 0, 1) := by decide +kernel
theorem dX2_isFactor_34 : decode cX2_isFactor 34 = .ok (.getfield 72, 3) := by decide +kernel
theorem dX2_isFactor_37 : decode cX2_isFactor 37 = .ok (.iconst 1, 1) := by decide +kernel
theorem dX2_isFactor_38 : decode cX2_isFactor 38 = .ok (.isub, 1) := by decide +kernel
theorem dX2_isFactor_39 : decode cX2_isFactor 39 = .ok (.i2l, 1) := by decide +kernel
theorem dX2_isFactor_40 : decode cX2_isFactor 40 = .ok (.invokestatic 53, 3) := by decide +kernel
theorem dX2_isFactor_43 : decode cX2_isFactor 43 = .ok (.ifCond .eq 7, 3) := by decide +kernel
theorem dX2_isFactor_46 : decode cX2_isFactor 46 = .ok (.iconst 0, 1) := by decide +kernel
theorem dX2_isFactor_47 : decode cX2_isFactor 47 = .ok (.goto 4, 3) := by decide +kernel
theorem dX2_isFactor_50 : decode cX2_isFactor 50 = .ok (.iconst 2, 1) := by decide +kernel
theorem dX2_isFactor_51 : decode cX2_isFactor 51 = .ok (.putfield 32, 3) := by decide +kernel
theorem dX2_isFactor_54 : decode cX2_isFactor 54 = .ok (.aload_n 0, 1) := by decide +kernel
theorem dX2_isFactor_55 : decode cX2_isFactor 55 = .ok (.getfield 32, 3) := by decide +kernel
theorem dX2_isFactor_58 : decode cX2_isFactor 58 = .ok (.ifCond .ne 7, 3) := by decide +kernel
theorem dX2_isFactor_61 : decode cX2_isFactor 61 = .ok (.iconst 1, 1) := by decide +kernel
theorem dX2_isFactor_62 : decode cX2_isFactor 62 = .ok (.goto 4, 3) := by decide +kernel
theorem dX2_isFactor_65 : decode cX2_isFactor 65 = .ok (.iconst 0, 1) := by decide +kernel
theorem dX2_isFactor_66 : decode cX2_isFactor 66 = .ok (.ireturn, 1) := by decide +kernel
theorem dX2_answerOf_0 : decode cX2_answerOf 0 = .ok (.aload_n 0, 1) := by decide +kernel
theorem dX2_answerOf_1 : decode cX2_answerOf 1 = .ok (.getfield 20, 3) := by decide +kernel
theorem dX2_answerOf_4 : decode cX2_answerOf 4 = .ok (.iload_n 1, 1) := by decide +kernel
theorem dX2_answerOf_5 : decode cX2_answerOf 5 = .ok (.iaload, 1) := by decide +kernel
theorem dX2_answerOf_6 : decode cX2_answerOf 6 = .ok (.i2l, 1) := by decide +kernel
theorem dX2_answerOf_7 : decode cX2_answerOf 7 = .ok (.lstore_n 2, 1) := by decide +kernel
theorem dX2_answerOf_8 : decode cX2_answerOf 8 = .ok (.aload_n 0, 1) := by decide +kernel
theorem dX2_answerOf_9 : decode cX2_answerOf 9 = .ok (.getfield 23, 3) := by decide +kernel
theorem dX2_answerOf_12 : decode cX2_answerOf 12 = .ok (.iload_n 1, 1) := by decide +kernel
theorem dX2_answerOf_13 : decode cX2_answerOf 13 = .ok (.iaload, 1) := by decide +kernel
theorem dX2_answerOf_14 : decode cX2_answerOf 14 = .ok (.i2l, 1) := by decide +kernel
theorem dX2_answerOf_15 : decode cX2_answerOf 15 = .ok (.lstore 4, 2) := by decide +kernel
theorem dX2_answerOf_17 : decode cX2_answerOf 17 = .ok (.aload_n 0, 1) := by decide +kernel
theorem dX2_answerOf_18 : decode cX2_answerOf 18 = .ok (.getfield 26, 3) := by decide +kernel
theorem dX2_answerOf_21 : decode cX2_answerOf 21 = .ok (.iload_n 1, 1) := by decide +kernel
theorem dX2_answerOf_22 : decode cX2_answerOf 22 = .ok (.iaload, 1) := by decide +kernel
theorem dX2_answerOf_23 : decode cX2_answerOf 23 = .ok (.i2l, 1) := by decide +kernel
theorem dX2_answerOf_24 : decode cX2_answerOf 24 = .ok (.lstore 6, 2) := by decide +kernel
theorem dX2_answerOf_26 : decode cX2_answerOf 26 = .ok (.aload_n 0, 1) := by decide +kernel
theorem dX2_answerOf_27 : decode cX2_answerOf 27 = .ok (.lconst 0, 1) := by decide +kernel
theorem dX2_answerOf_28 : decode cX2_answerOf 28 = .ok (.putfield 100, 3) := by decide +kernel
theorem dX2_answerOf_31 : decode cX2_answerOf 31 = .ok (.aload_n 0, 1) := by decide +kernel
theorem dX2_answerOf_32 : decode cX2_answerOf 32 = .ok (.lconst 0, 1) := by decide +kernel
theorem dX2_answerOf_33 : decode cX2_answerOf 33 = .ok (.putfield 103, 3) := by decide +kernel
theorem dX2_answerOf_36 : decode cX2_answerOf 36 = .ok (.aload_n 0, 1) := by decide +kernel
theorem dX2_answerOf_37 : decode cX2_answerOf 37 = .ok (.lconst 1, 1) := by decide +kernel
theorem dX2_answerOf_38 : decode cX2_answerOf 38 = .ok (.putfield 106, 3) := by decide +kernel
theorem dX2_answerOf_41 : decode cX2_answerOf 41 = .ok (.aload_n 0, 1) := by decide +kernel
theorem dX2_answerOf_42 : decode cX2_answerOf 42 = .ok (.lload_n 2, 1) := by decide +kernel
theorem dX2_answerOf_43 : decode cX2_answerOf 43 = .ok (.lconst 0, 1) := by decide +kernel
theorem dX2_answerOf_44 : decode cX2_answerOf 44 = .ok (.lcmp, 1) := by decide +kernel
theorem dX2_answerOf_45 : decode cX2_answerOf 45 = .ok (.ifCond .ne 9, 3) := by decide +kernel
theorem dX2_answerOf_48 : decode cX2_answerOf 48 = .ok (.lload 6, 2) := by decide +kernel
theorem dX2_answerOf_50 : decode cX2_answerOf 50 = .ok (.lneg, 1) := by decide +kernel
theorem dX2_answerOf_51 : decode cX2_answerOf 51 = .ok (.goto 6, 3) := by decide +kernel
theorem dX2_answerOf_54 : decode cX2_answerOf 54 = .ok (.lload 4, 2) := by decide +kernel
theorem dX2_answerOf_56 : decode cX2_answerOf 56 = .ok (.lneg, 1) := by decide +kernel
theorem dX2_answerOf_57 : decode cX2_answerOf 57 = .ok (.lload_n 2, 1) := by decide +kernel
theorem dX2_answerOf_58 : decode cX2_answerOf 58 = .ok (.lconst 0, 1) := by decide +kernel
theorem dX2_answerOf_59 : decode cX2_answerOf 59 = .ok (.lcmp, 1) := by decide +kernel
theorem dX2_answerOf_60 : decode cX2_answerOf 60 = .ok (.ifCond .ne 8, 3) := by decide +kernel
theorem dX2_answerOf_63 : decode cX2_answerOf 63 = .ok (.lload 4, 2) := by decide +kernel
theorem dX2_answerOf_65 : decode cX2_answerOf 65 = .ok (.goto 8, 3) := by decide +kernel
theorem dX2_answerOf_68 : decode cX2_answerOf 68 = .ok (.ldc2_w 63, 3) := by decide +kernel
theorem dX2_answerOf_71 : decode cX2_answerOf 71 = .ok (.lload_n 2, 1) := by decide +kernel
theorem dX2_answerOf_72 : decode cX2_answerOf 72 = .ok (.lmul, 1) := by decide +kernel
theorem dX2_answerOf_73 : decode cX2_answerOf 73 = .ok (.invokevirtual 109, 3) := by decide +kernel
theorem dX2_answerOf_76 : decode cX2_answerOf 76 = .ok (.aload_n 0, 1) := by decide +kernel
theorem dX2_answerOf_77 : decode cX2_answerOf 77 = .ok (.aload_n 0, 1) := by decide +kernel
theorem dX2_answerOf_78 : decode cX2_answerOf 78 = .ok (.getfield 44, 3) := by decide +kernel
theorem dX2_answerOf_81 : decode cX2_answerOf 81 = .ok (.putfield 113, 3) := by decide +kernel
theorem dX2_answerOf_84 : decode cX2_answerOf 84 = .ok (.aload_n 0, 1) := by decide +kernel
theorem dX2_answerOf_85 : decode cX2_answerOf 85 = .ok (.aload_n 0, 1) := by decide +kernel
theorem dX2_answerOf_86 : decode cX2_answerOf 86 = .ok (.getfield 48, 3) := by decide +kernel
theorem dX2_answerOf_89 : decode cX2_answerOf 89 = .ok (.putfield 116, 3) := by decide +kernel
theorem dX2_answerOf_92 : decode cX2_answerOf 92 = .ok (.lload_n 2, 1) := by decide +kernel
theorem dX2_answerOf_93 : decode cX2_answerOf 93 = .ok (.lconst 0, 1) := by decide +kernel
theorem dX2_answerOf_94 : decode cX2_answerOf 94 = .ok (.lcmp, 1) := by decide +kernel
theorem dX2_answerOf_95 : decode cX2_answerOf 95 = .ok (.ifCond .ne 4, 3) := by decide +kernel
theorem dX2_answerOf_98 : decode cX2_answerOf 98 = .ok (.return_, 1) := by decide +kernel
theorem dX2_answerOf_99 : decode cX2_answerOf 99 = .ok (.aload_n 0, 1) := by decide +kernel
theorem dX2_answerOf_100 : decode cX2_answerOf 100 = .ok (.lload 4, 2) := by decide +kernel
theorem dX2_answerOf_102 : decode cX2_answerOf 102 = .ok (.lload 4, 2) := by decide +kernel
theorem dX2_answerOf_104 : decode cX2_answerOf 104 = .ok (.lmul, 1) := by decide +kernel
theorem dX2_answerOf_105 : decode cX2_answerOf 105 = .ok (.ldc2_w 51, 3) := by decide +kernel
theorem dX2_answerOf_108 : decode cX2_answerOf 108 = .ok (.lload_n 2, 1) := by decide +kernel
theorem dX2_answerOf_109 : decode cX2_answerOf 109 = .ok (.lmul, 1) := by decide +kernel
theorem dX2_answerOf_110 : decode cX2_answerOf 110 = .ok (.lload 6, 2) := by decide +kernel
theorem dX2_answerOf_112 : decode cX2_answerOf 112 = .ok (.lmul, 1) := by decide +kernel
theorem dX2_answerOf_113 : decode cX2_answerOf 113 = .ok (.lsub, 1) := by decide +kernel
theorem dX2_answerOf_114 : decode cX2_answerOf 114 = .ok (.putfield 100, 3) := by decide +kernel
theorem dX2_answerOf_117 : decode cX2_answerOf 117 = .ok (.lconst 1, 1) := by decide +kernel
theorem dX2_answerOf_118 : decode cX2_answerOf 118 = .ok (.lstore 8, 2) := by decide +kernel
theorem dX2_answerOf_120 : decode cX2_answerOf 120 = .ok (.ldc2_w 63, 3) := by decide +kernel
theorem dX2_answerOf_123 : decode cX2_answerOf 123 = .ok (.lstore 10, 2) := by decide +kernel
theorem dX2_answerOf_125 : decode cX2_answerOf 125 = .ok (.lload 10, 2) := by decide +kernel
theorem dX2_answerOf_127 : decode cX2_answerOf 127 = .ok (.lload 10, 2) := by decide +kernel
theorem dX2_answerOf_129 : decode cX2_answerOf 129 = .ok (.lmul, 1) := by decide +kernel
theorem dX2_answerOf_130 : decode cX2_answerOf 130 = .ok (.aload_n 0, 1) := by decide +kernel
theorem dX2_answerOf_131 : decode cX2_answerOf 131 = .ok (.getfield 100, 3) := by decide +kernel
theorem dX2_answerOf_134 : decode cX2_answerOf 134 = .ok (.invokestatic 36, 3) := by decide +kernel
theorem dX2_answerOf_137 : decode cX2_answerOf 137 = .ok (.lcmp, 1) := by decide +kernel
theorem dX2_answerOf_138 : decode cX2_answerOf 138 = .ok (.ifCond .gt 51, 3) := by decide +kernel
theorem dX2_answerOf_141 : decode cX2_answerOf 141 = .ok (.aload_n 0, 1) := by decide +kernel
theorem dX2_answerOf_142 : decode cX2_answerOf 142 = .ok (.getfield 100, 3) := by decide +kernel
theorem dX2_answerOf_145 : decode cX2_answerOf 145 = .ok (.lload 10, 2) := by decide +kernel
theorem dX2_answerOf_147 : decode cX2_answerOf 147 = .ok (.lload 10, 2) := by decide +kernel
theorem dX2_answerOf_149 : decode cX2_answerOf 149 = .ok (.lmul, 1) := by decide +kernel
theorem dX2_answerOf_150 : decode cX2_answerOf 150 = .ok (.lrem, 1) := by decide +kernel
theorem dX2_answerOf_151 : decode cX2_answerOf 151 = .ok (.lconst 0, 1) := by decide +kernel
theorem dX2_answerOf_152 : decode cX2_answerOf 152 = .ok (.lcmp, 1) := by decide +kernel
theorem dX2_answerOf_153 : decode cX2_answerOf 153 = .ok (.ifCond .ne 27, 3) := by decide +kernel
theorem dX2_answerOf_156 : decode cX2_answerOf 156 = .ok (.aload_n 0, 1) := by decide +kernel
theorem dX2_answerOf_157 : decode cX2_answerOf 157 = .ok (.dup, 1) := by decide +kernel
theorem dX2_answerOf_158 : decode cX2_answerOf 158 = .ok (.getfield 100, 3) := by decide +kernel
theorem dX2_answerOf_161 : decode cX2_answerOf 161 = .ok (.lload 10, 2) := by decide +kernel
theorem dX2_answerOf_163 : decode cX2_answerOf 163 = .ok (.lload 10, 2) := by decide +kernel
theorem dX2_answerOf_165 : decode cX2_answerOf 165 = .ok (.lmul, 1) := by decide +kernel
theorem dX2_answerOf_166 : decode cX2_answerOf 166 = .ok (.ldiv, 1) := by decide +kernel
theorem dX2_answerOf_167 : decode cX2_answerOf 167 = .ok (.putfield 100, 3) := by decide +kernel
theorem dX2_answerOf_170 : decode cX2_answerOf 170 = .ok (.lload 8, 2) := by decide +kernel
theorem dX2_answerOf_172 : decode cX2_answerOf 172 = .ok (.lload 10, 2) := by decide +kernel
theorem dX2_answerOf_174 : decode cX2_answerOf 174 = .ok (.lmul, 1) := by decide +kernel
theorem dX2_answerOf_175 : decode cX2_answerOf 175 = .ok (.lstore 8, 2) := by decide +kernel
theorem dX2_answerOf_177 : decode cX2_answerOf 177 = .ok (.goto (-36), 3) := by decide +kernel
theorem dX2_answerOf_180 : decode cX2_answerOf 180 = .ok (.lload 10, 2) := by decide +kernel
theorem dX2_answerOf_182 : decode cX2_answerOf 182 = .ok (.lconst 1, 1) := by decide +kernel
theorem dX2_answerOf_183 : decode cX2_answerOf 183 = .ok (.ladd, 1) := by decide +kernel
theorem dX2_answerOf_184 : decode cX2_answerOf 184 = .ok (.lstore 10, 2) := by decide +kernel
theorem dX2_answerOf_186 : decode cX2_answerOf 186 = .ok (.goto (-61), 3) := by decide +kernel
theorem dX2_answerOf_189 : decode cX2_answerOf 189 = .ok (.aload_n 0, 1) := by decide +kernel
theorem dX2_answerOf_190 : decode cX2_answerOf 190 = .ok (.lload 8, 2) := by decide +kernel
theorem dX2_answerOf_192 : decode cX2_answerOf 192 = .ok (.ldc2_w 63, 3) := by decide +kernel
theorem dX2_answerOf_195 : decode cX2_answerOf 195 = .ok (.lload_n 2, 1) := by decide +kernel
theorem dX2_answerOf_196 : decode cX2_answerOf 196 = .ok (.lmul, 1) := by decide +kernel
theorem dX2_answerOf_197 : decode cX2_answerOf 197 = .ok (.invokevirtual 109, 3) := by decide +kernel
theorem dX2_answerOf_200 : decode cX2_answerOf 200 = .ok (.aload_n 0, 1) := by decide +kernel
theorem dX2_answerOf_201 : decode cX2_answerOf 201 = .ok (.aload_n 0, 1) := by decide +kernel
theorem dX2_answerOf_202 : decode cX2_answerOf 202 = .ok (.getfield 44, 3) := by decide +kernel
theorem dX2_answerOf_205 : decode cX2_answerOf 205 = .ok (.putfield 103, 3) := by decide +kernel
theorem dX2_answerOf_208 : decode cX2_answerOf 208 = .ok (.aload_n 0, 1) := by decide +kernel
theorem dX2_answerOf_209 : decode cX2_answerOf 209 = .ok (.aload_n 0, 1) := by decide +kernel
theorem dX2_answerOf_210 : decode cX2_answerOf 210 = .ok (.getfield 48, 3) := by decide +kernel
theorem dX2_answerOf_213 : decode cX2_answerOf 213 = .ok (.putfield 106, 3) := by decide +kernel
theorem dX2_answerOf_216 : decode cX2_answerOf 216 = .ok (.return_, 1) := by decide +kernel
theorem dX2_factor_0 : decode cX2_factor 0 = .ok (.aload_n 0, 1) := by decide +kernel
theorem dX2_factor_1 : decode cX2_factor 1 = .ok (.iload_n 1, 1) := by decide +kernel
theorem dX2_factor_2 : decode cX2_factor 2 = .ok (.invokevirtual 119, 3) := by decide +kernel
theorem dX2_factor_5 : decode cX2_factor 5 = .ok (.ifCond .ne 5, 3) := by decide +kernel
theorem dX2_factor_8 : decode cX2_factor 8 = .ok (.iconst 0, 1) := by decide +kernel
theorem dX2_factor_9 : decode cX2_factor 9 = .ok (.ireturn, 1) := by decide +kernel
theorem dX2_factor_10 : decode cX2_factor 10 = .ok (.aload_n 0, 1) := by decide +kernel
theorem dX2_factor_11 : decode cX2_factor 11 = .ok (.iload_n 2, 1) := by decide +kernel
theorem dX2_factor_12 : decode cX2_factor 12 = .ok (.i2l, 1) := by decide +kernel
theorem dX2_factor_13 : decode cX2_factor 13 = .ok (.lconst 0, 1) := by decide +kernel
theorem dX2_factor_14 : decode cX2_factor 14 = .ok (.ldc2_w 123, 3) := by decide +kernel
theorem dX2_factor_17 : decode cX2_factor 17 = .ok (.invokestatic 53, 3) := by decide +kernel
theorem dX2_factor_20 : decode cX2_factor 20 = .ok (.ifCond .eq 7, 3) := by decide +kernel
theorem dX2_factor_23 : decode cX2_factor 23 = .ok (.iconst 0, 1) := by decide +kernel
theorem dX2_factor_24 : decode cX2_factor 24 = .ok (.goto 4, 3) := by decide +kernel
theorem dX2_factor_27 : decode cX2_factor 27 = .ok (.iconst 3, 1) := by decide +kernel
theorem dX2_factor_28 : decode cX2_factor 28 = .ok (.putfield 32, 3) := by decide +kernel
theorem dX2_factor_31 : decode cX2_factor 31 = .ok (.aload_n 0, 1) := by decide +kernel
theorem dX2_factor_32 : decode cX2_factor 32 = .ok (.getfield 32, 3) := by decide +kernel
theorem dX2_factor_35 : decode cX2_factor 35 = .ok (.ifCond .le 5, 3) := by decide +kernel
theorem dX2_factor_38 : decode cX2_factor 38 = .ok (.iconst 0, 1) := by decide +kernel
theorem dX2_factor_39 : decode cX2_factor 39 = .ok (.ireturn, 1) := by decide +kernel
theorem dX2_factor_40 : decode cX2_factor 40 = .ok (.iload_n 2, 1) := by decide +kernel
theorem dX2_factor_41 : decode cX2_factor 41 = .ok (.iconst 2, 1) := by decide +kernel
theorem dX2_factor_42 : decode cX2_factor 42 = .ok (.if_icmp .ge 32, 3) := by decide +kernel
theorem dX2_factor_45 : decode cX2_factor 45 = .ok (.iload_n 2, 1) := by decide +kernel
theorem dX2_factor_46 : decode cX2_factor 46 = .ok (.iconst 1, 1) := by decide +kernel
theorem dX2_factor_47 : decode cX2_factor 47 = .ok (.if_icmp .ne 12, 3) := by decide +kernel
theorem dX2_factor_50 : decode cX2_factor 50 = .ok (.aload_n 0, 1) := by decide +kernel
theorem dX2_factor_51 : decode cX2_factor 51 = .ok (.getfield 29, 3) := by decide +kernel
theorem dX2_factor_54 : decode cX2_factor 54 = .ok (.iload_n 1, 1) := by decide +kernel
theorem dX2_factor_55 : decode cX2_factor 55 = .ok (.iaload, 1) := by decide +kernel
theorem dX2_factor_56 : decode cX2_factor 56 = .ok (.goto 17, 3) := by decide +kernel
theorem dX2_factor_59 : decode cX2_factor 59 = .ok (.aload_n 0, 1) := by decide +kernel
theorem dX2_factor_60 : decode cX2_factor 60 = .ok (.getfield 20, 3) := by decide +kernel
theorem dX2_factor_63 : decode cX2_factor 63 = .ok (.iload_n 1, 1) := by decide +kernel
theorem dX2_factor_64 : decode cX2_factor 64 = .ok (.iaload, 1) := by decide +kernel
theorem dX2_factor_65 : decode cX2_factor 65 = .ok (.ifCond .ne 7, 3) := by decide +kernel
theorem dX2_factor_68 : decode cX2_factor 68 = .ok (.iconst 1, 1) := by decide +kernel
theorem dX2_factor_69 : decode cX2_factor 69 = .ok (.goto 4, 3) := by decide +kernel
theorem dX2_factor_72 : decode cX2_factor 72 = .ok (.iconst 2, 1) := by decide +kernel
theorem dX2_factor_73 : decode cX2_factor 73 = .ok (.ireturn, 1) := by decide +kernel
theorem dX2_factor_74 : decode cX2_factor 74 = .ok (.iload_n 2, 1) := by decide +kernel
theorem dX2_factor_75 : decode cX2_factor 75 = .ok (.iconst 5, 1) := by decide +kernel
theorem dX2_factor_76 : decode cX2_factor 76 = .ok (.if_icmp .ge 38, 3) := by decide +kernel
theorem dX2_factor_79 : decode cX2_factor 79 = .ok (.iload_n 2, 1) := by decide +kernel
theorem dX2_factor_80 : decode cX2_factor 80 = .ok (.iconst 2, 1) := by decide +kernel
theorem dX2_factor_81 : decode cX2_factor 81 = .ok (.if_icmp .ne 12, 3) := by decide +kernel
theorem dX2_factor_84 : decode cX2_factor 84 = .ok (.aload_n 0, 1) := by decide +kernel
theorem dX2_factor_85 : decode cX2_factor 85 = .ok (.getfield 20, 3) := by decide +kernel
theorem dX2_factor_88 : decode cX2_factor 88 = .ok (.iload_n 1, 1) := by decide +kernel
theorem dX2_factor_89 : decode cX2_factor 89 = .ok (.iaload, 1) := by decide +kernel
theorem dX2_factor_90 : decode cX2_factor 90 = .ok (.goto 23, 3) := by decide +kernel
theorem dX2_factor_93 : decode cX2_factor 93 = .ok (.iload_n 2, 1) := by decide +kernel
theorem dX2_factor_94 : decode cX2_factor 94 = .ok (.iconst 3, 1) := by decide +kernel
theorem dX2_factor_95 : decode cX2_factor 95 = .ok (.if_icmp .ne 12, 3) := by decide +kernel
theorem dX2_factor_98 : decode cX2_factor 98 = .ok (.aload_n 0, 1) := by decide +kernel
theorem dX2_factor_99 : decode cX2_factor 99 = .ok (.getfield 23, 3) := by decide +kernel
theorem dX2_factor_102 : decode cX2_factor 102 = .ok (.iload_n 1, 1) := by decide +kernel
theorem dX2_factor_103 : decode cX2_factor 103 = .ok (.iaload, 1) := by decide +kernel
theorem dX2_factor_104 : decode cX2_factor 104 = .ok (.goto 9, 3) := by decide +kernel
theorem dX2_factor_107 : decode cX2_factor 107 = .ok (.aload_n 0, 1) := by decide +kernel
theorem dX2_factor_108 : decode cX2_factor 108 = .ok (.getfield 26, 3) := by decide +kernel
theorem dX2_factor_111 : decode cX2_factor 111 = .ok (.iload_n 1, 1) := by decide +kernel
theorem dX2_factor_112 : decode cX2_factor 112 = .ok (.iaload, 1) := by decide +kernel
theorem dX2_factor_113 : decode cX2_factor 113 = .ok (.ireturn, 1) := by decide +kernel
theorem dX2_factor_114 : decode cX2_factor 114 = .ok (.aload_n 0, 1) := by decide +kernel
theorem dX2_factor_115 : decode cX2_factor 115 = .ok (.iload_n 1, 1) := by decide +kernel
theorem dX2_factor_116 : decode cX2_factor 116 = .ok (.invokevirtual 125, 3) := by decide +kernel
theorem dX2_factor_119 : decode cX2_factor 119 = .ok (.aload_n 0, 1) := by decide +kernel
theorem dX2_factor_120 : decode cX2_factor 120 = .ok (.getfield 100, 3) := by decide +kernel
theorem dX2_factor_123 : decode cX2_factor 123 = .ok (.l2i, 1) := by decide +kernel
theorem dX2_factor_124 : decode cX2_factor 124 = .ok (.ireturn, 1) := by decide +kernel
theorem dX2_content_0 : decode cX2_content 0 = .ok (.aload_n 0, 1) := by decide +kernel
theorem dX2_content_1 : decode cX2_content 1 = .ok (.invokevirtual 89, 3) := by decide +kernel
theorem dX2_content_4 : decode cX2_content 4 = .ok (.ifCond .eq 9, 3) := by decide +kernel
theorem dX2_content_7 : decode cX2_content 7 = .ok (.aload_n 0, 1) := by decide +kernel
theorem dX2_content_8 : decode cX2_content 8 = .ok (.iconst 1, 1) := by decide +kernel
theorem dX2_content_9 : decode cX2_content 9 = .ok (.invokevirtual 93, 3) := by decide +kernel
theorem dX2_content_12 : decode cX2_content 12 = .ok (.ireturn, 1) := by decide +kernel
theorem dX2_content_13 : decode cX2_content 13 = .ok (.aload_n 0, 1) := by decide +kernel
theorem dX2_content_14 : decode cX2_content 14 = .ok (.iconst 0, 1) := by decide +kernel
theorem dX2_content_15 : decode cX2_content 15 = .ok (.putfield 32, 3) := by decide +kernel
theorem dX2_content_18 : decode cX2_content 18 = .ok (.aload_n 0, 1) := by decide +kernel
theorem dX2_content_19 : decode cX2_content 19 = .ok (.invokevirtual 97, 3) := by decide +kernel
theorem dX2_content_22 : decode cX2_content 22 = .ok (.aload_n 0, 1) := by decide +kernel
theorem dX2_content_23 : decode cX2_content 23 = .ok (.getfield 79, 3) := by decide +kernel
theorem dX2_content_26 : decode cX2_content 26 = .ok (.ireturn, 1) := by decide +kernel
theorem dX2_left_0 : decode cX2_left 0 = .ok (.aload_n 0, 1) := by decide +kernel
theorem dX2_left_1 : decode cX2_left 1 = .ok (.invokevirtual 89, 3) := by decide +kernel
theorem dX2_left_4 : decode cX2_left 4 = .ok (.ifCond .eq 9, 3) := by decide +kernel
theorem dX2_left_7 : decode cX2_left 7 = .ok (.aload_n 0, 1) := by decide +kernel
theorem dX2_left_8 : decode cX2_left 8 = .ok (.iconst 1, 1) := by decide +kernel
theorem dX2_left_9 : decode cX2_left 9 = .ok (.invokevirtual 93, 3) := by decide +kernel
theorem dX2_left_12 : decode cX2_left 12 = .ok (.ireturn, 1) := by decide +kernel
theorem dX2_left_13 : decode cX2_left 13 = .ok (.aload_n 0, 1) := by decide +kernel
theorem dX2_left_14 : decode cX2_left 14 = .ok (.iload_n 1, 1) := by decide +kernel
theorem dX2_left_15 : decode cX2_left 15 = .ok (.i2l, 1) := by decide +kernel
theorem dX2_left_16 : decode cX2_left 16 = .ok (.lconst 0, 1) := by decide +kernel
theorem dX2_left_17 : decode cX2_left 17 = .ok (.ldc2_w 51, 3) := by decide +kernel
theorem dX2_left_20 : decode cX2_left 20 = .ok (.invokestatic 53, 3) := by decide +kernel
theorem dX2_left_23 : decode cX2_left 23 = .ok (.ifCond .eq 7, 3) := by decide +kernel
theorem dX2_left_26 : decode cX2_left 26 = .ok (.iconst 0, 1) := by decide +kernel
theorem dX2_left_27 : decode cX2_left 27 = .ok (.goto 4, 3) := by decide +kernel
theorem dX2_left_30 : decode cX2_left 30 = .ok (.iconst 2, 1) := by decide +kernel
theorem dX2_left_31 : decode cX2_left 31 = .ok (.putfield 32, 3) := by decide +kernel
theorem dX2_left_34 : decode cX2_left 34 = .ok (.aload_n 0, 1) := by decide +kernel
theorem dX2_left_35 : decode cX2_left 35 = .ok (.getfield 32, 3) := by decide +kernel
theorem dX2_left_38 : decode cX2_left 38 = .ok (.ifCond .le 5, 3) := by decide +kernel
theorem dX2_left_41 : decode cX2_left 41 = .ok (.iconst 0, 1) := by decide +kernel
theorem dX2_left_42 : decode cX2_left 42 = .ok (.ireturn, 1) := by decide +kernel
theorem dX2_left_43 : decode cX2_left 43 = .ok (.aload_n 0, 1) := by decide +kernel
theorem dX2_left_44 : decode cX2_left 44 = .ok (.invokevirtual 97, 3) := by decide +kernel
theorem dX2_left_47 : decode cX2_left 47 = .ok (.aload_n 0, 1) := by decide +kernel
theorem dX2_left_48 : decode cX2_left 48 = .ok (.getfield 13, 3) := by decide +kernel
theorem dX2_left_51 : decode cX2_left 51 = .ok (.iload_n 1, 1) := by decide +kernel
theorem dX2_left_52 : decode cX2_left 52 = .ok (.laload, 1) := by decide +kernel
theorem dX2_left_53 : decode cX2_left 53 = .ok (.l2i, 1) := by decide +kernel
theorem dX2_left_54 : decode cX2_left 54 = .ok (.ireturn, 1) := by decide +kernel
theorem dX2_answer_0 : decode cX2_answer 0 = .ok (.aload_n 0, 1) := by decide +kernel
theorem dX2_answer_1 : decode cX2_answer 1 = .ok (.iload_n 1, 1) := by decide +kernel
theorem dX2_answer_2 : decode cX2_answer 2 = .ok (.invokevirtual 119, 3) := by decide +kernel
theorem dX2_answer_5 : decode cX2_answer 5 = .ok (.ifCond .ne 5, 3) := by decide +kernel
theorem dX2_answer_8 : decode cX2_answer 8 = .ok (.iconst 0, 1) := by decide +kernel
theorem dX2_answer_9 : decode cX2_answer 9 = .ok (.ireturn, 1) := by decide +kernel
theorem dX2_answer_10 : decode cX2_answer 10 = .ok (.aload_n 0, 1) := by decide +kernel
theorem dX2_answer_11 : decode cX2_answer 11 = .ok (.iload_n 2, 1) := by decide +kernel
theorem dX2_answer_12 : decode cX2_answer 12 = .ok (.i2l, 1) := by decide +kernel
theorem dX2_answer_13 : decode cX2_answer 13 = .ok (.lconst 0, 1) := by decide +kernel
theorem dX2_answer_14 : decode cX2_answer 14 = .ok (.lconst 1, 1) := by decide +kernel
theorem dX2_answer_15 : decode cX2_answer 15 = .ok (.invokestatic 53, 3) := by decide +kernel
theorem dX2_answer_18 : decode cX2_answer 18 = .ok (.ifCond .eq 17, 3) := by decide +kernel
theorem dX2_answer_21 : decode cX2_answer 21 = .ok (.iload_n 3, 1) := by decide +kernel
theorem dX2_answer_22 : decode cX2_answer 22 = .ok (.i2l, 1) := by decide +kernel
theorem dX2_answer_23 : decode cX2_answer 23 = .ok (.lconst 0, 1) := by decide +kernel
theorem dX2_answer_24 : decode cX2_answer 24 = .ok (.lconst 1, 1) := by decide +kernel
theorem dX2_answer_25 : decode cX2_answer 25 = .ok (.invokestatic 53, 3) := by decide +kernel
theorem dX2_answer_28 : decode cX2_answer 28 = .ok (.ifCond .eq 7, 3) := by decide +kernel
theorem dX2_answer_31 : decode cX2_answer 31 = .ok (.iconst 0, 1) := by decide +kernel
theorem dX2_answer_32 : decode cX2_answer 32 = .ok (.goto 4, 3) := by decide +kernel
theorem dX2_answer_35 : decode cX2_answer 35 = .ok (.iconst 3, 1) := by decide +kernel
theorem dX2_answer_36 : decode cX2_answer 36 = .ok (.putfield 32, 3) := by decide +kernel
theorem dX2_answer_39 : decode cX2_answer 39 = .ok (.aload_n 0, 1) := by decide +kernel
theorem dX2_answer_40 : decode cX2_answer 40 = .ok (.getfield 32, 3) := by decide +kernel
theorem dX2_answer_43 : decode cX2_answer 43 = .ok (.ifCond .le 5, 3) := by decide +kernel
theorem dX2_answer_46 : decode cX2_answer 46 = .ok (.iconst 0, 1) := by decide +kernel
theorem dX2_answer_47 : decode cX2_answer 47 = .ok (.ireturn, 1) := by decide +kernel
theorem dX2_answer_48 : decode cX2_answer 48 = .ok (.aload_n 0, 1) := by decide +kernel
theorem dX2_answer_49 : decode cX2_answer 49 = .ok (.iload_n 1, 1) := by decide +kernel
theorem dX2_answer_50 : decode cX2_answer 50 = .ok (.invokevirtual 125, 3) := by decide +kernel
theorem dX2_answer_53 : decode cX2_answer 53 = .ok (.iload_n 2, 1) := by decide +kernel
theorem dX2_answer_54 : decode cX2_answer 54 = .ok (.ifCond .ne 21, 3) := by decide +kernel
theorem dX2_answer_57 : decode cX2_answer 57 = .ok (.iload_n 3, 1) := by decide +kernel
theorem dX2_answer_58 : decode cX2_answer 58 = .ok (.ifCond .ne 10, 3) := by decide +kernel
theorem dX2_answer_61 : decode cX2_answer 61 = .ok (.aload_n 0, 1) := by decide +kernel
theorem dX2_answer_62 : decode cX2_answer 62 = .ok (.getfield 113, 3) := by decide +kernel
theorem dX2_answer_65 : decode cX2_answer 65 = .ok (.goto 25, 3) := by decide +kernel
theorem dX2_answer_68 : decode cX2_answer 68 = .ok (.aload_n 0, 1) := by decide +kernel
theorem dX2_answer_69 : decode cX2_answer 69 = .ok (.getfield 116, 3) := by decide +kernel
theorem dX2_answer_72 : decode cX2_answer 72 = .ok (.goto 18, 3) := by decide +kernel
theorem dX2_answer_75 : decode cX2_answer 75 = .ok (.iload_n 3, 1) := by decide +kernel
theorem dX2_answer_76 : decode cX2_answer 76 = .ok (.ifCond .ne 10, 3) := by decide +kernel
theorem dX2_answer_79 : decode cX2_answer 79 = .ok (.aload_n 0, 1) := by decide +kernel
theorem dX2_answer_80 : decode cX2_answer 80 = .ok (.getfield 103, 3) := by decide +kernel
theorem dX2_answer_83 : decode cX2_answer 83 = .ok (.goto 7, 3) := by decide +kernel
theorem dX2_answer_86 : decode cX2_answer 86 = .ok (.aload_n 0, 1) := by decide +kernel
theorem dX2_answer_87 : decode cX2_answer 87 = .ok (.getfield 106, 3) := by decide +kernel
theorem dX2_answer_90 : decode cX2_answer 90 = .ok (.l2i, 1) := by decide +kernel
theorem dX2_answer_91 : decode cX2_answer 91 = .ok (.ireturn, 1) := by decide +kernel
theorem dX2_isReal_0 : decode cX2_isReal 0 = .ok (.aload_n 0, 1) := by decide +kernel
theorem dX2_isReal_1 : decode cX2_isReal 1 = .ok (.getfield 20, 3) := by decide +kernel
theorem dX2_isReal_4 : decode cX2_isReal 4 = .ok (.iload_n 1, 1) := by decide +kernel
theorem dX2_isReal_5 : decode cX2_isReal 5 = .ok (.iaload, 1) := by decide +kernel
theorem dX2_isReal_6 : decode cX2_isReal 6 = .ok (.ifCond .eq 41, 3) := by decide +kernel
theorem dX2_isReal_9 : decode cX2_isReal 9 = .ok (.aload_n 0, 1) := by decide +kernel
theorem dX2_isReal_10 : decode cX2_isReal 10 = .ok (.getfield 23, 3) := by decide +kernel
theorem dX2_isReal_13 : decode cX2_isReal 13 = .ok (.iload_n 1, 1) := by decide +kernel
theorem dX2_isReal_14 : decode cX2_isReal 14 = .ok (.iaload, 1) := by decide +kernel
theorem dX2_isReal_15 : decode cX2_isReal 15 = .ok (.i2l, 1) := by decide +kernel
theorem dX2_isReal_16 : decode cX2_isReal 16 = .ok (.aload_n 0, 1) := by decide +kernel
theorem dX2_isReal_17 : decode cX2_isReal 17 = .ok (.getfield 23, 3) := by decide +kernel
theorem dX2_isReal_20 : decode cX2_isReal 20 = .ok (.iload_n 1, 1) := by decide +kernel
theorem dX2_isReal_21 : decode cX2_isReal 21 = .ok (.iaload, 1) := by decide +kernel
theorem dX2_isReal_22 : decode cX2_isReal 22 = .ok (.i2l, 1) := by decide +kernel
theorem dX2_isReal_23 : decode cX2_isReal 23 = .ok (.lmul, 1) := by decide +kernel
theorem dX2_isReal_24 : decode cX2_isReal 24 = .ok (.ldc2_w 51, 3) := by decide +kernel
theorem dX2_isReal_27 : decode cX2_isReal 27 = .ok (.aload_n 0, 1) := by decide +kernel
theorem dX2_isReal_28 : decode cX2_isReal 28 = .ok (.getfield 20, 3) := by decide +kernel
theorem dX2_isReal_31 : decode cX2_isReal 31 = .ok (.iload_n 1, 1) := by decide +kernel
theorem dX2_isReal_32 : decode cX2_isReal 32 = .ok (.iaload, 1) := by decide +kernel
theorem dX2_isReal_33 : decode cX2_isReal 33 = .ok (.i2l, 1) := by decide +kernel
theorem dX2_isReal_34 : decode cX2_isReal 34 = .ok (.lmul, 1) := by decide +kernel
theorem dX2_isReal_35 : decode cX2_isReal 35 = .ok (.aload_n 0, 1) := by decide +kernel
theorem dX2_isReal_36 : decode cX2_isReal 36 = .ok (.getfield 26, 3) := by decide +kernel
theorem dX2_isReal_39 : decode cX2_isReal 39 = .ok (.iload_n 1, 1) := by decide +kernel
theorem dX2_isReal_40 : decode cX2_isReal 40 = .ok (.iaload, 1) := by decide +kernel
theorem dX2_isReal_41 : decode cX2_isReal 41 = .ok (.i2l, 1) := by decide +kernel
theorem dX2_isReal_42 : decode cX2_isReal 42 = .ok (.lmul, 1) := by decide +kernel
theorem dX2_isReal_43 : decode cX2_isReal 43 = .ok (.lcmp, 1) := by decide +kernel
theorem dX2_isReal_44 : decode cX2_isReal 44 = .ok (.ifCond .le 7, 3) := by decide +kernel
theorem dX2_isReal_47 : decode cX2_isReal 47 = .ok (.iconst 1, 1) := by decide +kernel
theorem dX2_isReal_48 : decode cX2_isReal 48 = .ok (.goto 4, 3) := by decide +kernel
theorem dX2_isReal_51 : decode cX2_isReal 51 = .ok (.iconst 0, 1) := by decide +kernel
theorem dX2_isReal_52 : decode cX2_isReal 52 = .ok (.ireturn, 1) := by decide +kernel
theorem dX2_real_0 : decode cX2_real 0 = .ok (.aload_n 0, 1) := by decide +kernel
theorem dX2_real_1 : decode cX2_real 1 = .ok (.invokevirtual 89, 3) := by decide +kernel
theorem dX2_real_4 : decode cX2_real 4 = .ok (.ifCond .eq 9, 3) := by decide +kernel
theorem dX2_real_7 : decode cX2_real 7 = .ok (.aload_n 0, 1) := by decide +kernel
theorem dX2_real_8 : decode cX2_real 8 = .ok (.iconst 1, 1) := by decide +kernel
theorem dX2_real_9 : decode cX2_real 9 = .ok (.invokevirtual 93, 3) := by decide +kernel
theorem dX2_real_12 : decode cX2_real 12 = .ok (.ireturn, 1) := by decide +kernel
theorem dX2_real_13 : decode cX2_real 13 = .ok (.aload_n 0, 1) := by decide +kernel
theorem dX2_real_14 : decode cX2_real 14 = .ok (.iconst 0, 1) := by decide +kernel
theorem dX2_real_15 : decode cX2_real 15 = .ok (.putfield 32, 3) := by decide +kernel
theorem dX2_real_18 : decode cX2_real 18 = .ok (.aload_n 0, 1) := by decide +kernel
theorem dX2_real_19 : decode cX2_real 19 = .ok (.invokevirtual 97, 3) := by decide +kernel
theorem dX2_real_22 : decode cX2_real 22 = .ok (.iconst 0, 1) := by decide +kernel
theorem dX2_real_23 : decode cX2_real 23 = .ok (.istore_n 1, 1) := by decide +kernel
theorem dX2_real_24 : decode cX2_real 24 = .ok (.iconst 0, 1) := by decide +kernel
theorem dX2_real_25 : decode cX2_real 25 = .ok (.istore_n 2, 1) := by decide +kernel
theorem dX2_real_26 : decode cX2_real 26 = .ok (.iload_n 2, 1) := by decide +kernel
theorem dX2_real_27 : decode cX2_real 27 = .ok (.aload_n 0, 1) := by decide +kernel
theorem dX2_real_28 : decode cX2_real 28 = .ok (.getfield 72, 3) := by decide +kernel
theorem dX2_real_31 : decode cX2_real 31 = .ok (.if_icmp .ge 34, 3) := by decide +kernel
theorem dX2_real_34 : decode cX2_real 34 = .ok (.aload_n 0, 1) := by decide +kernel
theorem dX2_real_35 : decode cX2_real 35 = .ok (.iload_n 2, 1) := by decide +kernel
theorem dX2_real_36 : decode cX2_real 36 = .ok (.invokevirtual 129, 3) := by decide +kernel
theorem dX2_real_39 : decode cX2_real 39 = .ok (.ifCond .eq 20, 3) := by decide +kernel
theorem dX2_real_42 : decode cX2_real 42 = .ok (.iload_n 1, 1) := by decide +kernel
theorem dX2_real_43 : decode cX2_real 43 = .ok (.aload_n 0, 1) := by decide +kernel
theorem dX2_real_44 : decode cX2_real 44 = .ok (.getfield 20, 3) := by decide +kernel
theorem dX2_real_47 : decode cX2_real 47 = .ok (.iload_n 2, 1) := by decide +kernel
theorem dX2_real_48 : decode cX2_real 48 = .ok (.iaload, 1) := by decide +kernel
theorem dX2_real_49 : decode cX2_real 49 = .ok (.ifCond .ne 7, 3) := by decide +kernel
theorem dX2_real_52 : decode cX2_real 52 = .ok (.iconst 1, 1) := by decide +kernel
theorem dX2_real_53 : decode cX2_real 53 = .ok (.goto 4, 3) := by decide +kernel
theorem dX2_real_56 : decode cX2_real 56 = .ok (.iconst 2, 1) := by decide +kernel
theorem dX2_real_57 : decode cX2_real 57 = .ok (.iadd, 1) := by decide +kernel
theorem dX2_real_58 : decode cX2_real 58 = .ok (.istore_n 1, 1) := by decide +kernel
theorem dX2_real_59 : decode cX2_real 59 = .ok (.iinc 2 1, 3) := by decide +kernel
theorem dX2_real_62 : decode cX2_real 62 = .ok (.goto (-36), 3) := by decide +kernel
theorem dX2_real_65 : decode cX2_real 65 = .ok (.iload_n 1, 1) := by decide +kernel
theorem dX2_real_66 : decode cX2_real 66 = .ok (.ireturn, 1) := by decide +kernel
theorem dX2_sign_0 : decode cX2_sign 0 = .ok (.aload_n 0, 1) := by decide +kernel
theorem dX2_sign_1 : decode cX2_sign 1 = .ok (.getfield 20, 3) := by decide +kernel
theorem dX2_sign_4 : decode cX2_sign 4 = .ok (.iload_n 1, 1) := by decide +kernel
theorem dX2_sign_5 : decode cX2_sign 5 = .ok (.iaload, 1) := by decide +kernel
theorem dX2_sign_6 : decode cX2_sign 6 = .ok (.i2l, 1) := by decide +kernel
theorem dX2_sign_7 : decode cX2_sign 7 = .ok (.lstore 7, 2) := by decide +kernel
theorem dX2_sign_9 : decode cX2_sign 9 = .ok (.aload_n 0, 1) := by decide +kernel
theorem dX2_sign_10 : decode cX2_sign 10 = .ok (.getfield 23, 3) := by decide +kernel
theorem dX2_sign_13 : decode cX2_sign 13 = .ok (.iload_n 1, 1) := by decide +kernel
theorem dX2_sign_14 : decode cX2_sign 14 = .ok (.iaload, 1) := by decide +kernel
theorem dX2_sign_15 : decode cX2_sign 15 = .ok (.i2l, 1) := by decide +kernel
theorem dX2_sign_16 : decode cX2_sign 16 = .ok (.lstore 9, 2) := by decide +kernel
theorem dX2_sign_18 : decode cX2_sign 18 = .ok (.aload_n 0, 1) := by decide +kernel
theorem dX2_sign_19 : decode cX2_sign 19 = .ok (.getfield 26, 3) := by decide +kernel
theorem dX2_sign_22 : decode cX2_sign 22 = .ok (.iload_n 1, 1) := by decide +kernel
theorem dX2_sign_23 : decode cX2_sign 23 = .ok (.iaload, 1) := by decide +kernel
theorem dX2_sign_24 : decode cX2_sign 24 = .ok (.i2l, 1) := by decide +kernel
theorem dX2_sign_25 : decode cX2_sign 25 = .ok (.lstore 11, 2) := by decide +kernel
theorem dX2_sign_27 : decode cX2_sign 27 = .ok (.lload 7, 2) := by decide +kernel
theorem dX2_sign_29 : decode cX2_sign 29 = .ok (.lconst 0, 1) := by decide +kernel
theorem dX2_sign_30 : decode cX2_sign 30 = .ok (.lcmp, 1) := by decide +kernel
theorem dX2_sign_31 : decode cX2_sign 31 = .ok (.ifCond .ne 40, 3) := by decide +kernel
theorem dX2_sign_34 : decode cX2_sign 34 = .ok (.lload 11, 2) := by decide +kernel
theorem dX2_sign_36 : decode cX2_sign 36 = .ok (.lneg, 1) := by decide +kernel
theorem dX2_sign_37 : decode cX2_sign 37 = .ok (.lload 5, 2) := by decide +kernel
theorem dX2_sign_39 : decode cX2_sign 39 = .ok (.lmul, 1) := by decide +kernel
theorem dX2_sign_40 : decode cX2_sign 40 = .ok (.lload_n 3, 1) := by decide +kernel
theorem dX2_sign_41 : decode cX2_sign 41 = .ok (.lload 9, 2) := by decide +kernel
theorem dX2_sign_43 : decode cX2_sign 43 = .ok (.lmul, 1) := by decide +kernel
theorem dX2_sign_44 : decode cX2_sign 44 = .ok (.lsub, 1) := by decide +kernel
theorem dX2_sign_45 : decode cX2_sign 45 = .ok (.lstore 13, 2) := by decide +kernel
theorem dX2_sign_47 : decode cX2_sign 47 = .ok (.lload 13, 2) := by decide +kernel
theorem dX2_sign_49 : decode cX2_sign 49 = .ok (.lconst 0, 1) := by decide +kernel
theorem dX2_sign_50 : decode cX2_sign 50 = .ok (.lcmp, 1) := by decide +kernel
theorem dX2_sign_51 : decode cX2_sign 51 = .ok (.ifCond .le 7, 3) := by decide +kernel
theorem dX2_sign_54 : decode cX2_sign 54 = .ok (.iconst 1, 1) := by decide +kernel
theorem dX2_sign_55 : decode cX2_sign 55 = .ok (.goto 15, 3) := by decide +kernel
theorem dX2_sign_58 : decode cX2_sign 58 = .ok (.lload 13, 2) := by decide +kernel
theorem dX2_sign_60 : decode cX2_sign 60 = .ok (.lconst 0, 1) := by decide +kernel
theorem dX2_sign_61 : decode cX2_sign 61 = .ok (.lcmp, 1) := by decide +kernel
theorem dX2_sign_62 : decode cX2_sign 62 = .ok (.ifCond .ge 7, 3) := by decide +kernel
theorem dX2_sign_65 : decode cX2_sign 65 = .ok (.iconst (-1), 1) := by decide +kernel
theorem dX2_sign_66 : decode cX2_sign 66 = .ok (.goto 4, 3) := by decide +kernel
theorem dX2_sign_69 : decode cX2_sign 69 = .ok (.iconst 0, 1) := by decide +kernel
theorem dX2_sign_70 : decode cX2_sign 70 = .ok (.ireturn, 1) := by decide +kernel
theorem dX2_sign_71 : decode cX2_sign 71 = .ok (.lload 7, 2) := by decide +kernel
theorem dX2_sign_73 : decode cX2_sign 73 = .ok (.lload_n 3, 1) := by decide +kernel
theorem dX2_sign_74 : decode cX2_sign 74 = .ok (.lmul, 1) := by decide +kernel
theorem dX2_sign_75 : decode cX2_sign 75 = .ok (.lload_n 3, 1) := by decide +kernel
theorem dX2_sign_76 : decode cX2_sign 76 = .ok (.lmul, 1) := by decide +kernel
theorem dX2_sign_77 : decode cX2_sign 77 = .ok (.lload 9, 2) := by decide +kernel
theorem dX2_sign_79 : decode cX2_sign 79 = .ok (.lload_n 3, 1) := by decide +kernel
theorem dX2_sign_80 : decode cX2_sign 80 = .ok (.lmul, 1) := by decide +kernel
theorem dX2_sign_81 : decode cX2_sign 81 = .ok (.lload 5, 2) := by decide +kernel
theorem dX2_sign_83 : decode cX2_sign 83 = .ok (.lmul, 1) := by decide +kernel
theorem dX2_sign_84 : decode cX2_sign 84 = .ok (.ladd, 1) := by decide +kernel
theorem dX2_sign_85 : decode cX2_sign 85 = .ok (.lload 11, 2) := by decide +kernel
theorem dX2_sign_87 : decode cX2_sign 87 = .ok (.lload 5, 2) := by decide +kernel
theorem dX2_sign_89 : decode cX2_sign 89 = .ok (.lmul, 1) := by decide +kernel
theorem dX2_sign_90 : decode cX2_sign 90 = .ok (.lload 5, 2) := by decide +kernel
theorem dX2_sign_92 : decode cX2_sign 92 = .ok (.lmul, 1) := by decide +kernel
theorem dX2_sign_93 : decode cX2_sign 93 = .ok (.ladd, 1) := by decide +kernel
theorem dX2_sign_94 : decode cX2_sign 94 = .ok (.lstore 13, 2) := by decide +kernel
theorem dX2_sign_96 : decode cX2_sign 96 = .ok (.lload 13, 2) := by decide +kernel
theorem dX2_sign_98 : decode cX2_sign 98 = .ok (.lconst 0, 1) := by decide +kernel
theorem dX2_sign_99 : decode cX2_sign 99 = .ok (.lcmp, 1) := by decide +kernel
theorem dX2_sign_100 : decode cX2_sign 100 = .ok (.ifCond .ge 13, 3) := by decide +kernel
theorem dX2_sign_103 : decode cX2_sign 103 = .ok (.iload_n 2, 1) := by decide +kernel
theorem dX2_sign_104 : decode cX2_sign 104 = .ok (.ifCond .eq 7, 3) := by decide +kernel
theorem dX2_sign_107 : decode cX2_sign 107 = .ok (.iconst 1, 1) := by decide +kernel
theorem dX2_sign_108 : decode cX2_sign 108 = .ok (.goto 4, 3) := by decide +kernel
theorem dX2_sign_111 : decode cX2_sign 111 = .ok (.iconst (-1), 1) := by decide +kernel
theorem dX2_sign_112 : decode cX2_sign 112 = .ok (.ireturn, 1) := by decide +kernel
theorem dX2_sign_113 : decode cX2_sign 113 = .ok (.ldc2_w 63, 3) := by decide +kernel
theorem dX2_sign_116 : decode cX2_sign 116 = .ok (.lload 7, 2) := by decide +kernel
theorem dX2_sign_118 : decode cX2_sign 118 = .ok (.lmul, 1) := by decide +kernel
theorem dX2_sign_119 : decode cX2_sign 119 = .ok (.lload_n 3, 1) := by decide +kernel
theorem dX2_sign_120 : decode cX2_sign 120 = .ok (.lmul, 1) := by decide +kernel
theorem dX2_sign_121 : decode cX2_sign 121 = .ok (.lload 9, 2) := by decide +kernel
theorem dX2_sign_123 : decode cX2_sign 123 = .ok (.lload 5, 2) := by decide +kernel
theorem dX2_sign_125 : decode cX2_sign 125 = .ok (.lmul, 1) := by decide +kernel
theorem dX2_sign_126 : decode cX2_sign 126 = .ok (.ladd, 1) := by decide +kernel
theorem dX2_sign_127 : decode cX2_sign 127 = .ok (.lconst 0, 1) := by decide +kernel
theorem dX2_sign_128 : decode cX2_sign 128 = .ok (.lcmp, 1) := by decide +kernel
theorem dX2_sign_129 : decode cX2_sign 129 = .ok (.ifCond .ge 7, 3) := by decide +kernel
theorem dX2_sign_132 : decode cX2_sign 132 = .ok (.iconst 1, 1) := by decide +kernel
theorem dX2_sign_133 : decode cX2_sign 133 = .ok (.goto 4, 3) := by decide +kernel
theorem dX2_sign_136 : decode cX2_sign 136 = .ok (.iconst (-1), 1) := by decide +kernel
theorem dX2_sign_137 : decode cX2_sign 137 = .ok (.ireturn, 1) := by decide +kernel
theorem dX2_floor_0 : decode cX2_floor 0 = .ok (.aload_n 0, 1) := by decide +kernel
theorem dX2_floor_1 : decode cX2_floor 1 = .ok (.iload_n 1, 1) := by decide +kernel
theorem dX2_floor_2 : decode cX2_floor 2 = .ok (.invokevirtual 119, 3) := by decide +kernel
theorem dX2_floor_5 : decode cX2_floor 5 = .ok (.ifCond .ne 5, 3) := by decide +kernel
theorem dX2_floor_8 : decode cX2_floor 8 = .ok (.iconst 0, 1) := by decide +kernel
theorem dX2_floor_9 : decode cX2_floor 9 = .ok (.ireturn, 1) := by decide +kernel
theorem dX2_floor_10 : decode cX2_floor 10 = .ok (.aload_n 0, 1) := by decide +kernel
theorem dX2_floor_11 : decode cX2_floor 11 = .ok (.aload_n 0, 1) := by decide +kernel
theorem dX2_floor_12 : decode cX2_floor 12 = .ok (.iload_n 1, 1) := by decide +kernel
theorem dX2_floor_13 : decode cX2_floor 13 = .ok (.invokevirtual 129, 3) := by decide +kernel
theorem dX2_floor_16 : decode cX2_floor 16 = .ok (.ifCond .eq 7, 3) := by decide +kernel
theorem dX2_floor_19 : decode cX2_floor 19 = .ok (.iconst 0, 1) := by decide +kernel
theorem dX2_floor_20 : decode cX2_floor 20 = .ok (.goto 4, 3) := by decide +kernel
theorem dX2_floor_23 : decode cX2_floor 23 = .ok (.iconst 3, 1) := by decide +kernel
theorem dX2_floor_24 : decode cX2_floor 24 = .ok (.putfield 32, 3) := by decide +kernel
theorem dX2_floor_27 : decode cX2_floor 27 = .ok (.aload_n 0, 1) := by decide +kernel
theorem dX2_floor_28 : decode cX2_floor 28 = .ok (.getfield 32, 3) := by decide +kernel
theorem dX2_floor_31 : decode cX2_floor 31 = .ok (.ifCond .le 5, 3) := by decide +kernel
theorem dX2_floor_34 : decode cX2_floor 34 = .ok (.iconst 0, 1) := by decide +kernel
theorem dX2_floor_35 : decode cX2_floor 35 = .ok (.ireturn, 1) := by decide +kernel
theorem dX2_floor_36 : decode cX2_floor 36 = .ok (.sipush (-1000), 3) := by decide +kernel
theorem dX2_floor_39 : decode cX2_floor 39 = .ok (.istore_n 3, 1) := by decide +kernel
theorem dX2_floor_40 : decode cX2_floor 40 = .ok (.aload_n 0, 1) := by decide +kernel
theorem dX2_floor_41 : decode cX2_floor 41 = .ok (.iload_n 1, 1) := by decide +kernel
theorem dX2_floor_42 : decode cX2_floor 42 = .ok (.iload_n 2, 1) := by decide +kernel
theorem dX2_floor_43 : decode cX2_floor 43 = .ok (.iload_n 3, 1) := by decide +kernel
theorem dX2_floor_44 : decode cX2_floor 44 = .ok (.iconst 1, 1) := by decide +kernel
theorem dX2_floor_45 : decode cX2_floor 45 = .ok (.iadd, 1) := by decide +kernel
theorem dX2_floor_46 : decode cX2_floor 46 = .ok (.i2l, 1) := by decide +kernel
theorem dX2_floor_47 : decode cX2_floor 47 = .ok (.lconst 1, 1) := by decide +kernel
theorem dX2_floor_48 : decode cX2_floor 48 = .ok (.invokevirtual 132, 3) := by decide +kernel
theorem dX2_floor_51 : decode cX2_floor 51 = .ok (.ifCond .lt 9, 3) := by decide +kernel
theorem dX2_floor_54 : decode cX2_floor 54 = .ok (.iinc 3 1, 3) := by decide +kernel
theorem dX2_floor_57 : decode cX2_floor 57 = .ok (.goto (-17), 3) := by decide +kernel
theorem dX2_floor_60 : decode cX2_floor 60 = .ok (.iload_n 3, 1) := by decide +kernel
theorem dX2_floor_61 : decode cX2_floor 61 = .ok (.ireturn, 1) := by decide +kernel
theorem dX2_compare_0 : decode cX2_compare 0 = .ok (.aload_n 0, 1) := by decide +kernel
theorem dX2_compare_1 : decode cX2_compare 1 = .ok (.iload_n 1, 1) := by decide +kernel
theorem dX2_compare_2 : decode cX2_compare 2 = .ok (.invokevirtual 119, 3) := by decide +kernel
theorem dX2_compare_5 : decode cX2_compare 5 = .ok (.ifCond .ne 5, 3) := by decide +kernel
theorem dX2_compare_8 : decode cX2_compare 8 = .ok (.iconst 0, 1) := by decide +kernel
theorem dX2_compare_9 : decode cX2_compare 9 = .ok (.ireturn, 1) := by decide +kernel
theorem dX2_compare_10 : decode cX2_compare 10 = .ok (.iload_n 3, 1) := by decide +kernel
theorem dX2_compare_11 : decode cX2_compare 11 = .ok (.i2l, 1) := by decide +kernel
theorem dX2_compare_12 : decode cX2_compare 12 = .ok (.lconst 0, 1) := by decide +kernel
theorem dX2_compare_13 : decode cX2_compare 13 = .ok (.aload_n 0, 1) := by decide +kernel
theorem dX2_compare_14 : decode cX2_compare 14 = .ok (.getfield 72, 3) := by decide +kernel
theorem dX2_compare_17 : decode cX2_compare 17 = .ok (.iconst 1, 1) := by decide +kernel
theorem dX2_compare_18 : decode cX2_compare 18 = .ok (.isub, 1) := by decide +kernel
theorem dX2_compare_19 : decode cX2_compare 19 = .ok (.i2l, 1) := by decide +kernel
theorem dX2_compare_20 : decode cX2_compare 20 = .ok (.invokestatic 53, 3) := by decide +kernel
theorem dX2_compare_23 : decode cX2_compare 23 = .ok (.ifCond .ne 9, 3) := by decide +kernel
theorem dX2_compare_26 : decode cX2_compare 26 = .ok (.aload_n 0, 1) := by decide +kernel
theorem dX2_compare_27 : decode cX2_compare 27 = .ok (.iconst 2, 1) := by decide +kernel
theorem dX2_compare_28 : decode cX2_compare 28 = .ok (.invokevirtual 93, 3) := by decide +kernel
theorem dX2_compare_31 : decode cX2_compare 31 = .ok (.ireturn, 1) := by decide +kernel
theorem dX2_compare_32 : decode cX2_compare 32 = .ok (.aload_n 0, 1) := by decide +kernel
theorem dX2_compare_33 : decode cX2_compare 33 = .ok (.aload_n 0, 1) := by decide +kernel
theorem dX2_compare_34 : decode cX2_compare 34 = .ok (.iload_n 1, 1) := by decide +kernel
theorem dX2_compare_35 : decode cX2_compare 35 = .ok (.invokevirtual 129, 3) := by decide +kernel
theorem dX2_compare_38 : decode cX2_compare 38 = .ok (.ifCond .eq 15, 3) := by decide +kernel
theorem dX2_compare_41 : decode cX2_compare 41 = .ok (.aload_n 0, 1) := by decide +kernel
theorem dX2_compare_42 : decode cX2_compare 42 = .ok (.iload_n 3, 1) := by decide +kernel
theorem dX2_compare_43 : decode cX2_compare 43 = .ok (.invokevirtual 129, 3) := by decide +kernel
theorem dX2_compare_46 : decode cX2_compare 46 = .ok (.ifCond .eq 7, 3) := by decide +kernel
theorem dX2_compare_49 : decode cX2_compare 49 = .ok (.iconst 0, 1) := by decide +kernel
theorem dX2_compare_50 : decode cX2_compare 50 = .ok (.goto 4, 3) := by decide +kernel
theorem dX2_compare_53 : decode cX2_compare 53 = .ok (.iconst 3, 1) := by decide +kernel
theorem dX2_compare_54 : decode cX2_compare 54 = .ok (.putfield 32, 3) := by decide +kernel
theorem dX2_compare_57 : decode cX2_compare 57 = .ok (.aload_n 0, 1) := by decide +kernel
theorem dX2_compare_58 : decode cX2_compare 58 = .ok (.getfield 32, 3) := by decide +kernel
theorem dX2_compare_61 : decode cX2_compare 61 = .ok (.ifCond .le 5, 3) := by decide +kernel
theorem dX2_compare_64 : decode cX2_compare 64 = .ok (.iconst 0, 1) := by decide +kernel
theorem dX2_compare_65 : decode cX2_compare 65 = .ok (.ireturn, 1) := by decide +kernel
theorem dX2_compare_66 : decode cX2_compare 66 = .ok (.iload_n 1, 1) := by decide +kernel
theorem dX2_compare_67 : decode cX2_compare 67 = .ok (.iload_n 3, 1) := by decide +kernel
theorem dX2_compare_68 : decode cX2_compare 68 = .ok (.if_icmp .ne 20, 3) := by decide +kernel
theorem dX2_compare_71 : decode cX2_compare 71 = .ok (.iload_n 2, 1) := by decide +kernel
theorem dX2_compare_72 : decode cX2_compare 72 = .ok (.iload 4, 2) := by decide +kernel
theorem dX2_compare_74 : decode cX2_compare 74 = .ok (.if_icmp .eq 12, 3) := by decide +kernel
theorem dX2_compare_77 : decode cX2_compare 77 = .ok (.aload_n 0, 1) := by decide +kernel
theorem dX2_compare_78 : decode cX2_compare 78 = .ok (.getfield 20, 3) := by decide +kernel
theorem dX2_compare_81 : decode cX2_compare 81 = .ok (.iload_n 1, 1) := by decide +kernel
theorem dX2_compare_82 : decode cX2_compare 82 = .ok (.iaload, 1) := by decide +kernel
theorem dX2_compare_83 : decode cX2_compare 83 = .ok (.ifCond .ne 5, 3) := by decide +kernel
theorem dX2_compare_86 : decode cX2_compare 86 = .ok (.iconst 0, 1) := by decide +kernel
theorem dX2_compare_87 : decode cX2_compare 87 = .ok (.ireturn, 1) := by decide +kernel
theorem dX2_compare_88 : decode cX2_compare 88 = .ok (.iload_n 1, 1) := by decide +kernel
theorem dX2_compare_89 : decode cX2_compare 89 = .ok (.iload_n 3, 1) := by decide +kernel
theorem dX2_compare_90 : decode cX2_compare 90 = .ok (.if_icmp .ne 13, 3) := by decide +kernel
theorem dX2_compare_93 : decode cX2_compare 93 = .ok (.iload_n 2, 1) := by decide +kernel
theorem dX2_compare_94 : decode cX2_compare 94 = .ok (.ifCond .eq 7, 3) := by decide +kernel
theorem dX2_compare_97 : decode cX2_compare 97 = .ok (.iconst 1, 1) := by decide +kernel
theorem dX2_compare_98 : decode cX2_compare 98 = .ok (.goto 4, 3) := by decide +kernel
theorem dX2_compare_101 : decode cX2_compare 101 = .ok (.iconst (-1), 1) := by decide +kernel
theorem dX2_compare_102 : decode cX2_compare 102 = .ok (.ireturn, 1) := by decide +kernel
theorem dX2_compare_103 : decode cX2_compare 103 = .ok (.aload_n 0, 1) := by decide +kernel
theorem dX2_compare_104 : decode cX2_compare 104 = .ok (.iload_n 1, 1) := by decide +kernel
theorem dX2_compare_105 : decode cX2_compare 105 = .ok (.invokevirtual 136, 3) := by decide +kernel
theorem dX2_compare_108 : decode cX2_compare 108 = .ok (.lstore 5, 2) := by decide +kernel
theorem dX2_compare_110 : decode cX2_compare 110 = .ok (.aload_n 0, 1) := by decide +kernel
theorem dX2_compare_111 : decode cX2_compare 111 = .ok (.iload_n 3, 1) := by decide +kernel
theorem dX2_compare_112 : decode cX2_compare 112 = .ok (.invokevirtual 136, 3) := by decide +kernel
theorem dX2_compare_115 : decode cX2_compare 115 = .ok (.lstore 7, 2) := by decide +kernel
theorem dX2_compare_117 : decode cX2_compare 117 = .ok (.lload 7, 2) := by decide +kernel
theorem dX2_compare_119 : decode cX2_compare 119 = .ok (.iload_n 2, 1) := by decide +kernel
theorem dX2_compare_120 : decode cX2_compare 120 = .ok (.ifCond .eq 7, 3) := by decide +kernel
theorem dX2_compare_123 : decode cX2_compare 123 = .ok (.lconst 1, 1) := by decide +kernel
theorem dX2_compare_124 : decode cX2_compare 124 = .ok (.goto 6, 3) := by decide +kernel
theorem dX2_compare_127 : decode cX2_compare 127 = .ok (.ldc2_w 61, 3) := by decide +kernel
theorem dX2_compare_130 : decode cX2_compare 130 = .ok (.lmul, 1) := by decide +kernel
theorem dX2_compare_131 : decode cX2_compare 131 = .ok (.lstore 9, 2) := by decide +kernel
theorem dX2_compare_133 : decode cX2_compare 133 = .ok (.lload 5, 2) := by decide +kernel
theorem dX2_compare_135 : decode cX2_compare 135 = .ok (.iload 4, 2) := by decide +kernel
theorem dX2_compare_137 : decode cX2_compare 137 = .ok (.ifCond .eq 9, 3) := by decide +kernel
theorem dX2_compare_140 : decode cX2_compare 140 = .ok (.ldc2_w 61, 3) := by decide +kernel
theorem dX2_compare_143 : decode cX2_compare 143 = .ok (.goto 4, 3) := by decide +kernel
theorem dX2_compare_146 : decode cX2_compare 146 = .ok (.lconst 1, 1) := by decide +kernel
theorem dX2_compare_147 : decode cX2_compare 147 = .ok (.lmul, 1) := by decide +kernel
theorem dX2_compare_148 : decode cX2_compare 148 = .ok (.lstore 11, 2) := by decide +kernel
theorem dX2_compare_150 : decode cX2_compare 150 = .ok (.lload 5, 2) := by decide +kernel
theorem dX2_compare_152 : decode cX2_compare 152 = .ok (.aload_n 0, 1) := by decide +kernel
theorem dX2_compare_153 : decode cX2_compare 153 = .ok (.iload_n 3, 1) := by decide +kernel
theorem dX2_compare_154 : decode cX2_compare 154 = .ok (.invokevirtual 140, 3) := by decide +kernel
theorem dX2_compare_157 : decode cX2_compare 157 = .ok (.lmul, 1) := by decide +kernel
theorem dX2_compare_158 : decode cX2_compare 158 = .ok (.lload 7, 2) := by decide +kernel
theorem dX2_compare_160 : decode cX2_compare 160 = .ok (.aload_n 0, 1) := by decide +kernel
theorem dX2_compare_161 : decode cX2_compare 161 = .ok (.iload_n 1, 1) := by decide +kernel
theorem dX2_compare_162 : decode cX2_compare 162 = .ok (.invokevirtual 140, 3) := by decide +kernel
theorem dX2_compare_165 : decode cX2_compare 165 = .ok (.lmul, 1) := by decide +kernel
theorem dX2_compare_166 : decode cX2_compare 166 = .ok (.lsub, 1) := by decide +kernel
theorem dX2_compare_167 : decode cX2_compare 167 = .ok (.lload 9, 2) := by decide +kernel
theorem dX2_compare_169 : decode cX2_compare 169 = .ok (.aload_n 0, 1) := by decide +kernel
theorem dX2_compare_170 : decode cX2_compare 170 = .ok (.iload_n 1, 1) := by decide +kernel
theorem dX2_compare_171 : decode cX2_compare 171 = .ok (.invokevirtual 143, 3) := by decide +kernel
theorem dX2_compare_174 : decode cX2_compare 174 = .ok (.lload 11, 2) := by decide +kernel
theorem dX2_compare_176 : decode cX2_compare 176 = .ok (.aload_n 0, 1) := by decide +kernel
theorem dX2_compare_177 : decode cX2_compare 177 = .ok (.iload_n 3, 1) := by decide +kernel
theorem dX2_compare_178 : decode cX2_compare 178 = .ok (.invokevirtual 143, 3) := by decide +kernel
theorem dX2_compare_181 : decode cX2_compare 181 = .ok (.invokestatic 146, 3) := by decide +kernel
theorem dX2_compare_184 : decode cX2_compare 184 = .ok (.ireturn, 1) := by decide +kernel
theorem dX2_leading_0 : decode cX2_leading 0 = .ok (.aload_n 0, 1) := by decide +kernel
theorem dX2_leading_1 : decode cX2_leading 1 = .ok (.getfield 20, 3) := by decide +kernel
theorem dX2_leading_4 : decode cX2_leading 4 = .ok (.iload_n 1, 1) := by decide +kernel
theorem dX2_leading_5 : decode cX2_leading 5 = .ok (.iaload, 1) := by decide +kernel
theorem dX2_leading_6 : decode cX2_leading 6 = .ok (.ifCond .ne 13, 3) := by decide +kernel
theorem dX2_leading_9 : decode cX2_leading 9 = .ok (.aload_n 0, 1) := by decide +kernel
theorem dX2_leading_10 : decode cX2_leading 10 = .ok (.getfield 23, 3) := by decide +kernel
theorem dX2_leading_13 : decode cX2_leading 13 = .ok (.iload_n 1, 1) := by decide +kernel
theorem dX2_leading_14 : decode cX2_leading 14 = .ok (.iaload, 1) := by decide +kernel
theorem dX2_leading_15 : decode cX2_leading 15 = .ok (.i2l, 1) := by decide +kernel
theorem dX2_leading_16 : decode cX2_leading 16 = .ok (.goto 10, 3) := by decide +kernel
theorem dX2_leading_19 : decode cX2_leading 19 = .ok (.aload_n 0, 1) := by decide +kernel
theorem dX2_leading_20 : decode cX2_leading 20 = .ok (.getfield 20, 3) := by decide +kernel
theorem dX2_leading_23 : decode cX2_leading 23 = .ok (.iload_n 1, 1) := by decide +kernel
theorem dX2_leading_24 : decode cX2_leading 24 = .ok (.iaload, 1) := by decide +kernel
theorem dX2_leading_25 : decode cX2_leading 25 = .ok (.i2l, 1) := by decide +kernel
theorem dX2_leading_26 : decode cX2_leading 26 = .ok (.lreturn, 1) := by decide +kernel
theorem dX2_middle_0 : decode cX2_middle 0 = .ok (.aload_n 0, 1) := by decide +kernel
theorem dX2_middle_1 : decode cX2_middle 1 = .ok (.getfield 20, 3) := by decide +kernel
theorem dX2_middle_4 : decode cX2_middle 4 = .ok (.iload_n 1, 1) := by decide +kernel
theorem dX2_middle_5 : decode cX2_middle 5 = .ok (.iaload, 1) := by decide +kernel
theorem dX2_middle_6 : decode cX2_middle 6 = .ok (.ifCond .ne 17, 3) := by decide +kernel
theorem dX2_middle_9 : decode cX2_middle 9 = .ok (.ldc2_w 63, 3) := by decide +kernel
theorem dX2_middle_12 : decode cX2_middle 12 = .ok (.aload_n 0, 1) := by decide +kernel
theorem dX2_middle_13 : decode cX2_middle 13 = .ok (.getfield 26, 3) := by decide +kernel
theorem dX2_middle_16 : decode cX2_middle 16 = .ok (.iload_n 1, 1) := by decide +kernel
theorem dX2_middle_17 : decode cX2_middle 17 = .ok (.iaload, 1) := by decide +kernel
theorem dX2_middle_18 : decode cX2_middle 18 = .ok (.i2l, 1) := by decide +kernel
theorem dX2_middle_19 : decode cX2_middle 19 = .ok (.lmul, 1) := by decide +kernel
theorem dX2_middle_20 : decode cX2_middle 20 = .ok (.goto 10, 3) := by decide +kernel
theorem dX2_middle_23 : decode cX2_middle 23 = .ok (.aload_n 0, 1) := by decide +kernel
theorem dX2_middle_24 : decode cX2_middle 24 = .ok (.getfield 23, 3) := by decide +kernel
theorem dX2_middle_27 : decode cX2_middle 27 = .ok (.iload_n 1, 1) := by decide +kernel
theorem dX2_middle_28 : decode cX2_middle 28 = .ok (.iaload, 1) := by decide +kernel
theorem dX2_middle_29 : decode cX2_middle 29 = .ok (.i2l, 1) := by decide +kernel
theorem dX2_middle_30 : decode cX2_middle 30 = .ok (.lreturn, 1) := by decide +kernel
theorem dX2_under_0 : decode cX2_under 0 = .ok (.aload_n 0, 1) := by decide +kernel
theorem dX2_under_1 : decode cX2_under 1 = .ok (.getfield 20, 3) := by decide +kernel
theorem dX2_under_4 : decode cX2_under 4 = .ok (.iload_n 1, 1) := by decide +kernel
theorem dX2_under_5 : decode cX2_under 5 = .ok (.iaload, 1) := by decide +kernel
theorem dX2_under_6 : decode cX2_under 6 = .ok (.ifCond .ne 7, 3) := by decide +kernel
theorem dX2_under_9 : decode cX2_under 9 = .ok (.lconst 0, 1) := by decide +kernel
theorem dX2_under_10 : decode cX2_under 10 = .ok (.goto 38, 3) := by decide +kernel
theorem dX2_under_13 : decode cX2_under 13 = .ok (.aload_n 0, 1) := by decide +kernel
theorem dX2_under_14 : decode cX2_under 14 = .ok (.getfield 23, 3) := by decide +kernel
theorem dX2_under_17 : decode cX2_under 17 = .ok (.iload_n 1, 1) := by decide +kernel
theorem dX2_under_18 : decode cX2_under 18 = .ok (.iaload, 1) := by decide +kernel
theorem dX2_under_19 : decode cX2_under 19 = .ok (.i2l, 1) := by decide +kernel
theorem dX2_under_20 : decode cX2_under 20 = .ok (.aload_n 0, 1) := by decide +kernel
theorem dX2_under_21 : decode cX2_under 21 = .ok (.getfield 23, 3) := by decide +kernel
theorem dX2_under_24 : decode cX2_under 24 = .ok (.iload_n 1, 1) := by decide +kernel
theorem dX2_under_25 : decode cX2_under 25 = .ok (.iaload, 1) := by decide +kernel
theorem dX2_under_26 : decode cX2_under 26 = .ok (.i2l, 1) := by decide +kernel
theorem dX2_under_27 : decode cX2_under 27 = .ok (.lmul, 1) := by decide +kernel
theorem dX2_under_28 : decode cX2_under 28 = .ok (.ldc2_w 51, 3) := by decide +kernel
theorem dX2_under_31 : decode cX2_under 31 = .ok (.aload_n 0, 1) := by decide +kernel
theorem dX2_under_32 : decode cX2_under 32 = .ok (.getfield 20, 3) := by decide +kernel
theorem dX2_under_35 : decode cX2_under 35 = .ok (.iload_n 1, 1) := by decide +kernel
theorem dX2_under_36 : decode cX2_under 36 = .ok (.iaload, 1) := by decide +kernel
theorem dX2_under_37 : decode cX2_under 37 = .ok (.i2l, 1) := by decide +kernel
theorem dX2_under_38 : decode cX2_under 38 = .ok (.lmul, 1) := by decide +kernel
theorem dX2_under_39 : decode cX2_under 39 = .ok (.aload_n 0, 1) := by decide +kernel
theorem dX2_under_40 : decode cX2_under 40 = .ok (.getfield 26, 3) := by decide +kernel
theorem dX2_under_43 : decode cX2_under 43 = .ok (.iload_n 1, 1) := by decide +kernel
theorem dX2_under_44 : decode cX2_under 44 = .ok (.iaload, 1) := by decide +kernel
theorem dX2_under_45 : decode cX2_under 45 = .ok (.i2l, 1) := by decide +kernel
theorem dX2_under_46 : decode cX2_under 46 = .ok (.lmul, 1) := by decide +kernel
theorem dX2_under_47 : decode cX2_under 47 = .ok (.lsub, 1) := by decide +kernel
theorem dX2_under_48 : decode cX2_under 48 = .ok (.lreturn, 1) := by decide +kernel
theorem dX2_signOf_0 : decode cX2_signOf 0 = .ok (.lload_n 0, 1) := by decide +kernel
theorem dX2_signOf_1 : decode cX2_signOf 1 = .ok (.lconst 0, 1) := by decide +kernel
theorem dX2_signOf_2 : decode cX2_signOf 2 = .ok (.lcmp, 1) := by decide +kernel
theorem dX2_signOf_3 : decode cX2_signOf 3 = .ok (.ifCond .le 7, 3) := by decide +kernel
theorem dX2_signOf_6 : decode cX2_signOf 6 = .ok (.iconst 1, 1) := by decide +kernel
theorem dX2_signOf_7 : decode cX2_signOf 7 = .ok (.goto 14, 3) := by decide +kernel
theorem dX2_signOf_10 : decode cX2_signOf 10 = .ok (.lload_n 0, 1) := by decide +kernel
theorem dX2_signOf_11 : decode cX2_signOf 11 = .ok (.lconst 0, 1) := by decide +kernel
theorem dX2_signOf_12 : decode cX2_signOf 12 = .ok (.lcmp, 1) := by decide +kernel
theorem dX2_signOf_13 : decode cX2_signOf 13 = .ok (.ifCond .ge 7, 3) := by decide +kernel
theorem dX2_signOf_16 : decode cX2_signOf 16 = .ok (.iconst (-1), 1) := by decide +kernel
theorem dX2_signOf_17 : decode cX2_signOf 17 = .ok (.goto 4, 3) := by decide +kernel
theorem dX2_signOf_20 : decode cX2_signOf 20 = .ok (.iconst 0, 1) := by decide +kernel
theorem dX2_signOf_21 : decode cX2_signOf 21 = .ok (.ireturn, 1) := by decide +kernel
theorem dX2_rootSign_0 : decode cX2_rootSign 0 = .ok (.lload_n 0, 1) := by decide +kernel
theorem dX2_rootSign_1 : decode cX2_rootSign 1 = .ok (.invokestatic 150, 3) := by decide +kernel
theorem dX2_rootSign_4 : decode cX2_rootSign 4 = .ok (.istore 6, 2) := by decide +kernel
theorem dX2_rootSign_6 : decode cX2_rootSign 6 = .ok (.lload 4, 2) := by decide +kernel
theorem dX2_rootSign_8 : decode cX2_rootSign 8 = .ok (.lconst 0, 1) := by decide +kernel
theorem dX2_rootSign_9 : decode cX2_rootSign 9 = .ok (.lcmp, 1) := by decide +kernel
theorem dX2_rootSign_10 : decode cX2_rootSign 10 = .ok (.ifCond .ne 7, 3) := by decide +kernel
theorem dX2_rootSign_13 : decode cX2_rootSign 13 = .ok (.iconst 0, 1) := by decide +kernel
theorem dX2_rootSign_14 : decode cX2_rootSign 14 = .ok (.goto 7, 3) := by decide +kernel
theorem dX2_rootSign_17 : decode cX2_rootSign 17 = .ok (.lload_n 2, 1) := by decide +kernel
theorem dX2_rootSign_18 : decode cX2_rootSign 18 = .ok (.invokestatic 150, 3) := by decide +kernel
theorem dX2_rootSign_21 : decode cX2_rootSign 21 = .ok (.istore 7, 2) := by decide +kernel
theorem dX2_rootSign_23 : decode cX2_rootSign 23 = .ok (.iload 6, 2) := by decide +kernel
theorem dX2_rootSign_25 : decode cX2_rootSign 25 = .ok (.ifCond .eq 15, 3) := by decide +kernel
theorem dX2_rootSign_28 : decode cX2_rootSign 28 = .ok (.iload 7, 2) := by decide +kernel
theorem dX2_rootSign_30 : decode cX2_rootSign 30 = .ok (.ifCond .eq 10, 3) := by decide +kernel
theorem dX2_rootSign_33 : decode cX2_rootSign 33 = .ok (.iload 6, 2) := by decide +kernel
theorem dX2_rootSign_35 : decode cX2_rootSign 35 = .ok (.iload 7, 2) := by decide +kernel
theorem dX2_rootSign_37 : decode cX2_rootSign 37 = .ok (.if_icmp .ne 16, 3) := by decide +kernel
theorem dX2_rootSign_40 : decode cX2_rootSign 40 = .ok (.iload 6, 2) := by decide +kernel
theorem dX2_rootSign_42 : decode cX2_rootSign 42 = .ok (.ifCond .ne 8, 3) := by decide +kernel
theorem dX2_rootSign_45 : decode cX2_rootSign 45 = .ok (.iload 7, 2) := by decide +kernel
theorem dX2_rootSign_47 : decode cX2_rootSign 47 = .ok (.goto 5, 3) := by decide +kernel
theorem dX2_rootSign_50 : decode cX2_rootSign 50 = .ok (.iload 6, 2) := by decide +kernel
theorem dX2_rootSign_52 : decode cX2_rootSign 52 = .ok (.ireturn, 1) := by decide +kernel
theorem dX2_rootSign_53 : decode cX2_rootSign 53 = .ok (.iload 6, 2) := by decide +kernel
theorem dX2_rootSign_55 : decode cX2_rootSign 55 = .ok (.lload_n 0, 1) := by decide +kernel
theorem dX2_rootSign_56 : decode cX2_rootSign 56 = .ok (.lload_n 0, 1) := by decide +kernel
theorem dX2_rootSign_57 : decode cX2_rootSign 57 = .ok (.lmul, 1) := by decide +kernel
theorem dX2_rootSign_58 : decode cX2_rootSign 58 = .ok (.lload_n 2, 1) := by decide +kernel
theorem dX2_rootSign_59 : decode cX2_rootSign 59 = .ok (.lload_n 2, 1) := by decide +kernel
theorem dX2_rootSign_60 : decode cX2_rootSign 60 = .ok (.lmul, 1) := by decide +kernel
theorem dX2_rootSign_61 : decode cX2_rootSign 61 = .ok (.lload 4, 2) := by decide +kernel
theorem dX2_rootSign_63 : decode cX2_rootSign 63 = .ok (.lmul, 1) := by decide +kernel
theorem dX2_rootSign_64 : decode cX2_rootSign 64 = .ok (.lsub, 1) := by decide +kernel
theorem dX2_rootSign_65 : decode cX2_rootSign 65 = .ok (.invokestatic 150, 3) := by decide +kernel
theorem dX2_rootSign_68 : decode cX2_rootSign 68 = .ok (.imul, 1) := by decide +kernel
theorem dX2_rootSign_69 : decode cX2_rootSign 69 = .ok (.ireturn, 1) := by decide +kernel
theorem dX2_allSign_0 : decode cX2_allSign 0 = .ok (.lload_n 0, 1) := by decide +kernel
theorem dX2_allSign_1 : decode cX2_allSign 1 = .ok (.lload_n 2, 1) := by decide +kernel
theorem dX2_allSign_2 : decode cX2_allSign 2 = .ok (.lload 4, 2) := by decide +kernel
theorem dX2_allSign_4 : decode cX2_allSign 4 = .ok (.invokestatic 154, 3) := by decide +kernel
theorem dX2_allSign_7 : decode cX2_allSign 7 = .ok (.istore 10, 2) := by decide +kernel
theorem dX2_allSign_9 : decode cX2_allSign 9 = .ok (.lload 8, 2) := by decide +kernel
theorem dX2_allSign_11 : decode cX2_allSign 11 = .ok (.lconst 0, 1) := by decide +kernel
theorem dX2_allSign_12 : decode cX2_allSign 12 = .ok (.lcmp, 1) := by decide +kernel
theorem dX2_allSign_13 : decode cX2_allSign 13 = .ok (.ifCond .ne 7, 3) := by decide +kernel
theorem dX2_allSign_16 : decode cX2_allSign 16 = .ok (.iconst 0, 1) := by decide +kernel
theorem dX2_allSign_17 : decode cX2_allSign 17 = .ok (.goto 8, 3) := by decide +kernel
theorem dX2_allSign_20 : decode cX2_allSign 20 = .ok (.lload 6, 2) := by decide +kernel
theorem dX2_allSign_22 : decode cX2_allSign 22 = .ok (.invokestatic 150, 3) := by decide +kernel
theorem dX2_allSign_25 : decode cX2_allSign 25 = .ok (.istore 11, 2) := by decide +kernel
theorem dX2_allSign_27 : decode cX2_allSign 27 = .ok (.iload 10, 2) := by decide +kernel
theorem dX2_allSign_29 : decode cX2_allSign 29 = .ok (.ifCond .eq 15, 3) := by decide +kernel
theorem dX2_allSign_32 : decode cX2_allSign 32 = .ok (.iload 11, 2) := by decide +kernel
theorem dX2_allSign_34 : decode cX2_allSign 34 = .ok (.ifCond .eq 10, 3) := by decide +kernel
theorem dX2_allSign_37 : decode cX2_allSign 37 = .ok (.iload 10, 2) := by decide +kernel
theorem dX2_allSign_39 : decode cX2_allSign 39 = .ok (.iload 11, 2) := by decide +kernel
theorem dX2_allSign_41 : decode cX2_allSign 41 = .ok (.if_icmp .ne 16, 3) := by decide +kernel
theorem dX2_allSign_44 : decode cX2_allSign 44 = .ok (.iload 10, 2) := by decide +kernel
theorem dX2_allSign_46 : decode cX2_allSign 46 = .ok (.ifCond .ne 8, 3) := by decide +kernel
theorem dX2_allSign_49 : decode cX2_allSign 49 = .ok (.iload 11, 2) := by decide +kernel
theorem dX2_allSign_51 : decode cX2_allSign 51 = .ok (.goto 5, 3) := by decide +kernel
theorem dX2_allSign_54 : decode cX2_allSign 54 = .ok (.iload 10, 2) := by decide +kernel
theorem dX2_allSign_56 : decode cX2_allSign 56 = .ok (.ireturn, 1) := by decide +kernel
theorem dX2_allSign_57 : decode cX2_allSign 57 = .ok (.iload 10, 2) := by decide +kernel
theorem dX2_allSign_59 : decode cX2_allSign 59 = .ok (.lload_n 0, 1) := by decide +kernel
theorem dX2_allSign_60 : decode cX2_allSign 60 = .ok (.lload_n 0, 1) := by decide +kernel
theorem dX2_allSign_61 : decode cX2_allSign 61 = .ok (.lmul, 1) := by decide +kernel
theorem dX2_allSign_62 : decode cX2_allSign 62 = .ok (.lload_n 2, 1) := by decide +kernel
theorem dX2_allSign_63 : decode cX2_allSign 63 = .ok (.lload_n 2, 1) := by decide +kernel
theorem dX2_allSign_64 : decode cX2_allSign 64 = .ok (.lmul, 1) := by decide +kernel
theorem dX2_allSign_65 : decode cX2_allSign 65 = .ok (.lload 4, 2) := by decide +kernel
theorem dX2_allSign_67 : decode cX2_allSign 67 = .ok (.lmul, 1) := by decide +kernel
theorem dX2_allSign_68 : decode cX2_allSign 68 = .ok (.ladd, 1) := by decide +kernel
theorem dX2_allSign_69 : decode cX2_allSign 69 = .ok (.lload 6, 2) := by decide +kernel
theorem dX2_allSign_71 : decode cX2_allSign 71 = .ok (.lload 6, 2) := by decide +kernel
theorem dX2_allSign_73 : decode cX2_allSign 73 = .ok (.lmul, 1) := by decide +kernel
theorem dX2_allSign_74 : decode cX2_allSign 74 = .ok (.lload 8, 2) := by decide +kernel
theorem dX2_allSign_76 : decode cX2_allSign 76 = .ok (.lmul, 1) := by decide +kernel
theorem dX2_allSign_77 : decode cX2_allSign 77 = .ok (.lsub, 1) := by decide +kernel
theorem dX2_allSign_78 : decode cX2_allSign 78 = .ok (.ldc2_w 63, 3) := by decide +kernel
theorem dX2_allSign_81 : decode cX2_allSign 81 = .ok (.lload_n 0, 1) := by decide +kernel
theorem dX2_allSign_82 : decode cX2_allSign 82 = .ok (.lmul, 1) := by decide +kernel
theorem dX2_allSign_83 : decode cX2_allSign 83 = .ok (.lload_n 2, 1) := by decide +kernel
theorem dX2_allSign_84 : decode cX2_allSign 84 = .ok (.lmul, 1) := by decide +kernel
theorem dX2_allSign_85 : decode cX2_allSign 85 = .ok (.lload 4, 2) := by decide +kernel
theorem dX2_allSign_87 : decode cX2_allSign 87 = .ok (.invokestatic 154, 3) := by decide +kernel
theorem dX2_allSign_90 : decode cX2_allSign 90 = .ok (.imul, 1) := by decide +kernel
theorem dX2_allSign_91 : decode cX2_allSign 91 = .ok (.ireturn, 1) := by decide +kernel
