theorem dX1_init_0 : decode cX1_init 0 = .ok (.aload_n 0, 1) := by decide +kernel
theorem dX1_init_1 : decode cX1_init 1 = .ok (.invokespecial 1, 3) := by decide +kernel
theorem dX1_init_4 : decode cX1_init 4 = .ok (.aload_n 0, 1) := by decide +kernel
theorem dX1_init_5 : decode cX1_init 5 = .ok (.iconst 5, 1) := by decide +kernel
theorem dX1_init_6 : decode cX1_init 6 = .ok (.newarray .int, 2) := by decide +kernel
theorem dX1_init_8 : decode cX1_init 8 = .ok (.putfield 9, 3) := by decide +kernel
theorem dX1_init_11 : decode cX1_init 11 = .ok (.aload_n 0, 1) := by decide +kernel
theorem dX1_init_12 : decode cX1_init 12 = .ok (.iconst 5, 1) := by decide +kernel
theorem dX1_init_13 : decode cX1_init 13 = .ok (.newarray .int, 2) := by decide +kernel
theorem dX1_init_15 : decode cX1_init 15 = .ok (.putfield 13, 3) := by decide +kernel
theorem dX1_init_18 : decode cX1_init 18 = .ok (.aload_n 0, 1) := by decide +kernel
theorem dX1_init_19 : decode cX1_init 19 = .ok (.iconst 5, 1) := by decide +kernel
theorem dX1_init_20 : decode cX1_init 20 = .ok (.newarray .int, 2) := by decide +kernel
theorem dX1_init_22 : decode cX1_init 22 = .ok (.putfield 16, 3) := by decide +kernel
theorem dX1_init_25 : decode cX1_init 25 = .ok (.aload_n 0, 1) := by decide +kernel
theorem dX1_init_26 : decode cX1_init 26 = .ok (.iconst 4, 1) := by decide +kernel
theorem dX1_init_27 : decode cX1_init 27 = .ok (.anewarray 19, 3) := by decide +kernel
theorem dX1_init_30 : decode cX1_init 30 = .ok (.putfield 21, 3) := by decide +kernel
theorem dX1_init_33 : decode cX1_init 33 = .ok (.iconst 0, 1) := by decide +kernel
theorem dX1_init_34 : decode cX1_init 34 = .ok (.istore_n 1, 1) := by decide +kernel
theorem dX1_init_35 : decode cX1_init 35 = .ok (.iload_n 1, 1) := by decide +kernel
theorem dX1_init_36 : decode cX1_init 36 = .ok (.aload_n 0, 1) := by decide +kernel
theorem dX1_init_37 : decode cX1_init 37 = .ok (.getfield 21, 3) := by decide +kernel
theorem dX1_init_40 : decode cX1_init 40 = .ok (.arraylength, 1) := by decide +kernel
theorem dX1_init_41 : decode cX1_init 41 = .ok (.if_icmp .ge 22, 3) := by decide +kernel
theorem dX1_init_44 : decode cX1_init 44 = .ok (.aload_n 0, 1) := by decide +kernel
theorem dX1_init_45 : decode cX1_init 45 = .ok (.getfield 21, 3) := by decide +kernel
theorem dX1_init_48 : decode cX1_init 48 = .ok (.iload_n 1, 1) := by decide +kernel
theorem dX1_init_49 : decode cX1_init 49 = .ok (.new 19, 3) := by decide +kernel
theorem dX1_init_52 : decode cX1_init 52 = .ok (.dup, 1) := by decide +kernel
theorem dX1_init_53 : decode cX1_init 53 = .ok (.invokespecial 25, 3) := by decide +kernel
theorem dX1_init_56 : decode cX1_init 56 = .ok (.aastore, 1) := by decide +kernel
theorem dX1_init_57 : decode cX1_init 57 = .ok (.iinc 1 1, 3) := by decide +kernel
theorem dX1_init_60 : decode cX1_init 60 = .ok (.goto (-25), 3) := by decide +kernel
theorem dX1_init_63 : decode cX1_init 63 = .ok (.return_, 1) := by decide +kernel
theorem dX1_put_0 : decode cX1_put 0 = .ok (.iload_n 1, 1) := by decide +kernel
theorem dX1_put_1 : decode cX1_put 1 = .ok (.invokestatic 26, 3) := by decide +kernel
theorem dX1_put_4 : decode cX1_put 4 = .ok (.iload_n 2, 1) := by decide +kernel
theorem dX1_put_5 : decode cX1_put 5 = .ok (.invokestatic 30, 3) := by decide +kernel
theorem dX1_put_8 : decode cX1_put 8 = .ok (.ifCond .ne 13, 3) := by decide +kernel
theorem dX1_put_11 : decode cX1_put 11 = .ok (.new 34, 3) := by decide +kernel
theorem dX1_put_14 : decode cX1_put 14 = .ok (.dup, 1) := by decide +kernel
theorem dX1_put_15 : decode cX1_put 15 = .ok (.ldc 36, 2) := by decide +kernel
theorem dX1_put_17 : decode cX1_put 17 = .ok (.invokespecial 38, 3) := by decide +kernel
theorem dX1_put_20 : decode cX1_put 20 = .ok (.athrow, 1) := by decide +kernel
theorem dX1_put_21 : decode cX1_put 21 = .ok (.aload_n 0, 1) := by decide +kernel
theorem dX1_put_22 : decode cX1_put 22 = .ok (.getfield 9, 3) := by decide +kernel
theorem dX1_put_25 : decode cX1_put 25 = .ok (.iload_n 1, 1) := by decide +kernel
theorem dX1_put_26 : decode cX1_put 26 = .ok (.iaload, 1) := by decide +kernel
theorem dX1_put_27 : decode cX1_put 27 = .ok (.iload_n 2, 1) := by decide +kernel
theorem dX1_put_28 : decode cX1_put 28 = .ok (.if_icmp .ne 5, 3) := by decide +kernel
theorem dX1_put_31 : decode cX1_put 31 = .ok (.iconst 0, 1) := by decide +kernel
theorem dX1_put_32 : decode cX1_put 32 = .ok (.ireturn, 1) := by decide +kernel
theorem dX1_put_33 : decode cX1_put 33 = .ok (.aload_n 0, 1) := by decide +kernel
theorem dX1_put_34 : decode cX1_put 34 = .ok (.getfield 9, 3) := by decide +kernel
theorem dX1_put_37 : decode cX1_put 37 = .ok (.iload_n 1, 1) := by decide +kernel
theorem dX1_put_38 : decode cX1_put 38 = .ok (.iload_n 2, 1) := by decide +kernel
theorem dX1_put_39 : decode cX1_put 39 = .ok (.iastore, 1) := by decide +kernel
theorem dX1_put_40 : decode cX1_put 40 = .ok (.aload_n 0, 1) := by decide +kernel
theorem dX1_put_41 : decode cX1_put 41 = .ok (.iconst 0, 1) := by decide +kernel
theorem dX1_put_42 : decode cX1_put 42 = .ok (.putfield 41, 3) := by decide +kernel
theorem dX1_put_45 : decode cX1_put 45 = .ok (.iconst 1, 1) := by decide +kernel
theorem dX1_put_46 : decode cX1_put 46 = .ok (.ireturn, 1) := by decide +kernel
theorem dX1_at_0 : decode cX1_at 0 = .ok (.iload_n 1, 1) := by decide +kernel
theorem dX1_at_1 : decode cX1_at 1 = .ok (.invokestatic 26, 3) := by decide +kernel
theorem dX1_at_4 : decode cX1_at 4 = .ok (.aload_n 0, 1) := by decide +kernel
theorem dX1_at_5 : decode cX1_at 5 = .ok (.getfield 9, 3) := by decide +kernel
theorem dX1_at_8 : decode cX1_at 8 = .ok (.iload_n 1, 1) := by decide +kernel
theorem dX1_at_9 : decode cX1_at 9 = .ok (.iaload, 1) := by decide +kernel
theorem dX1_at_10 : decode cX1_at 10 = .ok (.ireturn, 1) := by decide +kernel
theorem dX1_change_0 : decode cX1_change 0 = .ok (.iload_n 1, 1) := by decide +kernel
theorem dX1_change_1 : decode cX1_change 1 = .ok (.iconst (-1), 1) := by decide +kernel
theorem dX1_change_2 : decode cX1_change 2 = .ok (.if_icmp .lt 8, 3) := by decide +kernel
theorem dX1_change_5 : decode cX1_change 5 = .ok (.iload_n 1, 1) := by decide +kernel
theorem dX1_change_6 : decode cX1_change 6 = .ok (.iconst 2, 1) := by decide +kernel
theorem dX1_change_7 : decode cX1_change 7 = .ok (.if_icmp .le 13, 3) := by decide +kernel
theorem dX1_change_10 : decode cX1_change 10 = .ok (.new 34, 3) := by decide +kernel
theorem dX1_change_13 : decode cX1_change 13 = .ok (.dup, 1) := by decide +kernel
theorem dX1_change_14 : decode cX1_change 14 = .ok (.ldc 45, 2) := by decide +kernel
theorem dX1_change_16 : decode cX1_change 16 = .ok (.invokespecial 38, 3) := by decide +kernel
theorem dX1_change_19 : decode cX1_change 19 = .ok (.athrow, 1) := by decide +kernel
theorem dX1_change_20 : decode cX1_change 20 = .ok (.aload_n 0, 1) := by decide +kernel
theorem dX1_change_21 : decode cX1_change 21 = .ok (.getfield 9, 3) := by decide +kernel
theorem dX1_change_24 : decode cX1_change 24 = .ok (.invokestatic 47, 3) := by decide +kernel
theorem dX1_change_27 : decode cX1_change 27 = .ok (.istore_n 2, 1) := by decide +kernel
theorem dX1_change_28 : decode cX1_change 28 = .ok (.iload_n 2, 1) := by decide +kernel
theorem dX1_change_29 : decode cX1_change 29 = .ok (.ifCond .ge 5, 3) := by decide +kernel
theorem dX1_change_32 : decode cX1_change 32 = .ok (.iconst 0, 1) := by decide +kernel
theorem dX1_change_33 : decode cX1_change 33 = .ok (.ireturn, 1) := by decide +kernel
theorem dX1_change_34 : decode cX1_change 34 = .ok (.aload_n 0, 1) := by decide +kernel
theorem dX1_change_35 : decode cX1_change 35 = .ok (.iload_n 1, 1) := by decide +kernel
theorem dX1_change_36 : decode cX1_change 36 = .ok (.iload_n 2, 1) := by decide +kernel
theorem dX1_change_37 : decode cX1_change 37 = .ok (.invokevirtual 51, 3) := by decide +kernel
theorem dX1_change_40 : decode cX1_change 40 = .ok (.aload_n 0, 1) := by decide +kernel
theorem dX1_change_41 : decode cX1_change 41 = .ok (.getfield 16, 3) := by decide +kernel
theorem dX1_change_44 : decode cX1_change 44 = .ok (.astore_n 3, 1) := by decide +kernel
theorem dX1_change_45 : decode cX1_change 45 = .ok (.aload_n 3, 1) := by decide +kernel
theorem dX1_change_46 : decode cX1_change 46 = .ok (.arraylength, 1) := by decide +kernel
theorem dX1_change_47 : decode cX1_change 47 = .ok (.istore 4, 2) := by decide +kernel
theorem dX1_change_49 : decode cX1_change 49 = .ok (.iconst 0, 1) := by decide +kernel
theorem dX1_change_50 : decode cX1_change 50 = .ok (.istore 5, 2) := by decide +kernel
theorem dX1_change_52 : decode cX1_change 52 = .ok (.iload 5, 2) := by decide +kernel
theorem dX1_change_54 : decode cX1_change 54 = .ok (.iload 4, 2) := by decide +kernel
theorem dX1_change_56 : decode cX1_change 56 = .ok (.if_icmp .ge 25, 3) := by decide +kernel
theorem dX1_change_59 : decode cX1_change 59 = .ok (.aload_n 3, 1) := by decide +kernel
theorem dX1_change_60 : decode cX1_change 60 = .ok (.iload 5, 2) := by decide +kernel
theorem dX1_change_62 : decode cX1_change 62 = .ok (.iaload, 1) := by decide +kernel
theorem dX1_change_63 : decode cX1_change 63 = .ok (.istore 6, 2) := by decide +kernel
theorem dX1_change_65 : decode cX1_change 65 = .ok (.iload 6, 2) := by decide +kernel
theorem dX1_change_67 : decode cX1_change 67 = .ok (.invokestatic 30, 3) := by decide +kernel
theorem dX1_change_70 : decode cX1_change 70 = .ok (.ifCond .ne 5, 3) := by decide +kernel
theorem dX1_change_73 : decode cX1_change 73 = .ok (.iconst 0, 1) := by decide +kernel
theorem dX1_change_74 : decode cX1_change 74 = .ok (.ireturn, 1) := by decide +kernel
theorem dX1_change_75 : decode cX1_change 75 = .ok (.iinc 5 1, 3) := by decide +kernel
theorem dX1_change_78 : decode cX1_change 78 = .ok (.goto (-26), 3) := by decide +kernel
theorem dX1_change_81 : decode cX1_change 81 = .ok (.aload_n 0, 1) := by decide +kernel
theorem dX1_change_82 : decode cX1_change 82 = .ok (.getfield 16, 3) := by decide +kernel
theorem dX1_change_85 : decode cX1_change 85 = .ok (.iconst 0, 1) := by decide +kernel
theorem dX1_change_86 : decode cX1_change 86 = .ok (.aload_n 0, 1) := by decide +kernel
theorem dX1_change_87 : decode cX1_change 87 = .ok (.getfield 9, 3) := by decide +kernel
theorem dX1_change_90 : decode cX1_change 90 = .ok (.iconst 0, 1) := by decide +kernel
theorem dX1_change_91 : decode cX1_change 91 = .ok (.aload_n 0, 1) := by decide +kernel
theorem dX1_change_92 : decode cX1_change 92 = .ok (.getfield 9, 3) := by decide +kernel
theorem dX1_change_95 : decode cX1_change 95 = .ok (.arraylength, 1) := by decide +kernel
theorem dX1_change_96 : decode cX1_change 96 = .ok (.invokestatic 55, 3) := by decide +kernel
theorem dX1_change_99 : decode cX1_change 99 = .ok (.aload_n 0, 1) := by decide +kernel
theorem dX1_change_100 : decode cX1_change 100 = .ok (.iconst 0, 1) := by decide +kernel
theorem dX1_change_101 : decode cX1_change 101 = .ok (.putfield 41, 3) := by decide +kernel
theorem dX1_change_104 : decode cX1_change 104 = .ok (.iconst 1, 1) := by decide +kernel
theorem dX1_change_105 : decode cX1_change 105 = .ok (.ireturn, 1) := by decide +kernel
theorem dX1_factors_0 : decode cX1_factors 0 = .ok (.aload_n 0, 1) := by decide +kernel
theorem dX1_factors_1 : decode cX1_factors 1 = .ok (.invokevirtual 61, 3) := by decide +kernel
theorem dX1_factors_4 : decode cX1_factors 4 = .ok (.aload_n 0, 1) := by decide +kernel
theorem dX1_factors_5 : decode cX1_factors 5 = .ok (.getfield 64, 3) := by decide +kernel
theorem dX1_factors_8 : decode cX1_factors 8 = .ok (.ireturn, 1) := by decide +kernel
theorem dX1_factor_0 : decode cX1_factor 0 = .ok (.aload_n 0, 1) := by decide +kernel
theorem dX1_factor_1 : decode cX1_factor 1 = .ok (.invokevirtual 61, 3) := by decide +kernel
theorem dX1_factor_4 : decode cX1_factor 4 = .ok (.aload_n 0, 1) := by decide +kernel
theorem dX1_factor_5 : decode cX1_factor 5 = .ok (.iload_n 1, 1) := by decide +kernel
theorem dX1_factor_6 : decode cX1_factor 6 = .ok (.invokevirtual 68, 3) := by decide +kernel
theorem dX1_factor_9 : decode cX1_factor 9 = .ok (.astore_n 3, 1) := by decide +kernel
theorem dX1_factor_10 : decode cX1_factor 10 = .ok (.iload_n 2, 1) := by decide +kernel
theorem dX1_factor_11 : decode cX1_factor 11 = .ok (.tableswitch 75 0 5 #[37, 50, 55, 60, 65, 70], 37) := by decide +kernel
theorem dX1_factor_48 : decode cX1_factor 48 = .ok (.aload_n 3, 1) := by decide +kernel
theorem dX1_factor_49 : decode cX1_factor 49 = .ok (.invokevirtual 72, 3) := by decide +kernel
theorem dX1_factor_52 : decode cX1_factor 52 = .ok (.ifCond .eq 7, 3) := by decide +kernel
theorem dX1_factor_55 : decode cX1_factor 55 = .ok (.iconst 1, 1) := by decide +kernel
theorem dX1_factor_56 : decode cX1_factor 56 = .ok (.goto 4, 3) := by decide +kernel
theorem dX1_factor_59 : decode cX1_factor 59 = .ok (.iconst 2, 1) := by decide +kernel
theorem dX1_factor_60 : decode cX1_factor 60 = .ok (.ireturn, 1) := by decide +kernel
theorem dX1_factor_61 : decode cX1_factor 61 = .ok (.aload_n 3, 1) := by decide +kernel
theorem dX1_factor_62 : decode cX1_factor 62 = .ok (.getfield 76, 3) := by decide +kernel
theorem dX1_factor_65 : decode cX1_factor 65 = .ok (.ireturn, 1) := by decide +kernel
theorem dX1_factor_66 : decode cX1_factor 66 = .ok (.aload_n 3, 1) := by decide +kernel
theorem dX1_factor_67 : decode cX1_factor 67 = .ok (.getfield 79, 3) := by decide +kernel
theorem dX1_factor_70 : decode cX1_factor 70 = .ok (.ireturn, 1) := by decide +kernel
theorem dX1_factor_71 : decode cX1_factor 71 = .ok (.aload_n 3, 1) := by decide +kernel
theorem dX1_factor_72 : decode cX1_factor 72 = .ok (.getfield 82, 3) := by decide +kernel
theorem dX1_factor_75 : decode cX1_factor 75 = .ok (.ireturn, 1) := by decide +kernel
theorem dX1_factor_76 : decode cX1_factor 76 = .ok (.aload_n 3, 1) := by decide +kernel
theorem dX1_factor_77 : decode cX1_factor 77 = .ok (.getfield 85, 3) := by decide +kernel
theorem dX1_factor_80 : decode cX1_factor 80 = .ok (.ireturn, 1) := by decide +kernel
theorem dX1_factor_81 : decode cX1_factor 81 = .ok (.aload_n 3, 1) := by decide +kernel
theorem dX1_factor_82 : decode cX1_factor 82 = .ok (.getfield 88, 3) := by decide +kernel
theorem dX1_factor_85 : decode cX1_factor 85 = .ok (.ireturn, 1) := by decide +kernel
theorem dX1_factor_86 : decode cX1_factor 86 = .ok (.new 34, 3) := by decide +kernel
theorem dX1_factor_89 : decode cX1_factor 89 = .ok (.dup, 1) := by decide +kernel
theorem dX1_factor_90 : decode cX1_factor 90 = .ok (.ldc 91, 2) := by decide +kernel
theorem dX1_factor_92 : decode cX1_factor 92 = .ok (.invokespecial 38, 3) := by decide +kernel
theorem dX1_factor_95 : decode cX1_factor 95 = .ok (.athrow, 1) := by decide +kernel
theorem dX1_content_0 : decode cX1_content 0 = .ok (.aload_n 0, 1) := by decide +kernel
theorem dX1_content_1 : decode cX1_content 1 = .ok (.invokevirtual 61, 3) := by decide +kernel
theorem dX1_content_4 : decode cX1_content 4 = .ok (.aload_n 0, 1) := by decide +kernel
theorem dX1_content_5 : decode cX1_content 5 = .ok (.getfield 93, 3) := by decide +kernel
theorem dX1_content_8 : decode cX1_content 8 = .ok (.ireturn, 1) := by decide +kernel
theorem dX1_left_0 : decode cX1_left 0 = .ok (.aload_n 0, 1) := by decide +kernel
theorem dX1_left_1 : decode cX1_left 1 = .ok (.invokevirtual 61, 3) := by decide +kernel
theorem dX1_left_4 : decode cX1_left 4 = .ok (.iload_n 1, 1) := by decide +kernel
theorem dX1_left_5 : decode cX1_left 5 = .ok (.invokestatic 26, 3) := by decide +kernel
theorem dX1_left_8 : decode cX1_left 8 = .ok (.aload_n 0, 1) := by decide +kernel
theorem dX1_left_9 : decode cX1_left 9 = .ok (.getfield 13, 3) := by decide +kernel
theorem dX1_left_12 : decode cX1_left 12 = .ok (.iload_n 1, 1) := by decide +kernel
theorem dX1_left_13 : decode cX1_left 13 = .ok (.iaload, 1) := by decide +kernel
theorem dX1_left_14 : decode cX1_left 14 = .ok (.ireturn, 1) := by decide +kernel
theorem dX1_answer_0 : decode cX1_answer 0 = .ok (.aload_n 0, 1) := by decide +kernel
theorem dX1_answer_1 : decode cX1_answer 1 = .ok (.invokevirtual 61, 3) := by decide +kernel
theorem dX1_answer_4 : decode cX1_answer 4 = .ok (.aload_n 0, 1) := by decide +kernel
theorem dX1_answer_5 : decode cX1_answer 5 = .ok (.iload_n 1, 1) := by decide +kernel
theorem dX1_answer_6 : decode cX1_answer 6 = .ok (.invokevirtual 68, 3) := by decide +kernel
theorem dX1_answer_9 : decode cX1_answer 9 = .ok (.astore 4, 2) := by decide +kernel
theorem dX1_answer_11 : decode cX1_answer 11 = .ok (.iload_n 2, 1) := by decide +kernel
theorem dX1_answer_12 : decode cX1_answer 12 = .ok (.ifCond .lt 17, 3) := by decide +kernel
theorem dX1_answer_15 : decode cX1_answer 15 = .ok (.iload_n 2, 1) := by decide +kernel
theorem dX1_answer_16 : decode cX1_answer 16 = .ok (.iconst 1, 1) := by decide +kernel
theorem dX1_answer_17 : decode cX1_answer 17 = .ok (.if_icmp .gt 12, 3) := by decide +kernel
theorem dX1_answer_20 : decode cX1_answer 20 = .ok (.iload_n 3, 1) := by decide +kernel
theorem dX1_answer_21 : decode cX1_answer 21 = .ok (.ifCond .lt 8, 3) := by decide +kernel
theorem dX1_answer_24 : decode cX1_answer 24 = .ok (.iload_n 3, 1) := by decide +kernel
theorem dX1_answer_25 : decode cX1_answer 25 = .ok (.iconst 1, 1) := by decide +kernel
theorem dX1_answer_26 : decode cX1_answer 26 = .ok (.if_icmp .le 13, 3) := by decide +kernel
theorem dX1_answer_29 : decode cX1_answer 29 = .ok (.new 34, 3) := by decide +kernel
theorem dX1_answer_32 : decode cX1_answer 32 = .ok (.dup, 1) := by decide +kernel
theorem dX1_answer_33 : decode cX1_answer 33 = .ok (.ldc 96, 2) := by decide +kernel
theorem dX1_answer_35 : decode cX1_answer 35 = .ok (.invokespecial 38, 3) := by decide +kernel
theorem dX1_answer_38 : decode cX1_answer 38 = .ok (.athrow, 1) := by decide +kernel
theorem dX1_answer_39 : decode cX1_answer 39 = .ok (.iload_n 2, 1) := by decide +kernel
theorem dX1_answer_40 : decode cX1_answer 40 = .ok (.ifCond .ne 11, 3) := by decide +kernel
theorem dX1_answer_43 : decode cX1_answer 43 = .ok (.aload 4, 2) := by decide +kernel
theorem dX1_answer_45 : decode cX1_answer 45 = .ok (.invokevirtual 98, 3) := by decide +kernel
theorem dX1_answer_48 : decode cX1_answer 48 = .ok (.goto 8, 3) := by decide +kernel
theorem dX1_answer_51 : decode cX1_answer 51 = .ok (.aload 4, 2) := by decide +kernel
theorem dX1_answer_53 : decode cX1_answer 53 = .ok (.getfield 102, 3) := by decide +kernel
theorem dX1_answer_56 : decode cX1_answer 56 = .ok (.istore 5, 2) := by decide +kernel
theorem dX1_answer_58 : decode cX1_answer 58 = .ok (.aload 4, 2) := by decide +kernel
theorem dX1_answer_60 : decode cX1_answer 60 = .ok (.invokevirtual 105, 3) := by decide +kernel
theorem dX1_answer_63 : decode cX1_answer 63 = .ok (.istore 6, 2) := by decide +kernel
theorem dX1_answer_65 : decode cX1_answer 65 = .ok (.iload 5, 2) := by decide +kernel
theorem dX1_answer_67 : decode cX1_answer 67 = .ok (.iload 6, 2) := by decide +kernel
theorem dX1_answer_69 : decode cX1_answer 69 = .ok (.invokestatic 108, 3) := by decide +kernel
theorem dX1_answer_72 : decode cX1_answer 72 = .ok (.istore 7, 2) := by decide +kernel
theorem dX1_answer_74 : decode cX1_answer 74 = .ok (.iload 7, 2) := by decide +kernel
theorem dX1_answer_76 : decode cX1_answer 76 = .ok (.ifCond .ne 5, 3) := by decide +kernel
theorem dX1_answer_79 : decode cX1_answer 79 = .ok (.iconst 0, 1) := by decide +kernel
theorem dX1_answer_80 : decode cX1_answer 80 = .ok (.ireturn, 1) := by decide +kernel
theorem dX1_answer_81 : decode cX1_answer 81 = .ok (.iload_n 3, 1) := by decide +kernel
theorem dX1_answer_82 : decode cX1_answer 82 = .ok (.ifCond .ne 8, 3) := by decide +kernel
theorem dX1_answer_85 : decode cX1_answer 85 = .ok (.iload 5, 2) := by decide +kernel
theorem dX1_answer_87 : decode cX1_answer 87 = .ok (.goto 5, 3) := by decide +kernel
theorem dX1_answer_90 : decode cX1_answer 90 = .ok (.iload 6, 2) := by decide +kernel
theorem dX1_answer_92 : decode cX1_answer 92 = .ok (.iload 7, 2) := by decide +kernel
theorem dX1_answer_94 : decode cX1_answer 94 = .ok (.idiv, 1) := by decide +kernel
theorem dX1_answer_95 : decode cX1_answer 95 = .ok (.ireturn, 1) := by decide +kernel
theorem dX1_real_0 : decode cX1_real 0 = .ok (.aload_n 0, 1) := by decide +kernel
theorem dX1_real_1 : decode cX1_real 1 = .ok (.invokevirtual 61, 3) := by decide +kernel
theorem dX1_real_4 : decode cX1_real 4 = .ok (.iconst 0, 1) := by decide +kernel
theorem dX1_real_5 : decode cX1_real 5 = .ok (.istore_n 1, 1) := by decide +kernel
theorem dX1_real_6 : decode cX1_real 6 = .ok (.iconst 0, 1) := by decide +kernel
theorem dX1_real_7 : decode cX1_real 7 = .ok (.istore_n 2, 1) := by decide +kernel
theorem dX1_real_8 : decode cX1_real 8 = .ok (.iload_n 2, 1) := by decide +kernel
theorem dX1_real_9 : decode cX1_real 9 = .ok (.aload_n 0, 1) := by decide +kernel
theorem dX1_real_10 : decode cX1_real 10 = .ok (.getfield 64, 3) := by decide +kernel
theorem dX1_real_13 : decode cX1_real 13 = .ok (.if_icmp .ge 51, 3) := by decide +kernel
theorem dX1_real_16 : decode cX1_real 16 = .ok (.iload_n 2, 1) := by decide +kernel
theorem dX1_real_17 : decode cX1_real 17 = .ok (.aload_n 0, 1) := by decide +kernel
theorem dX1_real_18 : decode cX1_real 18 = .ok (.getfield 21, 3) := by decide +kernel
theorem dX1_real_21 : decode cX1_real 21 = .ok (.arraylength, 1) := by decide +kernel
theorem dX1_real_22 : decode cX1_real 22 = .ok (.if_icmp .ge 42, 3) := by decide +kernel
theorem dX1_real_25 : decode cX1_real 25 = .ok (.aload_n 0, 1) := by decide +kernel
theorem dX1_real_26 : decode cX1_real 26 = .ok (.getfield 21, 3) := by decide +kernel
theorem dX1_real_29 : decode cX1_real 29 = .ok (.iload_n 2, 1) := by decide +kernel
theorem dX1_real_30 : decode cX1_real 30 = .ok (.aaload, 1) := by decide +kernel
theorem dX1_real_31 : decode cX1_real 31 = .ok (.invokevirtual 72, 3) := by decide +kernel
theorem dX1_real_34 : decode cX1_real 34 = .ok (.ifCond .eq 9, 3) := by decide +kernel
theorem dX1_real_37 : decode cX1_real 37 = .ok (.iinc 1 1, 3) := by decide +kernel
theorem dX1_real_40 : decode cX1_real 40 = .ok (.goto 18, 3) := by decide +kernel
theorem dX1_real_43 : decode cX1_real 43 = .ok (.aload_n 0, 1) := by decide +kernel
theorem dX1_real_44 : decode cX1_real 44 = .ok (.getfield 21, 3) := by decide +kernel
theorem dX1_real_47 : decode cX1_real 47 = .ok (.iload_n 2, 1) := by decide +kernel
theorem dX1_real_48 : decode cX1_real 48 = .ok (.aaload, 1) := by decide +kernel
theorem dX1_real_49 : decode cX1_real 49 = .ok (.invokevirtual 112, 3) := by decide +kernel
theorem dX1_real_52 : decode cX1_real 52 = .ok (.ifCond .eq 6, 3) := by decide +kernel
theorem dX1_real_55 : decode cX1_real 55 = .ok (.iinc 1 2, 3) := by decide +kernel
theorem dX1_real_58 : decode cX1_real 58 = .ok (.iinc 2 1, 3) := by decide +kernel
theorem dX1_real_61 : decode cX1_real 61 = .ok (.goto (-53), 3) := by decide +kernel
theorem dX1_real_64 : decode cX1_real 64 = .ok (.iload_n 1, 1) := by decide +kernel
theorem dX1_real_65 : decode cX1_real 65 = .ok (.ireturn, 1) := by decide +kernel
theorem dX1_floor_0 : decode cX1_floor 0 = .ok (.aload_n 0, 1) := by decide +kernel
theorem dX1_floor_1 : decode cX1_floor 1 = .ok (.invokevirtual 61, 3) := by decide +kernel
theorem dX1_floor_4 : decode cX1_floor 4 = .ok (.aload_n 0, 1) := by decide +kernel
theorem dX1_floor_5 : decode cX1_floor 5 = .ok (.iload_n 1, 1) := by decide +kernel
theorem dX1_floor_6 : decode cX1_floor 6 = .ok (.invokevirtual 68, 3) := by decide +kernel
theorem dX1_floor_9 : decode cX1_floor 9 = .ok (.astore_n 3, 1) := by decide +kernel
theorem dX1_floor_10 : decode cX1_floor 10 = .ok (.aload_n 3, 1) := by decide +kernel
theorem dX1_floor_11 : decode cX1_floor 11 = .ok (.invokestatic 115, 3) := by decide +kernel
theorem dX1_floor_14 : decode cX1_floor 14 = .ok (.aload_n 3, 1) := by decide +kernel
theorem dX1_floor_15 : decode cX1_floor 15 = .ok (.invokevirtual 105, 3) := by decide +kernel
theorem dX1_floor_18 : decode cX1_floor 18 = .ok (.istore 4, 2) := by decide +kernel
theorem dX1_floor_20 : decode cX1_floor 20 = .ok (.iload 4, 2) := by decide +kernel
theorem dX1_floor_22 : decode cX1_floor 22 = .ok (.iconst 1, 1) := by decide +kernel
theorem dX1_floor_23 : decode cX1_floor 23 = .ok (.if_icmp .ge 5, 3) := by decide +kernel
theorem dX1_floor_26 : decode cX1_floor 26 = .ok (.iconst 0, 1) := by decide +kernel
theorem dX1_floor_27 : decode cX1_floor 27 = .ok (.ireturn, 1) := by decide +kernel
theorem dX1_floor_28 : decode cX1_floor 28 = .ok (.aload_n 3, 1) := by decide +kernel
theorem dX1_floor_29 : decode cX1_floor 29 = .ok (.invokevirtual 119, 3) := by decide +kernel
theorem dX1_floor_32 : decode cX1_floor 32 = .ok (.invokestatic 122, 3) := by decide +kernel
theorem dX1_floor_35 : decode cX1_floor 35 = .ok (.istore 5, 2) := by decide +kernel
theorem dX1_floor_37 : decode cX1_floor 37 = .ok (.iload_n 2, 1) := by decide +kernel
theorem dX1_floor_38 : decode cX1_floor 38 = .ok (.ifCond .ne 10, 3) := by decide +kernel
theorem dX1_floor_41 : decode cX1_floor 41 = .ok (.aload_n 3, 1) := by decide +kernel
theorem dX1_floor_42 : decode cX1_floor 42 = .ok (.invokevirtual 72, 3) := by decide +kernel
theorem dX1_floor_45 : decode cX1_floor 45 = .ok (.ifCond .eq 16, 3) := by decide +kernel
theorem dX1_floor_48 : decode cX1_floor 48 = .ok (.aload_n 3, 1) := by decide +kernel
theorem dX1_floor_49 : decode cX1_floor 49 = .ok (.invokevirtual 98, 3) := by decide +kernel
theorem dX1_floor_52 : decode cX1_floor 52 = .ok (.iload 5, 2) := by decide +kernel
theorem dX1_floor_54 : decode cX1_floor 54 = .ok (.iadd, 1) := by decide +kernel
theorem dX1_floor_55 : decode cX1_floor 55 = .ok (.iload 4, 2) := by decide +kernel
theorem dX1_floor_57 : decode cX1_floor 57 = .ok (.invokestatic 126, 3) := by decide +kernel
theorem dX1_floor_60 : decode cX1_floor 60 = .ok (.ireturn, 1) := by decide +kernel
theorem dX1_floor_61 : decode cX1_floor 61 = .ok (.aload_n 3, 1) := by decide +kernel
theorem dX1_floor_62 : decode cX1_floor 62 = .ok (.invokevirtual 98, 3) := by decide +kernel
theorem dX1_floor_65 : decode cX1_floor 65 = .ok (.iload 5, 2) := by decide +kernel
theorem dX1_floor_67 : decode cX1_floor 67 = .ok (.isub, 1) := by decide +kernel
theorem dX1_floor_68 : decode cX1_floor 68 = .ok (.iconst 1, 1) := by decide +kernel
theorem dX1_floor_69 : decode cX1_floor 69 = .ok (.isub, 1) := by decide +kernel
theorem dX1_floor_70 : decode cX1_floor 70 = .ok (.iload 4, 2) := by decide +kernel
theorem dX1_floor_72 : decode cX1_floor 72 = .ok (.invokestatic 126, 3) := by decide +kernel
theorem dX1_floor_75 : decode cX1_floor 75 = .ok (.ireturn, 1) := by decide +kernel
theorem dX1_compare_0 : decode cX1_compare 0 = .ok (.aload_n 0, 1) := by decide +kernel
theorem dX1_compare_1 : decode cX1_compare 1 = .ok (.invokevirtual 61, 3) := by decide +kernel
theorem dX1_compare_4 : decode cX1_compare 4 = .ok (.aload_n 0, 1) := by decide +kernel
theorem dX1_compare_5 : decode cX1_compare 5 = .ok (.iload_n 1, 1) := by decide +kernel
theorem dX1_compare_6 : decode cX1_compare 6 = .ok (.invokevirtual 68, 3) := by decide +kernel
theorem dX1_compare_9 : decode cX1_compare 9 = .ok (.astore 5, 2) := by decide +kernel
theorem dX1_compare_11 : decode cX1_compare 11 = .ok (.aload_n 0, 1) := by decide +kernel
theorem dX1_compare_12 : decode cX1_compare 12 = .ok (.iload_n 3, 1) := by decide +kernel
theorem dX1_compare_13 : decode cX1_compare 13 = .ok (.invokevirtual 68, 3) := by decide +kernel
theorem dX1_compare_16 : decode cX1_compare 16 = .ok (.astore 6, 2) := by decide +kernel
theorem dX1_compare_18 : decode cX1_compare 18 = .ok (.aload 5, 2) := by decide +kernel
theorem dX1_compare_20 : decode cX1_compare 20 = .ok (.invokestatic 115, 3) := by decide +kernel
theorem dX1_compare_23 : decode cX1_compare 23 = .ok (.aload 6, 2) := by decide +kernel
theorem dX1_compare_25 : decode cX1_compare 25 = .ok (.invokestatic 115, 3) := by decide +kernel
theorem dX1_compare_28 : decode cX1_compare 28 = .ok (.aload 5, 2) := by decide +kernel
theorem dX1_compare_30 : decode cX1_compare 30 = .ok (.invokevirtual 98, 3) := by decide +kernel
theorem dX1_compare_33 : decode cX1_compare 33 = .ok (.i2l, 1) := by decide +kernel
theorem dX1_compare_34 : decode cX1_compare 34 = .ok (.aload 6, 2) := by decide +kernel
theorem dX1_compare_36 : decode cX1_compare 36 = .ok (.invokevirtual 105, 3) := by decide +kernel
theorem dX1_compare_39 : decode cX1_compare 39 = .ok (.i2l, 1) := by decide +kernel
theorem dX1_compare_40 : decode cX1_compare 40 = .ok (.lmul, 1) := by decide +kernel
theorem dX1_compare_41 : decode cX1_compare 41 = .ok (.aload 6, 2) := by decide +kernel
theorem dX1_compare_43 : decode cX1_compare 43 = .ok (.invokevirtual 98, 3) := by decide +kernel
theorem dX1_compare_46 : decode cX1_compare 46 = .ok (.i2l, 1) := by decide +kernel
theorem dX1_compare_47 : decode cX1_compare 47 = .ok (.aload 5, 2) := by decide +kernel
theorem dX1_compare_49 : decode cX1_compare 49 = .ok (.invokevirtual 105, 3) := by decide +kernel
theorem dX1_compare_52 : decode cX1_compare 52 = .ok (.i2l, 1) := by decide +kernel
theorem dX1_compare_53 : decode cX1_compare 53 = .ok (.lmul, 1) := by decide +kernel
theorem dX1_compare_54 : decode cX1_compare 54 = .ok (.lsub, 1) := by decide +kernel
theorem dX1_compare_55 : decode cX1_compare 55 = .ok (.lstore 7, 2) := by decide +kernel
theorem dX1_compare_57 : decode cX1_compare 57 = .ok (.iload_n 2, 1) := by decide +kernel
theorem dX1_compare_58 : decode cX1_compare 58 = .ok (.ifCond .eq 12, 3) := by decide +kernel
theorem dX1_compare_61 : decode cX1_compare 61 = .ok (.aload 6, 2) := by decide +kernel
theorem dX1_compare_63 : decode cX1_compare 63 = .ok (.invokevirtual 105, 3) := by decide +kernel
theorem dX1_compare_66 : decode cX1_compare 66 = .ok (.i2l, 1) := by decide +kernel
theorem dX1_compare_67 : decode cX1_compare 67 = .ok (.goto 10, 3) := by decide +kernel
theorem dX1_compare_70 : decode cX1_compare 70 = .ok (.aload 6, 2) := by decide +kernel
theorem dX1_compare_72 : decode cX1_compare 72 = .ok (.invokevirtual 105, 3) := by decide +kernel
theorem dX1_compare_75 : decode cX1_compare 75 = .ok (.ineg, 1) := by decide +kernel
theorem dX1_compare_76 : decode cX1_compare 76 = .ok (.i2l, 1) := by decide +kernel
theorem dX1_compare_77 : decode cX1_compare 77 = .ok (.lstore 9, 2) := by decide +kernel
theorem dX1_compare_79 : decode cX1_compare 79 = .ok (.iload 4, 2) := by decide +kernel
theorem dX1_compare_81 : decode cX1_compare 81 = .ok (.ifCond .eq 13, 3) := by decide +kernel
theorem dX1_compare_84 : decode cX1_compare 84 = .ok (.aload 5, 2) := by decide +kernel
theorem dX1_compare_86 : decode cX1_compare 86 = .ok (.invokevirtual 105, 3) := by decide +kernel
theorem dX1_compare_89 : decode cX1_compare 89 = .ok (.ineg, 1) := by decide +kernel
theorem dX1_compare_90 : decode cX1_compare 90 = .ok (.i2l, 1) := by decide +kernel
theorem dX1_compare_91 : decode cX1_compare 91 = .ok (.goto 9, 3) := by decide +kernel
theorem dX1_compare_94 : decode cX1_compare 94 = .ok (.aload 5, 2) := by decide +kernel
theorem dX1_compare_96 : decode cX1_compare 96 = .ok (.invokevirtual 105, 3) := by decide +kernel
theorem dX1_compare_99 : decode cX1_compare 99 = .ok (.i2l, 1) := by decide +kernel
theorem dX1_compare_100 : decode cX1_compare 100 = .ok (.lstore 11, 2) := by decide +kernel
theorem dX1_compare_102 : decode cX1_compare 102 = .ok (.lload 7, 2) := by decide +kernel
theorem dX1_compare_104 : decode cX1_compare 104 = .ok (.lload 9, 2) := by decide +kernel
theorem dX1_compare_106 : decode cX1_compare 106 = .ok (.aload 5, 2) := by decide +kernel
theorem dX1_compare_108 : decode cX1_compare 108 = .ok (.invokevirtual 119, 3) := by decide +kernel
theorem dX1_compare_111 : decode cX1_compare 111 = .ok (.i2l, 1) := by decide +kernel
theorem dX1_compare_112 : decode cX1_compare 112 = .ok (.lload 11, 2) := by decide +kernel
theorem dX1_compare_114 : decode cX1_compare 114 = .ok (.aload 6, 2) := by decide +kernel
theorem dX1_compare_116 : decode cX1_compare 116 = .ok (.invokevirtual 119, 3) := by decide +kernel
theorem dX1_compare_119 : decode cX1_compare 119 = .ok (.i2l, 1) := by decide +kernel
theorem dX1_compare_120 : decode cX1_compare 120 = .ok (.invokestatic 131, 3) := by decide +kernel
theorem dX1_compare_123 : decode cX1_compare 123 = .ok (.ireturn, 1) := by decide +kernel
theorem dX1_clear_0 : decode cX1_clear 0 = .ok (.iconst 0, 1) := by decide +kernel
theorem dX1_clear_1 : decode cX1_clear 1 = .ok (.istore_n 1, 1) := by decide +kernel
theorem dX1_clear_2 : decode cX1_clear 2 = .ok (.iload_n 1, 1) := by decide +kernel
theorem dX1_clear_3 : decode cX1_clear 3 = .ok (.aload_n 0, 1) := by decide +kernel
theorem dX1_clear_4 : decode cX1_clear 4 = .ok (.getfield 9, 3) := by decide +kernel
theorem dX1_clear_7 : decode cX1_clear 7 = .ok (.arraylength, 1) := by decide +kernel
theorem dX1_clear_8 : decode cX1_clear 8 = .ok (.if_icmp .ge 16, 3) := by decide +kernel
theorem dX1_clear_11 : decode cX1_clear 11 = .ok (.aload_n 0, 1) := by decide +kernel
theorem dX1_clear_12 : decode cX1_clear 12 = .ok (.getfield 9, 3) := by decide +kernel
theorem dX1_clear_15 : decode cX1_clear 15 = .ok (.iload_n 1, 1) := by decide +kernel
theorem dX1_clear_16 : decode cX1_clear 16 = .ok (.iconst 0, 1) := by decide +kernel
theorem dX1_clear_17 : decode cX1_clear 17 = .ok (.iastore, 1) := by decide +kernel
theorem dX1_clear_18 : decode cX1_clear 18 = .ok (.iinc 1 1, 3) := by decide +kernel
theorem dX1_clear_21 : decode cX1_clear 21 = .ok (.goto (-19), 3) := by decide +kernel
theorem dX1_clear_24 : decode cX1_clear 24 = .ok (.aload_n 0, 1) := by decide +kernel
theorem dX1_clear_25 : decode cX1_clear 25 = .ok (.iconst 0, 1) := by decide +kernel
theorem dX1_clear_26 : decode cX1_clear 26 = .ok (.putfield 41, 3) := by decide +kernel
theorem dX1_clear_29 : decode cX1_clear 29 = .ok (.return_, 1) := by decide +kernel
theorem dX1_checkPower_0 : decode cX1_checkPower 0 = .ok (.iload_n 0, 1) := by decide +kernel
theorem dX1_checkPower_1 : decode cX1_checkPower 1 = .ok (.ifCond .lt 8, 3) := by decide +kernel
theorem dX1_checkPower_4 : decode cX1_checkPower 4 = .ok (.iload_n 0, 1) := by decide +kernel
theorem dX1_checkPower_5 : decode cX1_checkPower 5 = .ok (.iconst 4, 1) := by decide +kernel
theorem dX1_checkPower_6 : decode cX1_checkPower 6 = .ok (.if_icmp .le 13, 3) := by decide +kernel
theorem dX1_checkPower_9 : decode cX1_checkPower 9 = .ok (.new 135, 3) := by decide +kernel
theorem dX1_checkPower_12 : decode cX1_checkPower 12 = .ok (.dup, 1) := by decide +kernel
theorem dX1_checkPower_13 : decode cX1_checkPower 13 = .ok (.ldc 137, 2) := by decide +kernel
theorem dX1_checkPower_15 : decode cX1_checkPower 15 = .ok (.invokespecial 139, 3) := by decide +kernel
theorem dX1_checkPower_18 : decode cX1_checkPower 18 = .ok (.athrow, 1) := by decide +kernel
theorem dX1_checkPower_19 : decode cX1_checkPower 19 = .ok (.return_, 1) := by decide +kernel
theorem dX1_checkReal_0 : decode cX1_checkReal 0 = .ok (.aload_n 0, 1) := by decide +kernel
theorem dX1_checkReal_1 : decode cX1_checkReal 1 = .ok (.invokevirtual 112, 3) := by decide +kernel
theorem dX1_checkReal_4 : decode cX1_checkReal 4 = .ok (.ifCond .ne 13, 3) := by decide +kernel
theorem dX1_checkReal_7 : decode cX1_checkReal 7 = .ok (.new 34, 3) := by decide +kernel
theorem dX1_checkReal_10 : decode cX1_checkReal 10 = .ok (.dup, 1) := by decide +kernel
theorem dX1_checkReal_11 : decode cX1_checkReal 11 = .ok (.ldc 140, 2) := by decide +kernel
theorem dX1_checkReal_13 : decode cX1_checkReal 13 = .ok (.invokespecial 38, 3) := by decide +kernel
theorem dX1_checkReal_16 : decode cX1_checkReal 16 = .ok (.athrow, 1) := by decide +kernel
theorem dX1_checkReal_17 : decode cX1_checkReal 17 = .ok (.return_, 1) := by decide +kernel
theorem dX1_isInLimits_0 : decode cX1_isInLimits 0 = .ok (.iload_n 0, 1) := by decide +kernel
theorem dX1_isInLimits_1 : decode cX1_isInLimits 1 = .ok (.bipush (-20), 2) := by decide +kernel
theorem dX1_isInLimits_3 : decode cX1_isInLimits 3 = .ok (.if_icmp .lt 13, 3) := by decide +kernel
theorem dX1_isInLimits_6 : decode cX1_isInLimits 6 = .ok (.iload_n 0, 1) := by decide +kernel
theorem dX1_isInLimits_7 : decode cX1_isInLimits 7 = .ok (.bipush 20, 2) := by decide +kernel
theorem dX1_isInLimits_9 : decode cX1_isInLimits 9 = .ok (.if_icmp .gt 7, 3) := by decide +kernel
theorem dX1_isInLimits_12 : decode cX1_isInLimits 12 = .ok (.iconst 1, 1) := by decide +kernel
theorem dX1_isInLimits_13 : decode cX1_isInLimits 13 = .ok (.goto 4, 3) := by decide +kernel
theorem dX1_isInLimits_16 : decode cX1_isInLimits 16 = .ok (.iconst 0, 1) := by decide +kernel
theorem dX1_isInLimits_17 : decode cX1_isInLimits 17 = .ok (.ireturn, 1) := by decide +kernel
theorem dX1_numbered_0 : decode cX1_numbered 0 = .ok (.iload_n 1, 1) := by decide +kernel
theorem dX1_numbered_1 : decode cX1_numbered 1 = .ok (.ifCond .lt 20, 3) := by decide +kernel
theorem dX1_numbered_4 : decode cX1_numbered 4 = .ok (.iload_n 1, 1) := by decide +kernel
theorem dX1_numbered_5 : decode cX1_numbered 5 = .ok (.aload_n 0, 1) := by decide +kernel
theorem dX1_numbered_6 : decode cX1_numbered 6 = .ok (.getfield 64, 3) := by decide +kernel
theorem dX1_numbered_9 : decode cX1_numbered 9 = .ok (.if_icmp .ge 12, 3) := by decide +kernel
theorem dX1_numbered_12 : decode cX1_numbered 12 = .ok (.iload_n 1, 1) := by decide +kernel
theorem dX1_numbered_13 : decode cX1_numbered 13 = .ok (.aload_n 0, 1) := by decide +kernel
theorem dX1_numbered_14 : decode cX1_numbered 14 = .ok (.getfield 21, 3) := by decide +kernel
theorem dX1_numbered_17 : decode cX1_numbered 17 = .ok (.arraylength, 1) := by decide +kernel
theorem dX1_numbered_18 : decode cX1_numbered 18 = .ok (.if_icmp .lt 13, 3) := by decide +kernel
theorem dX1_numbered_21 : decode cX1_numbered 21 = .ok (.new 135, 3) := by decide +kernel
theorem dX1_numbered_24 : decode cX1_numbered 24 = .ok (.dup, 1) := by decide +kernel
theorem dX1_numbered_25 : decode cX1_numbered 25 = .ok (.ldc 142, 2) := by decide +kernel
theorem dX1_numbered_27 : decode cX1_numbered 27 = .ok (.invokespecial 139, 3) := by decide +kernel
theorem dX1_numbered_30 : decode cX1_numbered 30 = .ok (.athrow, 1) := by decide +kernel
theorem dX1_numbered_31 : decode cX1_numbered 31 = .ok (.aload_n 0, 1) := by decide +kernel
theorem dX1_numbered_32 : decode cX1_numbered 32 = .ok (.getfield 21, 3) := by decide +kernel
theorem dX1_numbered_35 : decode cX1_numbered 35 = .ok (.iload_n 1, 1) := by decide +kernel
theorem dX1_numbered_36 : decode cX1_numbered 36 = .ok (.aaload, 1) := by decide +kernel
theorem dX1_numbered_37 : decode cX1_numbered 37 = .ok (.areturn, 1) := by decide +kernel
theorem dX1_draftChange_0 : decode cX1_draftChange 0 = .ok (.aload_n 0, 1) := by decide +kernel
theorem dX1_draftChange_1 : decode cX1_draftChange 1 = .ok (.getfield 9, 3) := by decide +kernel
theorem dX1_draftChange_4 : decode cX1_draftChange 4 = .ok (.iconst 0, 1) := by decide +kernel
theorem dX1_draftChange_5 : decode cX1_draftChange 5 = .ok (.aload_n 0, 1) := by decide +kernel
theorem dX1_draftChange_6 : decode cX1_draftChange 6 = .ok (.getfield 16, 3) := by decide +kernel
theorem dX1_draftChange_9 : decode cX1_draftChange 9 = .ok (.iconst 0, 1) := by decide +kernel
theorem dX1_draftChange_10 : decode cX1_draftChange 10 = .ok (.aload_n 0, 1) := by decide +kernel
theorem dX1_draftChange_11 : decode cX1_draftChange 11 = .ok (.getfield 16, 3) := by decide +kernel
theorem dX1_draftChange_14 : decode cX1_draftChange 14 = .ok (.arraylength, 1) := by decide +kernel
theorem dX1_draftChange_15 : decode cX1_draftChange 15 = .ok (.invokestatic 55, 3) := by decide +kernel
theorem dX1_draftChange_18 : decode cX1_draftChange 18 = .ok (.iload_n 1, 1) := by decide +kernel
theorem dX1_draftChange_19 : decode cX1_draftChange 19 = .ok (.iconst 2, 1) := by decide +kernel
theorem dX1_draftChange_20 : decode cX1_draftChange 20 = .ok (.if_icmp .ne 42, 3) := by decide +kernel
theorem dX1_draftChange_23 : decode cX1_draftChange 23 = .ok (.iconst 0, 1) := by decide +kernel
theorem dX1_draftChange_24 : decode cX1_draftChange 24 = .ok (.istore_n 3, 1) := by decide +kernel
theorem dX1_draftChange_25 : decode cX1_draftChange 25 = .ok (.iload_n 3, 1) := by decide +kernel
theorem dX1_draftChange_26 : decode cX1_draftChange 26 = .ok (.iload_n 2, 1) := by decide +kernel
theorem dX1_draftChange_27 : decode cX1_draftChange 27 = .ok (.if_icmp .gt 32, 3) := by decide +kernel
theorem dX1_draftChange_30 : decode cX1_draftChange 30 = .ok (.iload_n 2, 1) := by decide +kernel
theorem dX1_draftChange_31 : decode cX1_draftChange 31 = .ok (.aload_n 0, 1) := by decide +kernel
theorem dX1_draftChange_32 : decode cX1_draftChange 32 = .ok (.getfield 16, 3) := by decide +kernel
theorem dX1_draftChange_35 : decode cX1_draftChange 35 = .ok (.arraylength, 1) := by decide +kernel
theorem dX1_draftChange_36 : decode cX1_draftChange 36 = .ok (.if_icmp .ge 23, 3) := by decide +kernel
theorem dX1_draftChange_39 : decode cX1_draftChange 39 = .ok (.aload_n 0, 1) := by decide +kernel
theorem dX1_draftChange_40 : decode cX1_draftChange 40 = .ok (.getfield 16, 3) := by decide +kernel
theorem dX1_draftChange_43 : decode cX1_draftChange 43 = .ok (.iload_n 3, 1) := by decide +kernel
theorem dX1_draftChange_44 : decode cX1_draftChange 44 = .ok (.aload_n 0, 1) := by decide +kernel
theorem dX1_draftChange_45 : decode cX1_draftChange 45 = .ok (.getfield 9, 3) := by decide +kernel
theorem dX1_draftChange_48 : decode cX1_draftChange 48 = .ok (.iload_n 2, 1) := by decide +kernel
theorem dX1_draftChange_49 : decode cX1_draftChange 49 = .ok (.iload_n 3, 1) := by decide +kernel
theorem dX1_draftChange_50 : decode cX1_draftChange 50 = .ok (.isub, 1) := by decide +kernel
theorem dX1_draftChange_51 : decode cX1_draftChange 51 = .ok (.iaload, 1) := by decide +kernel
theorem dX1_draftChange_52 : decode cX1_draftChange 52 = .ok (.iastore, 1) := by decide +kernel
theorem dX1_draftChange_53 : decode cX1_draftChange 53 = .ok (.iinc 3 1, 3) := by decide +kernel
theorem dX1_draftChange_56 : decode cX1_draftChange 56 = .ok (.goto (-31), 3) := by decide +kernel
theorem dX1_draftChange_59 : decode cX1_draftChange 59 = .ok (.goto 45, 3) := by decide +kernel
theorem dX1_draftChange_62 : decode cX1_draftChange 62 = .ok (.iload_n 1, 1) := by decide +kernel
theorem dX1_draftChange_63 : decode cX1_draftChange 63 = .ok (.ifCond .ne 36, 3) := by decide +kernel
theorem dX1_draftChange_66 : decode cX1_draftChange 66 = .ok (.iconst 1, 1) := by decide +kernel
theorem dX1_draftChange_67 : decode cX1_draftChange 67 = .ok (.istore_n 3, 1) := by decide +kernel
theorem dX1_draftChange_68 : decode cX1_draftChange 68 = .ok (.iload_n 3, 1) := by decide +kernel
theorem dX1_draftChange_69 : decode cX1_draftChange 69 = .ok (.aload_n 0, 1) := by decide +kernel
theorem dX1_draftChange_70 : decode cX1_draftChange 70 = .ok (.getfield 16, 3) := by decide +kernel
theorem dX1_draftChange_73 : decode cX1_draftChange 73 = .ok (.arraylength, 1) := by decide +kernel
theorem dX1_draftChange_74 : decode cX1_draftChange 74 = .ok (.if_icmp .ge 22, 3) := by decide +kernel
theorem dX1_draftChange_77 : decode cX1_draftChange 77 = .ok (.aload_n 0, 1) := by decide +kernel
theorem dX1_draftChange_78 : decode cX1_draftChange 78 = .ok (.getfield 16, 3) := by decide +kernel
theorem dX1_draftChange_81 : decode cX1_draftChange 81 = .ok (.iload_n 3, 1) := by decide +kernel
theorem dX1_draftChange_82 : decode cX1_draftChange 82 = .ok (.aload_n 0, 1) := by decide +kernel
theorem dX1_draftChange_83 : decode cX1_draftChange 83 = .ok (.getfield 16, 3) := by decide +kernel
theorem dX1_draftChange_86 : decode cX1_draftChange 86 = .ok (.iload_n 3, 1) := by decide +kernel
theorem dX1_draftChange_87 : decode cX1_draftChange 87 = .ok (.iaload, 1) := by decide +kernel
theorem dX1_draftChange_88 : decode cX1_draftChange 88 = .ok (.ineg, 1) := by decide +kernel
theorem dX1_draftChange_89 : decode cX1_draftChange 89 = .ok (.iastore, 1) := by decide +kernel
theorem dX1_draftChange_90 : decode cX1_draftChange 90 = .ok (.iinc 3 2, 3) := by decide +kernel
theorem dX1_draftChange_93 : decode cX1_draftChange 93 = .ok (.goto (-25), 3) := by decide +kernel
theorem dX1_draftChange_96 : decode cX1_draftChange 96 = .ok (.goto 8, 3) := by decide +kernel
theorem dX1_draftChange_99 : decode cX1_draftChange 99 = .ok (.aload_n 0, 1) := by decide +kernel
theorem dX1_draftChange_100 : decode cX1_draftChange 100 = .ok (.iload_n 1, 1) := by decide +kernel
theorem dX1_draftChange_101 : decode cX1_draftChange 101 = .ok (.invokevirtual 144, 3) := by decide +kernel
theorem dX1_draftChange_104 : decode cX1_draftChange 104 = .ok (.return_, 1) := by decide +kernel
theorem dX1_draftShift_0 : decode cX1_draftShift 0 = .ok (.iconst 0, 1) := by decide +kernel
theorem dX1_draftShift_1 : decode cX1_draftShift 1 = .ok (.istore_n 2, 1) := by decide +kernel
theorem dX1_draftShift_2 : decode cX1_draftShift 2 = .ok (.iload_n 2, 1) := by decide +kernel
theorem dX1_draftShift_3 : decode cX1_draftShift 3 = .ok (.iconst 4, 1) := by decide +kernel
theorem dX1_draftShift_4 : decode cX1_draftShift 4 = .ok (.if_icmp .ge 41, 3) := by decide +kernel
theorem dX1_draftShift_7 : decode cX1_draftShift 7 = .ok (.iconst 3, 1) := by decide +kernel
theorem dX1_draftShift_8 : decode cX1_draftShift 8 = .ok (.istore_n 3, 1) := by decide +kernel
theorem dX1_draftShift_9 : decode cX1_draftShift 9 = .ok (.iload_n 3, 1) := by decide +kernel
theorem dX1_draftShift_10 : decode cX1_draftShift 10 = .ok (.iload_n 2, 1) := by decide +kernel
theorem dX1_draftShift_11 : decode cX1_draftShift 11 = .ok (.if_icmp .lt 28, 3) := by decide +kernel
theorem dX1_draftShift_14 : decode cX1_draftShift 14 = .ok (.aload_n 0, 1) := by decide +kernel
theorem dX1_draftShift_15 : decode cX1_draftShift 15 = .ok (.getfield 16, 3) := by decide +kernel
theorem dX1_draftShift_18 : decode cX1_draftShift 18 = .ok (.iload_n 3, 1) := by decide +kernel
theorem dX1_draftShift_19 : decode cX1_draftShift 19 = .ok (.dup2, 1) := by decide +kernel
theorem dX1_draftShift_20 : decode cX1_draftShift 20 = .ok (.iaload, 1) := by decide +kernel
theorem dX1_draftShift_21 : decode cX1_draftShift 21 = .ok (.iload_n 1, 1) := by decide +kernel
theorem dX1_draftShift_22 : decode cX1_draftShift 22 = .ok (.aload_n 0, 1) := by decide +kernel
theorem dX1_draftShift_23 : decode cX1_draftShift 23 = .ok (.getfield 16, 3) := by decide +kernel
theorem dX1_draftShift_26 : decode cX1_draftShift 26 = .ok (.iload_n 3, 1) := by decide +kernel
theorem dX1_draftShift_27 : decode cX1_draftShift 27 = .ok (.iconst 1, 1) := by decide +kernel
theorem dX1_draftShift_28 : decode cX1_draftShift 28 = .ok (.iadd, 1) := by decide +kernel
theorem dX1_draftShift_29 : decode cX1_draftShift 29 = .ok (.iaload, 1) := by decide +kernel
theorem dX1_draftShift_30 : decode cX1_draftShift 30 = .ok (.imul, 1) := by decide +kernel
theorem dX1_draftShift_31 : decode cX1_draftShift 31 = .ok (.iadd, 1) := by decide +kernel
theorem dX1_draftShift_32 : decode cX1_draftShift 32 = .ok (.iastore, 1) := by decide +kernel
theorem dX1_draftShift_33 : decode cX1_draftShift 33 = .ok (.iinc 3 (-1), 3) := by decide +kernel
theorem dX1_draftShift_36 : decode cX1_draftShift 36 = .ok (.goto (-27), 3) := by decide +kernel
theorem dX1_draftShift_39 : decode cX1_draftShift 39 = .ok (.iinc 2 1, 3) := by decide +kernel
theorem dX1_draftShift_42 : decode cX1_draftShift 42 = .ok (.goto (-40), 3) := by decide +kernel
theorem dX1_draftShift_45 : decode cX1_draftShift 45 = .ok (.return_, 1) := by decide +kernel
theorem dX1_split_0 : decode cX1_split 0 = .ok (.aload_n 0, 1) := by decide +kernel
theorem dX1_split_1 : decode cX1_split 1 = .ok (.getfield 9, 3) := by decide +kernel
theorem dX1_split_4 : decode cX1_split 4 = .ok (.invokestatic 47, 3) := by decide +kernel
theorem dX1_split_7 : decode cX1_split 7 = .ok (.istore_n 1, 1) := by decide +kernel
theorem dX1_split_8 : decode cX1_split 8 = .ok (.iload_n 1, 1) := by decide +kernel
theorem dX1_split_9 : decode cX1_split 9 = .ok (.ifCond .ge 13, 3) := by decide +kernel
theorem dX1_split_12 : decode cX1_split 12 = .ok (.new 147, 3) := by decide +kernel
theorem dX1_split_15 : decode cX1_split 15 = .ok (.dup, 1) := by decide +kernel
theorem dX1_split_16 : decode cX1_split 16 = .ok (.ldc 149, 2) := by decide +kernel
theorem dX1_split_18 : decode cX1_split 18 = .ok (.invokespecial 151, 3) := by decide +kernel
theorem dX1_split_21 : decode cX1_split 21 = .ok (.athrow, 1) := by decide +kernel
theorem dX1_split_22 : decode cX1_split 22 = .ok (.aload_n 0, 1) := by decide +kernel
theorem dX1_split_23 : decode cX1_split 23 = .ok (.getfield 41, 3) := by decide +kernel
theorem dX1_split_26 : decode cX1_split 26 = .ok (.ifCond .eq 4, 3) := by decide +kernel
theorem dX1_split_29 : decode cX1_split 29 = .ok (.return_, 1) := by decide +kernel
theorem dX1_split_30 : decode cX1_split 30 = .ok (.aload_n 0, 1) := by decide +kernel
theorem dX1_split_31 : decode cX1_split 31 = .ok (.iconst 0, 1) := by decide +kernel
theorem dX1_split_32 : decode cX1_split 32 = .ok (.putfield 64, 3) := by decide +kernel
theorem dX1_split_35 : decode cX1_split 35 = .ok (.aload_n 0, 1) := by decide +kernel
theorem dX1_split_36 : decode cX1_split 36 = .ok (.iload_n 1, 1) := by decide +kernel
theorem dX1_split_37 : decode cX1_split 37 = .ok (.invokevirtual 152, 3) := by decide +kernel
theorem dX1_split_40 : decode cX1_split 40 = .ok (.aload_n 0, 1) := by decide +kernel
theorem dX1_split_41 : decode cX1_split 41 = .ok (.invokevirtual 155, 3) := by decide +kernel
theorem dX1_split_44 : decode cX1_split 44 = .ok (.aload_n 0, 1) := by decide +kernel
theorem dX1_split_45 : decode cX1_split 45 = .ok (.invokevirtual 158, 3) := by decide +kernel
theorem dX1_split_48 : decode cX1_split 48 = .ok (.aload_n 0, 1) := by decide +kernel
theorem dX1_split_49 : decode cX1_split 49 = .ok (.iconst 1, 1) := by decide +kernel
theorem dX1_split_50 : decode cX1_split 50 = .ok (.putfield 41, 3) := by decide +kernel
theorem dX1_split_53 : decode cX1_split 53 = .ok (.return_, 1) := by decide +kernel
theorem dX1_takeOutContent_0 : decode cX1_takeOutContent 0 = .ok (.iconst 0, 1) := by decide +kernel
theorem dX1_takeOutContent_1 : decode cX1_takeOutContent 1 = .ok (.istore_n 2, 1) := by decide +kernel
theorem dX1_takeOutContent_2 : decode cX1_takeOutContent 2 = .ok (.aload_n 0, 1) := by decide +kernel
theorem dX1_takeOutContent_3 : decode cX1_takeOutContent 3 = .ok (.getfield 9, 3) := by decide +kernel
theorem dX1_takeOutContent_6 : decode cX1_takeOutContent 6 = .ok (.astore_n 3, 1) := by decide +kernel
theorem dX1_takeOutContent_7 : decode cX1_takeOutContent 7 = .ok (.aload_n 3, 1) := by decide +kernel
theorem dX1_takeOutContent_8 : decode cX1_takeOutContent 8 = .ok (.arraylength, 1) := by decide +kernel
theorem dX1_takeOutContent_9 : decode cX1_takeOutContent 9 = .ok (.istore 4, 2) := by decide +kernel
theorem dX1_takeOutContent_11 : decode cX1_takeOutContent 11 = .ok (.iconst 0, 1) := by decide +kernel
theorem dX1_takeOutContent_12 : decode cX1_takeOutContent 12 = .ok (.istore 5, 2) := by decide +kernel
theorem dX1_takeOutContent_14 : decode cX1_takeOutContent 14 = .ok (.iload 5, 2) := by decide +kernel
theorem dX1_takeOutContent_16 : decode cX1_takeOutContent 16 = .ok (.iload 4, 2) := by decide +kernel
theorem dX1_takeOutContent_18 : decode cX1_takeOutContent 18 = .ok (.if_icmp .ge 22, 3) := by decide +kernel
theorem dX1_takeOutContent_21 : decode cX1_takeOutContent 21 = .ok (.aload_n 3, 1) := by decide +kernel
theorem dX1_takeOutContent_22 : decode cX1_takeOutContent 22 = .ok (.iload 5, 2) := by decide +kernel
theorem dX1_takeOutContent_24 : decode cX1_takeOutContent 24 = .ok (.iaload, 1) := by decide +kernel
theorem dX1_takeOutContent_25 : decode cX1_takeOutContent 25 = .ok (.istore 6, 2) := by decide +kernel
theorem dX1_takeOutContent_27 : decode cX1_takeOutContent 27 = .ok (.iload_n 2, 1) := by decide +kernel
theorem dX1_takeOutContent_28 : decode cX1_takeOutContent 28 = .ok (.iload 6, 2) := by decide +kernel
theorem dX1_takeOutContent_30 : decode cX1_takeOutContent 30 = .ok (.invokestatic 108, 3) := by decide +kernel
theorem dX1_takeOutContent_33 : decode cX1_takeOutContent 33 = .ok (.istore_n 2, 1) := by decide +kernel
theorem dX1_takeOutContent_34 : decode cX1_takeOutContent 34 = .ok (.iinc 5 1, 3) := by decide +kernel
theorem dX1_takeOutContent_37 : decode cX1_takeOutContent 37 = .ok (.goto (-23), 3) := by decide +kernel
theorem dX1_takeOutContent_40 : decode cX1_takeOutContent 40 = .ok (.aload_n 0, 1) := by decide +kernel
theorem dX1_takeOutContent_41 : decode cX1_takeOutContent 41 = .ok (.aload_n 0, 1) := by decide +kernel
theorem dX1_takeOutContent_42 : decode cX1_takeOutContent 42 = .ok (.getfield 9, 3) := by decide +kernel
theorem dX1_takeOutContent_45 : decode cX1_takeOutContent 45 = .ok (.iload_n 1, 1) := by decide +kernel
theorem dX1_takeOutContent_46 : decode cX1_takeOutContent 46 = .ok (.iaload, 1) := by decide +kernel
theorem dX1_takeOutContent_47 : decode cX1_takeOutContent 47 = .ok (.ifCond .ge 8, 3) := by decide +kernel
theorem dX1_takeOutContent_50 : decode cX1_takeOutContent 50 = .ok (.iload_n 2, 1) := by decide +kernel
theorem dX1_takeOutContent_51 : decode cX1_takeOutContent 51 = .ok (.ineg, 1) := by decide +kernel
theorem dX1_takeOutContent_52 : decode cX1_takeOutContent 52 = .ok (.goto 4, 3) := by decide +kernel
theorem dX1_takeOutContent_55 : decode cX1_takeOutContent 55 = .ok (.iload_n 2, 1) := by decide +kernel
theorem dX1_takeOutContent_56 : decode cX1_takeOutContent 56 = .ok (.putfield 93, 3) := by decide +kernel
theorem dX1_takeOutContent_59 : decode cX1_takeOutContent 59 = .ok (.iconst 0, 1) := by decide +kernel
theorem dX1_takeOutContent_60 : decode cX1_takeOutContent 60 = .ok (.istore_n 3, 1) := by decide +kernel
theorem dX1_takeOutContent_61 : decode cX1_takeOutContent 61 = .ok (.iload_n 3, 1) := by decide +kernel
theorem dX1_takeOutContent_62 : decode cX1_takeOutContent 62 = .ok (.aload_n 0, 1) := by decide +kernel
theorem dX1_takeOutContent_63 : decode cX1_takeOutContent 63 = .ok (.getfield 13, 3) := by decide +kernel
theorem dX1_takeOutContent_66 : decode cX1_takeOutContent 66 = .ok (.arraylength, 1) := by decide +kernel
theorem dX1_takeOutContent_67 : decode cX1_takeOutContent 67 = .ok (.if_icmp .ge 37, 3) := by decide +kernel
theorem dX1_takeOutContent_70 : decode cX1_takeOutContent 70 = .ok (.aload_n 0, 1) := by decide +kernel
theorem dX1_takeOutContent_71 : decode cX1_takeOutContent 71 = .ok (.getfield 13, 3) := by decide +kernel
theorem dX1_takeOutContent_74 : decode cX1_takeOutContent 74 = .ok (.iload_n 3, 1) := by decide +kernel
theorem dX1_takeOutContent_75 : decode cX1_takeOutContent 75 = .ok (.aload_n 0, 1) := by decide +kernel
theorem dX1_takeOutContent_76 : decode cX1_takeOutContent 76 = .ok (.getfield 93, 3) := by decide +kernel
theorem dX1_takeOutContent_79 : decode cX1_takeOutContent 79 = .ok (.ifCond .ne 7, 3) := by decide +kernel
theorem dX1_takeOutContent_82 : decode cX1_takeOutContent 82 = .ok (.iconst 0, 1) := by decide +kernel
theorem dX1_takeOutContent_83 : decode cX1_takeOutContent 83 = .ok (.goto 14, 3) := by decide +kernel
theorem dX1_takeOutContent_86 : decode cX1_takeOutContent 86 = .ok (.aload_n 0, 1) := by decide +kernel
theorem dX1_takeOutContent_87 : decode cX1_takeOutContent 87 = .ok (.getfield 9, 3) := by decide +kernel
theorem dX1_takeOutContent_90 : decode cX1_takeOutContent 90 = .ok (.iload_n 3, 1) := by decide +kernel
theorem dX1_takeOutContent_91 : decode cX1_takeOutContent 91 = .ok (.iaload, 1) := by decide +kernel
theorem dX1_takeOutContent_92 : decode cX1_takeOutContent 92 = .ok (.aload_n 0, 1) := by decide +kernel
theorem dX1_takeOutContent_93 : decode cX1_takeOutContent 93 = .ok (.getfield 93, 3) := by decide +kernel
theorem dX1_takeOutContent_96 : decode cX1_takeOutContent 96 = .ok (.idiv, 1) := by decide +kernel
theorem dX1_takeOutContent_97 : decode cX1_takeOutContent 97 = .ok (.iastore, 1) := by decide +kernel
theorem dX1_takeOutContent_98 : decode cX1_takeOutContent 98 = .ok (.iinc 3 1, 3) := by decide +kernel
theorem dX1_takeOutContent_101 : decode cX1_takeOutContent 101 = .ok (.goto (-40), 3) := by decide +kernel
theorem dX1_takeOutContent_104 : decode cX1_takeOutContent 104 = .ok (.return_, 1) := by decide +kernel
theorem dX1_takeOutLinearFactors_0 : decode cX1_takeOutLinearFactors 0 = .ok (.iconst 1, 1) := by decide +kernel
theorem dX1_takeOutLinearFactors_1 : decode cX1_takeOutLinearFactors 1 = .ok (.istore_n 1, 1) := by decide +kernel
theorem dX1_takeOutLinearFactors_2 : decode cX1_takeOutLinearFactors 2 = .ok (.iload_n 1, 1) := by decide +kernel
theorem dX1_takeOutLinearFactors_3 : decode cX1_takeOutLinearFactors 3 = .ok (.bipush 20, 2) := by decide +kernel
theorem dX1_takeOutLinearFactors_5 : decode cX1_takeOutLinearFactors 5 = .ok (.if_icmp .gt 54, 3) := by decide +kernel
theorem dX1_takeOutLinearFactors_8 : decode cX1_takeOutLinearFactors 8 = .ok (.aload_n 0, 1) := by decide +kernel
theorem dX1_takeOutLinearFactors_9 : decode cX1_takeOutLinearFactors 9 = .ok (.getfield 13, 3) := by decide +kernel
theorem dX1_takeOutLinearFactors_12 : decode cX1_takeOutLinearFactors 12 = .ok (.invokestatic 47, 3) := by decide +kernel
theorem dX1_takeOutLinearFactors_15 : decode cX1_takeOutLinearFactors 15 = .ok (.istore_n 2, 1) := by decide +kernel
theorem dX1_takeOutLinearFactors_16 : decode cX1_takeOutLinearFactors 16 = .ok (.iload_n 2, 1) := by decide +kernel
theorem dX1_takeOutLinearFactors_17 : decode cX1_takeOutLinearFactors 17 = .ok (.ifCond .le 36, 3) := by decide +kernel
theorem dX1_takeOutLinearFactors_20 : decode cX1_takeOutLinearFactors 20 = .ok (.aload_n 0, 1) := by decide +kernel
theorem dX1_takeOutLinearFactors_21 : decode cX1_takeOutLinearFactors 21 = .ok (.getfield 13, 3) := by decide +kernel
theorem dX1_takeOutLinearFactors_24 : decode cX1_takeOutLinearFactors 24 = .ok (.iload_n 2, 1) := by decide +kernel
theorem dX1_takeOutLinearFactors_25 : decode cX1_takeOutLinearFactors 25 = .ok (.iaload, 1) := by decide +kernel
theorem dX1_takeOutLinearFactors_26 : decode cX1_takeOutLinearFactors 26 = .ok (.iload_n 1, 1) := by decide +kernel
theorem dX1_takeOutLinearFactors_27 : decode cX1_takeOutLinearFactors 27 = .ok (.irem, 1) := by decide +kernel
theorem dX1_takeOutLinearFactors_28 : decode cX1_takeOutLinearFactors 28 = .ok (.ifCond .ne 25, 3) := by decide +kernel
theorem dX1_takeOutLinearFactors_31 : decode cX1_takeOutLinearFactors 31 = .ok (.bipush (-20), 2) := by decide +kernel
theorem dX1_takeOutLinearFactors_33 : decode cX1_takeOutLinearFactors 33 = .ok (.istore_n 3, 1) := by decide +kernel
theorem dX1_takeOutLinearFactors_34 : decode cX1_takeOutLinearFactors 34 = .ok (.iload_n 3, 1) := by decide +kernel
theorem dX1_takeOutLinearFactors_35 : decode cX1_takeOutLinearFactors 35 = .ok (.bipush 20, 2) := by decide +kernel
theorem dX1_takeOutLinearFactors_37 : decode cX1_takeOutLinearFactors 37 = .ok (.if_icmp .gt 16, 3) := by decide +kernel
theorem dX1_takeOutLinearFactors_40 : decode cX1_takeOutLinearFactors 40 = .ok (.aload_n 0, 1) := by decide +kernel
theorem dX1_takeOutLinearFactors_41 : decode cX1_takeOutLinearFactors 41 = .ok (.iconst 0, 1) := by decide +kernel
theorem dX1_takeOutLinearFactors_42 : decode cX1_takeOutLinearFactors 42 = .ok (.iload_n 1, 1) := by decide +kernel
theorem dX1_takeOutLinearFactors_43 : decode cX1_takeOutLinearFactors 43 = .ok (.iload_n 3, 1) := by decide +kernel
theorem dX1_takeOutLinearFactors_44 : decode cX1_takeOutLinearFactors 44 = .ok (.invokevirtual 161, 3) := by decide +kernel
theorem dX1_takeOutLinearFactors_47 : decode cX1_takeOutLinearFactors 47 = .ok (.iinc 3 1, 3) := by decide +kernel
theorem dX1_takeOutLinearFactors_50 : decode cX1_takeOutLinearFactors 50 = .ok (.goto (-16), 3) := by decide +kernel
theorem dX1_takeOutLinearFactors_53 : decode cX1_takeOutLinearFactors 53 = .ok (.iinc 1 1, 3) := by decide +kernel
theorem dX1_takeOutLinearFactors_56 : decode cX1_takeOutLinearFactors 56 = .ok (.goto (-54), 3) := by decide +kernel
theorem dX1_takeOutLinearFactors_59 : decode cX1_takeOutLinearFactors 59 = .ok (.return_, 1) := by decide +kernel
theorem dX1_takeOutQuadraticFactors_0 : decode cX1_takeOutQuadraticFactors 0 = .ok (.aload_n 0, 1) := by decide +kernel
theorem dX1_takeOutQuadraticFactors_1 : decode cX1_takeOutQuadraticFactors 1 = .ok (.getfield 13, 3) := by decide +kernel
theorem dX1_takeOutQuadraticFactors_4 : decode cX1_takeOutQuadraticFactors 4 = .ok (.invokestatic 47, 3) := by decide +kernel
theorem dX1_takeOutQuadraticFactors_7 : decode cX1_takeOutQuadraticFactors 7 = .ok (.iconst 4, 1) := by decide +kernel
theorem dX1_takeOutQuadraticFactors_8 : decode cX1_takeOutQuadraticFactors 8 = .ok (.if_icmp .ne 12, 3) := by decide +kernel
theorem dX1_takeOutQuadraticFactors_11 : decode cX1_takeOutQuadraticFactors 11 = .ok (.aload_n 0, 1) := by decide +kernel
theorem dX1_takeOutQuadraticFactors_12 : decode cX1_takeOutQuadraticFactors 12 = .ok (.getfield 13, 3) := by decide +kernel
theorem dX1_takeOutQuadraticFactors_15 : decode cX1_takeOutQuadraticFactors 15 = .ok (.iconst 4, 1) := by decide +kernel
theorem dX1_takeOutQuadraticFactors_16 : decode cX1_takeOutQuadraticFactors 16 = .ok (.iaload, 1) := by decide +kernel
theorem dX1_takeOutQuadraticFactors_17 : decode cX1_takeOutQuadraticFactors 17 = .ok (.goto 4, 3) := by decide +kernel
theorem dX1_takeOutQuadraticFactors_20 : decode cX1_takeOutQuadraticFactors 20 = .ok (.iconst 0, 1) := by decide +kernel
theorem dX1_takeOutQuadraticFactors_21 : decode cX1_takeOutQuadraticFactors 21 = .ok (.istore_n 1, 1) := by decide +kernel
theorem dX1_takeOutQuadraticFactors_22 : decode cX1_takeOutQuadraticFactors 22 = .ok (.aload_n 0, 1) := by decide +kernel
theorem dX1_takeOutQuadraticFactors_23 : decode cX1_takeOutQuadraticFactors 23 = .ok (.getfield 13, 3) := by decide +kernel
theorem dX1_takeOutQuadraticFactors_26 : decode cX1_takeOutQuadraticFactors 26 = .ok (.iconst 0, 1) := by decide +kernel
theorem dX1_takeOutQuadraticFactors_27 : decode cX1_takeOutQuadraticFactors 27 = .ok (.iaload, 1) := by decide +kernel
theorem dX1_takeOutQuadraticFactors_28 : decode cX1_takeOutQuadraticFactors 28 = .ok (.istore_n 2, 1) := by decide +kernel
theorem dX1_takeOutQuadraticFactors_29 : decode cX1_takeOutQuadraticFactors 29 = .ok (.iconst 1, 1) := by decide +kernel
theorem dX1_takeOutQuadraticFactors_30 : decode cX1_takeOutQuadraticFactors 30 = .ok (.istore_n 3, 1) := by decide +kernel
theorem dX1_takeOutQuadraticFactors_31 : decode cX1_takeOutQuadraticFactors 31 = .ok (.iload_n 3, 1) := by decide +kernel
theorem dX1_takeOutQuadraticFactors_32 : decode cX1_takeOutQuadraticFactors 32 = .ok (.bipush 20, 2) := by decide +kernel
theorem dX1_takeOutQuadraticFactors_34 : decode cX1_takeOutQuadraticFactors 34 = .ok (.if_icmp .gt 96, 3) := by decide +kernel
theorem dX1_takeOutQuadraticFactors_37 : decode cX1_takeOutQuadraticFactors 37 = .ok (.iload_n 3, 1) := by decide +kernel
theorem dX1_takeOutQuadraticFactors_38 : decode cX1_takeOutQuadraticFactors 38 = .ok (.iload_n 3, 1) := by decide +kernel
theorem dX1_takeOutQuadraticFactors_39 : decode cX1_takeOutQuadraticFactors 39 = .ok (.imul, 1) := by decide +kernel
theorem dX1_takeOutQuadraticFactors_40 : decode cX1_takeOutQuadraticFactors 40 = .ok (.iload_n 1, 1) := by decide +kernel
theorem dX1_takeOutQuadraticFactors_41 : decode cX1_takeOutQuadraticFactors 41 = .ok (.if_icmp .gt 89, 3) := by decide +kernel
theorem dX1_takeOutQuadraticFactors_44 : decode cX1_takeOutQuadraticFactors 44 = .ok (.iload_n 1, 1) := by decide +kernel
theorem dX1_takeOutQuadraticFactors_45 : decode cX1_takeOutQuadraticFactors 45 = .ok (.iload_n 3, 1) := by decide +kernel
theorem dX1_takeOutQuadraticFactors_46 : decode cX1_takeOutQuadraticFactors 46 = .ok (.irem, 1) := by decide +kernel
theorem dX1_takeOutQuadraticFactors_47 : decode cX1_takeOutQuadraticFactors 47 = .ok (.ifCond .eq 6, 3) := by decide +kernel
theorem dX1_takeOutQuadraticFactors_50 : decode cX1_takeOutQuadraticFactors 50 = .ok (.goto 74, 3) := by decide +kernel
theorem dX1_takeOutQuadraticFactors_53 : decode cX1_takeOutQuadraticFactors 53 = .ok (.iconst 2, 1) := by decide +kernel
theorem dX1_takeOutQuadraticFactors_54 : decode cX1_takeOutQuadraticFactors 54 = .ok (.iload_n 3, 1) := by decide +kernel
theorem dX1_takeOutQuadraticFactors_55 : decode cX1_takeOutQuadraticFactors 55 = .ok (.imul, 1) := by decide +kernel
theorem dX1_takeOutQuadraticFactors_56 : decode cX1_takeOutQuadraticFactors 56 = .ok (.bipush 40, 2) := by decide +kernel
theorem dX1_takeOutQuadraticFactors_58 : decode cX1_takeOutQuadraticFactors 58 = .ok (.iload_n 3, 1) := by decide +kernel
theorem dX1_takeOutQuadraticFactors_59 : decode cX1_takeOutQuadraticFactors 59 = .ok (.imul, 1) := by decide +kernel
theorem dX1_takeOutQuadraticFactors_60 : decode cX1_takeOutQuadraticFactors 60 = .ok (.iload_n 1, 1) := by decide +kernel
theorem dX1_takeOutQuadraticFactors_61 : decode cX1_takeOutQuadraticFactors 61 = .ok (.idiv, 1) := by decide +kernel
theorem dX1_takeOutQuadraticFactors_62 : decode cX1_takeOutQuadraticFactors 62 = .ok (.iadd, 1) := by decide +kernel
theorem dX1_takeOutQuadraticFactors_63 : decode cX1_takeOutQuadraticFactors 63 = .ok (.istore 4, 2) := by decide +kernel
theorem dX1_takeOutQuadraticFactors_65 : decode cX1_takeOutQuadraticFactors 65 = .ok (.bipush (-20), 2) := by decide +kernel
theorem dX1_takeOutQuadraticFactors_67 : decode cX1_takeOutQuadraticFactors 67 = .ok (.istore 5, 2) := by decide +kernel
theorem dX1_takeOutQuadraticFactors_69 : decode cX1_takeOutQuadraticFactors 69 = .ok (.iload 5, 2) := by decide +kernel
theorem dX1_takeOutQuadraticFactors_71 : decode cX1_takeOutQuadraticFactors 71 = .ok (.bipush 20, 2) := by decide +kernel
theorem dX1_takeOutQuadraticFactors_73 : decode cX1_takeOutQuadraticFactors 73 = .ok (.if_icmp .gt 51, 3) := by decide +kernel
theorem dX1_takeOutQuadraticFactors_76 : decode cX1_takeOutQuadraticFactors 76 = .ok (.iload 5, 2) := by decide +kernel
theorem dX1_takeOutQuadraticFactors_78 : decode cX1_takeOutQuadraticFactors 78 = .ok (.ifCond .eq 40, 3) := by decide +kernel
theorem dX1_takeOutQuadraticFactors_81 : decode cX1_takeOutQuadraticFactors 81 = .ok (.iload_n 2, 1) := by decide +kernel
theorem dX1_takeOutQuadraticFactors_82 : decode cX1_takeOutQuadraticFactors 82 = .ok (.iload 5, 2) := by decide +kernel
theorem dX1_takeOutQuadraticFactors_84 : decode cX1_takeOutQuadraticFactors 84 = .ok (.irem, 1) := by decide +kernel
theorem dX1_takeOutQuadraticFactors_85 : decode cX1_takeOutQuadraticFactors 85 = .ok (.ifCond .eq 6, 3) := by decide +kernel
theorem dX1_takeOutQuadraticFactors_88 : decode cX1_takeOutQuadraticFactors 88 = .ok (.goto 30, 3) := by decide +kernel
theorem dX1_takeOutQuadraticFactors_91 : decode cX1_takeOutQuadraticFactors 91 = .ok (.iload 4, 2) := by decide +kernel
theorem dX1_takeOutQuadraticFactors_93 : decode cX1_takeOutQuadraticFactors 93 = .ok (.ineg, 1) := by decide +kernel
theorem dX1_takeOutQuadraticFactors_94 : decode cX1_takeOutQuadraticFactors 94 = .ok (.istore 6, 2) := by decide +kernel
theorem dX1_takeOutQuadraticFactors_96 : decode cX1_takeOutQuadraticFactors 96 = .ok (.iload 6, 2) := by decide +kernel
theorem dX1_takeOutQuadraticFactors_98 : decode cX1_takeOutQuadraticFactors 98 = .ok (.iload 4, 2) := by decide +kernel
theorem dX1_takeOutQuadraticFactors_100 : decode cX1_takeOutQuadraticFactors 100 = .ok (.if_icmp .gt 18, 3) := by decide +kernel
theorem dX1_takeOutQuadraticFactors_103 : decode cX1_takeOutQuadraticFactors 103 = .ok (.aload_n 0, 1) := by decide +kernel
theorem dX1_takeOutQuadraticFactors_104 : decode cX1_takeOutQuadraticFactors 104 = .ok (.iload_n 3, 1) := by decide +kernel
theorem dX1_takeOutQuadraticFactors_105 : decode cX1_takeOutQuadraticFactors 105 = .ok (.iload 6, 2) := by decide +kernel
theorem dX1_takeOutQuadraticFactors_107 : decode cX1_takeOutQuadraticFactors 107 = .ok (.iload 5, 2) := by decide +kernel
theorem dX1_takeOutQuadraticFactors_109 : decode cX1_takeOutQuadraticFactors 109 = .ok (.invokevirtual 161, 3) := by decide +kernel
theorem dX1_takeOutQuadraticFactors_112 : decode cX1_takeOutQuadraticFactors 112 = .ok (.iinc 6 1, 3) := by decide +kernel
theorem dX1_takeOutQuadraticFactors_115 : decode cX1_takeOutQuadraticFactors 115 = .ok (.goto (-19), 3) := by decide +kernel
theorem dX1_takeOutQuadraticFactors_118 : decode cX1_takeOutQuadraticFactors 118 = .ok (.iinc 5 1, 3) := by decide +kernel
theorem dX1_takeOutQuadraticFactors_121 : decode cX1_takeOutQuadraticFactors 121 = .ok (.goto (-52), 3) := by decide +kernel
theorem dX1_takeOutQuadraticFactors_124 : decode cX1_takeOutQuadraticFactors 124 = .ok (.iinc 3 1, 3) := by decide +kernel
theorem dX1_takeOutQuadraticFactors_127 : decode cX1_takeOutQuadraticFactors 127 = .ok (.goto (-96), 3) := by decide +kernel
theorem dX1_takeOutQuadraticFactors_130 : decode cX1_takeOutQuadraticFactors 130 = .ok (.aload_n 0, 1) := by decide +kernel
theorem dX1_takeOutQuadraticFactors_131 : decode cX1_takeOutQuadraticFactors 131 = .ok (.getfield 13, 3) := by decide +kernel
theorem dX1_takeOutQuadraticFactors_134 : decode cX1_takeOutQuadraticFactors 134 = .ok (.invokestatic 47, 3) := by decide +kernel
theorem dX1_takeOutQuadraticFactors_137 : decode cX1_takeOutQuadraticFactors 137 = .ok (.iconst 2, 1) := by decide +kernel
theorem dX1_takeOutQuadraticFactors_138 : decode cX1_takeOutQuadraticFactors 138 = .ok (.if_icmp .ne 25, 3) := by decide +kernel
theorem dX1_takeOutQuadraticFactors_141 : decode cX1_takeOutQuadraticFactors 141 = .ok (.aload_n 0, 1) := by decide +kernel
theorem dX1_takeOutQuadraticFactors_142 : decode cX1_takeOutQuadraticFactors 142 = .ok (.aload_n 0, 1) := by decide +kernel
theorem dX1_takeOutQuadraticFactors_143 : decode cX1_takeOutQuadraticFactors 143 = .ok (.getfield 13, 3) := by decide +kernel
theorem dX1_takeOutQuadraticFactors_146 : decode cX1_takeOutQuadraticFactors 146 = .ok (.iconst 2, 1) := by decide +kernel
theorem dX1_takeOutQuadraticFactors_147 : decode cX1_takeOutQuadraticFactors 147 = .ok (.iaload, 1) := by decide +kernel
theorem dX1_takeOutQuadraticFactors_148 : decode cX1_takeOutQuadraticFactors 148 = .ok (.aload_n 0, 1) := by decide +kernel
theorem dX1_takeOutQuadraticFactors_149 : decode cX1_takeOutQuadraticFactors 149 = .ok (.getfield 13, 3) := by decide +kernel
theorem dX1_takeOutQuadraticFactors_152 : decode cX1_takeOutQuadraticFactors 152 = .ok (.iconst 1, 1) := by decide +kernel
theorem dX1_takeOutQuadraticFactors_153 : decode cX1_takeOutQuadraticFactors 153 = .ok (.iaload, 1) := by decide +kernel
theorem dX1_takeOutQuadraticFactors_154 : decode cX1_takeOutQuadraticFactors 154 = .ok (.aload_n 0, 1) := by decide +kernel
theorem dX1_takeOutQuadraticFactors_155 : decode cX1_takeOutQuadraticFactors 155 = .ok (.getfield 13, 3) := by decide +kernel
theorem dX1_takeOutQuadraticFactors_158 : decode cX1_takeOutQuadraticFactors 158 = .ok (.iconst 0, 1) := by decide +kernel
theorem dX1_takeOutQuadraticFactors_159 : decode cX1_takeOutQuadraticFactors 159 = .ok (.iaload, 1) := by decide +kernel
theorem dX1_takeOutQuadraticFactors_160 : decode cX1_takeOutQuadraticFactors 160 = .ok (.invokevirtual 161, 3) := by decide +kernel
theorem dX1_takeOutQuadraticFactors_163 : decode cX1_takeOutQuadraticFactors 163 = .ok (.return_, 1) := by decide +kernel
theorem dX1_takeOut_0 : decode cX1_takeOut 0 = .ok (.iconst 0, 1) := by decide +kernel
theorem dX1_takeOut_1 : decode cX1_takeOut 1 = .ok (.istore 4, 2) := by decide +kernel
theorem dX1_takeOut_3 : decode cX1_takeOut 3 = .ok (.iload 4, 2) := by decide +kernel
theorem dX1_takeOut_5 : decode cX1_takeOut 5 = .ok (.iconst 4, 1) := by decide +kernel
theorem dX1_takeOut_6 : decode cX1_takeOut 6 = .ok (.if_icmp .ge 19, 3) := by decide +kernel
theorem dX1_takeOut_9 : decode cX1_takeOut 9 = .ok (.aload_n 0, 1) := by decide +kernel
theorem dX1_takeOut_10 : decode cX1_takeOut 10 = .ok (.iload_n 1, 1) := by decide +kernel
theorem dX1_takeOut_11 : decode cX1_takeOut 11 = .ok (.iload_n 2, 1) := by decide +kernel
theorem dX1_takeOut_12 : decode cX1_takeOut 12 = .ok (.iload_n 3, 1) := by decide +kernel
theorem dX1_takeOut_13 : decode cX1_takeOut 13 = .ok (.invokevirtual 165, 3) := by decide +kernel
theorem dX1_takeOut_16 : decode cX1_takeOut 16 = .ok (.ifCond .eq 9, 3) := by decide +kernel
theorem dX1_takeOut_19 : decode cX1_takeOut 19 = .ok (.iinc 4 1, 3) := by decide +kernel
theorem dX1_takeOut_22 : decode cX1_takeOut 22 = .ok (.goto (-19), 3) := by decide +kernel
theorem dX1_takeOut_25 : decode cX1_takeOut 25 = .ok (.iload 4, 2) := by decide +kernel
theorem dX1_takeOut_27 : decode cX1_takeOut 27 = .ok (.ifCond .le 12, 3) := by decide +kernel
theorem dX1_takeOut_30 : decode cX1_takeOut 30 = .ok (.aload_n 0, 1) := by decide +kernel
theorem dX1_takeOut_31 : decode cX1_takeOut 31 = .ok (.iload_n 1, 1) := by decide +kernel
theorem dX1_takeOut_32 : decode cX1_takeOut 32 = .ok (.iload_n 2, 1) := by decide +kernel
theorem dX1_takeOut_33 : decode cX1_takeOut 33 = .ok (.iload_n 3, 1) := by decide +kernel
theorem dX1_takeOut_34 : decode cX1_takeOut 34 = .ok (.iload 4, 2) := by decide +kernel
theorem dX1_takeOut_36 : decode cX1_takeOut 36 = .ok (.invokevirtual 169, 3) := by decide +kernel
theorem dX1_takeOut_39 : decode cX1_takeOut 39 = .ok (.return_, 1) := by decide +kernel
theorem dX1_divideRest_0 : decode cX1_divideRest 0 = .ok (.iload_n 1, 1) := by decide +kernel
theorem dX1_divideRest_1 : decode cX1_divideRest 1 = .ok (.ifCond .ne 7, 3) := by decide +kernel
theorem dX1_divideRest_4 : decode cX1_divideRest 4 = .ok (.iconst 1, 1) := by decide +kernel
theorem dX1_divideRest_5 : decode cX1_divideRest 5 = .ok (.goto 4, 3) := by decide +kernel
theorem dX1_divideRest_8 : decode cX1_divideRest 8 = .ok (.iconst 2, 1) := by decide +kernel
theorem dX1_divideRest_9 : decode cX1_divideRest 9 = .ok (.istore 4, 2) := by decide +kernel
theorem dX1_divideRest_11 : decode cX1_divideRest 11 = .ok (.iload_n 1, 1) := by decide +kernel
theorem dX1_divideRest_12 : decode cX1_divideRest 12 = .ok (.ifCond .ne 7, 3) := by decide +kernel
theorem dX1_divideRest_15 : decode cX1_divideRest 15 = .ok (.iload_n 2, 1) := by decide +kernel
theorem dX1_divideRest_16 : decode cX1_divideRest 16 = .ok (.goto 4, 3) := by decide +kernel
theorem dX1_divideRest_19 : decode cX1_divideRest 19 = .ok (.iload_n 1, 1) := by decide +kernel
theorem dX1_divideRest_20 : decode cX1_divideRest 20 = .ok (.istore 5, 2) := by decide +kernel
theorem dX1_divideRest_22 : decode cX1_divideRest 22 = .ok (.aload_n 0, 1) := by decide +kernel
theorem dX1_divideRest_23 : decode cX1_divideRest 23 = .ok (.getfield 13, 3) := by decide +kernel
theorem dX1_divideRest_26 : decode cX1_divideRest 26 = .ok (.invokestatic 47, 3) := by decide +kernel
theorem dX1_divideRest_29 : decode cX1_divideRest 29 = .ok (.istore 6, 2) := by decide +kernel
theorem dX1_divideRest_31 : decode cX1_divideRest 31 = .ok (.iload 5, 2) := by decide +kernel
theorem dX1_divideRest_33 : decode cX1_divideRest 33 = .ok (.ifCond .eq 10, 3) := by decide +kernel
theorem dX1_divideRest_36 : decode cX1_divideRest 36 = .ok (.iload 6, 2) := by decide +kernel
theorem dX1_divideRest_38 : decode cX1_divideRest 38 = .ok (.iload 4, 2) := by decide +kernel
theorem dX1_divideRest_40 : decode cX1_divideRest 40 = .ok (.if_icmp .ge 5, 3) := by decide +kernel
theorem dX1_divideRest_43 : decode cX1_divideRest 43 = .ok (.iconst 0, 1) := by decide +kernel
theorem dX1_divideRest_44 : decode cX1_divideRest 44 = .ok (.ireturn, 1) := by decide +kernel
theorem dX1_divideRest_45 : decode cX1_divideRest 45 = .ok (.aload_n 0, 1) := by decide +kernel
theorem dX1_divideRest_46 : decode cX1_divideRest 46 = .ok (.getfield 13, 3) := by decide +kernel
theorem dX1_divideRest_49 : decode cX1_divideRest 49 = .ok (.iconst 0, 1) := by decide +kernel
theorem dX1_divideRest_50 : decode cX1_divideRest 50 = .ok (.aload_n 0, 1) := by decide +kernel
theorem dX1_divideRest_51 : decode cX1_divideRest 51 = .ok (.getfield 16, 3) := by decide +kernel
theorem dX1_divideRest_54 : decode cX1_divideRest 54 = .ok (.iconst 0, 1) := by decide +kernel
theorem dX1_divideRest_55 : decode cX1_divideRest 55 = .ok (.aload_n 0, 1) := by decide +kernel
theorem dX1_divideRest_56 : decode cX1_divideRest 56 = .ok (.getfield 16, 3) := by decide +kernel
theorem dX1_divideRest_59 : decode cX1_divideRest 59 = .ok (.arraylength, 1) := by decide +kernel
theorem dX1_divideRest_60 : decode cX1_divideRest 60 = .ok (.invokestatic 55, 3) := by decide +kernel
theorem dX1_divideRest_63 : decode cX1_divideRest 63 = .ok (.iload 6, 2) := by decide +kernel
theorem dX1_divideRest_65 : decode cX1_divideRest 65 = .ok (.istore 7, 2) := by decide +kernel
theorem dX1_divideRest_67 : decode cX1_divideRest 67 = .ok (.iload 7, 2) := by decide +kernel
theorem dX1_divideRest_69 : decode cX1_divideRest 69 = .ok (.iload 4, 2) := by decide +kernel
theorem dX1_divideRest_71 : decode cX1_divideRest 71 = .ok (.if_icmp .lt 85, 3) := by decide +kernel
theorem dX1_divideRest_74 : decode cX1_divideRest 74 = .ok (.aload_n 0, 1) := by decide +kernel
theorem dX1_divideRest_75 : decode cX1_divideRest 75 = .ok (.getfield 16, 3) := by decide +kernel
theorem dX1_divideRest_78 : decode cX1_divideRest 78 = .ok (.iload 7, 2) := by decide +kernel
theorem dX1_divideRest_80 : decode cX1_divideRest 80 = .ok (.iaload, 1) := by decide +kernel
theorem dX1_divideRest_81 : decode cX1_divideRest 81 = .ok (.iload 5, 2) := by decide +kernel
theorem dX1_divideRest_83 : decode cX1_divideRest 83 = .ok (.irem, 1) := by decide +kernel
theorem dX1_divideRest_84 : decode cX1_divideRest 84 = .ok (.ifCond .eq 5, 3) := by decide +kernel
theorem dX1_divideRest_87 : decode cX1_divideRest 87 = .ok (.iconst 0, 1) := by decide +kernel
theorem dX1_divideRest_88 : decode cX1_divideRest 88 = .ok (.ireturn, 1) := by decide +kernel
theorem dX1_divideRest_89 : decode cX1_divideRest 89 = .ok (.aload_n 0, 1) := by decide +kernel
theorem dX1_divideRest_90 : decode cX1_divideRest 90 = .ok (.getfield 16, 3) := by decide +kernel
theorem dX1_divideRest_93 : decode cX1_divideRest 93 = .ok (.iload 7, 2) := by decide +kernel
theorem dX1_divideRest_95 : decode cX1_divideRest 95 = .ok (.dup2, 1) := by decide +kernel
theorem dX1_divideRest_96 : decode cX1_divideRest 96 = .ok (.iaload, 1) := by decide +kernel
theorem dX1_divideRest_97 : decode cX1_divideRest 97 = .ok (.iload 5, 2) := by decide +kernel
theorem dX1_divideRest_99 : decode cX1_divideRest 99 = .ok (.idiv, 1) := by decide +kernel
theorem dX1_divideRest_100 : decode cX1_divideRest 100 = .ok (.iastore, 1) := by decide +kernel
theorem dX1_divideRest_101 : decode cX1_divideRest 101 = .ok (.aload_n 0, 1) := by decide +kernel
theorem dX1_divideRest_102 : decode cX1_divideRest 102 = .ok (.getfield 16, 3) := by decide +kernel
theorem dX1_divideRest_105 : decode cX1_divideRest 105 = .ok (.iload 7, 2) := by decide +kernel
theorem dX1_divideRest_107 : decode cX1_divideRest 107 = .ok (.iload 4, 2) := by decide +kernel
theorem dX1_divideRest_109 : decode cX1_divideRest 109 = .ok (.isub, 1) := by decide +kernel
theorem dX1_divideRest_110 : decode cX1_divideRest 110 = .ok (.dup2, 1) := by decide +kernel
theorem dX1_divideRest_111 : decode cX1_divideRest 111 = .ok (.iaload, 1) := by decide +kernel
theorem dX1_divideRest_112 : decode cX1_divideRest 112 = .ok (.aload_n 0, 1) := by decide +kernel
theorem dX1_divideRest_113 : decode cX1_divideRest 113 = .ok (.getfield 16, 3) := by decide +kernel
theorem dX1_divideRest_116 : decode cX1_divideRest 116 = .ok (.iload 7, 2) := by decide +kernel
theorem dX1_divideRest_118 : decode cX1_divideRest 118 = .ok (.iaload, 1) := by decide +kernel
theorem dX1_divideRest_119 : decode cX1_divideRest 119 = .ok (.iload_n 3, 1) := by decide +kernel
theorem dX1_divideRest_120 : decode cX1_divideRest 120 = .ok (.imul, 1) := by decide +kernel
theorem dX1_divideRest_121 : decode cX1_divideRest 121 = .ok (.isub, 1) := by decide +kernel
theorem dX1_divideRest_122 : decode cX1_divideRest 122 = .ok (.iastore, 1) := by decide +kernel
theorem dX1_divideRest_123 : decode cX1_divideRest 123 = .ok (.iload 4, 2) := by decide +kernel
theorem dX1_divideRest_125 : decode cX1_divideRest 125 = .ok (.iconst 2, 1) := by decide +kernel
theorem dX1_divideRest_126 : decode cX1_divideRest 126 = .ok (.if_icmp .ne 24, 3) := by decide +kernel
theorem dX1_divideRest_129 : decode cX1_divideRest 129 = .ok (.aload_n 0, 1) := by decide +kernel
theorem dX1_divideRest_130 : decode cX1_divideRest 130 = .ok (.getfield 16, 3) := by decide +kernel
theorem dX1_divideRest_133 : decode cX1_divideRest 133 = .ok (.iload 7, 2) := by decide +kernel
theorem dX1_divideRest_135 : decode cX1_divideRest 135 = .ok (.iconst 1, 1) := by decide +kernel
theorem dX1_divideRest_136 : decode cX1_divideRest 136 = .ok (.isub, 1) := by decide +kernel
theorem dX1_divideRest_137 : decode cX1_divideRest 137 = .ok (.dup2, 1) := by decide +kernel
theorem dX1_divideRest_138 : decode cX1_divideRest 138 = .ok (.iaload, 1) := by decide +kernel
theorem dX1_divideRest_139 : decode cX1_divideRest 139 = .ok (.aload_n 0, 1) := by decide +kernel
theorem dX1_divideRest_140 : decode cX1_divideRest 140 = .ok (.getfield 16, 3) := by decide +kernel
theorem dX1_divideRest_143 : decode cX1_divideRest 143 = .ok (.iload 7, 2) := by decide +kernel
theorem dX1_divideRest_145 : decode cX1_divideRest 145 = .ok (.iaload, 1) := by decide +kernel
theorem dX1_divideRest_146 : decode cX1_divideRest 146 = .ok (.iload_n 2, 1) := by decide +kernel
theorem dX1_divideRest_147 : decode cX1_divideRest 147 = .ok (.imul, 1) := by decide +kernel
theorem dX1_divideRest_148 : decode cX1_divideRest 148 = .ok (.isub, 1) := by decide +kernel
theorem dX1_divideRest_149 : decode cX1_divideRest 149 = .ok (.iastore, 1) := by decide +kernel
theorem dX1_divideRest_150 : decode cX1_divideRest 150 = .ok (.iinc 7 (-1), 3) := by decide +kernel
theorem dX1_divideRest_153 : decode cX1_divideRest 153 = .ok (.goto (-86), 3) := by decide +kernel
theorem dX1_divideRest_156 : decode cX1_divideRest 156 = .ok (.aload_n 0, 1) := by decide +kernel
theorem dX1_divideRest_157 : decode cX1_divideRest 157 = .ok (.getfield 16, 3) := by decide +kernel
theorem dX1_divideRest_160 : decode cX1_divideRest 160 = .ok (.iconst 0, 1) := by decide +kernel
theorem dX1_divideRest_161 : decode cX1_divideRest 161 = .ok (.iaload, 1) := by decide +kernel
theorem dX1_divideRest_162 : decode cX1_divideRest 162 = .ok (.ifCond .ne 15, 3) := by decide +kernel
theorem dX1_divideRest_165 : decode cX1_divideRest 165 = .ok (.aload_n 0, 1) := by decide +kernel
theorem dX1_divideRest_166 : decode cX1_divideRest 166 = .ok (.getfield 16, 3) := by decide +kernel
theorem dX1_divideRest_169 : decode cX1_divideRest 169 = .ok (.iload 4, 2) := by decide +kernel
theorem dX1_divideRest_171 : decode cX1_divideRest 171 = .ok (.iconst 1, 1) := by decide +kernel
theorem dX1_divideRest_172 : decode cX1_divideRest 172 = .ok (.isub, 1) := by decide +kernel
theorem dX1_divideRest_173 : decode cX1_divideRest 173 = .ok (.iaload, 1) := by decide +kernel
theorem dX1_divideRest_174 : decode cX1_divideRest 174 = .ok (.ifCond .eq 5, 3) := by decide +kernel
theorem dX1_divideRest_177 : decode cX1_divideRest 177 = .ok (.iconst 0, 1) := by decide +kernel
theorem dX1_divideRest_178 : decode cX1_divideRest 178 = .ok (.ireturn, 1) := by decide +kernel
theorem dX1_divideRest_179 : decode cX1_divideRest 179 = .ok (.iconst 0, 1) := by decide +kernel
theorem dX1_divideRest_180 : decode cX1_divideRest 180 = .ok (.istore 7, 2) := by decide +kernel
theorem dX1_divideRest_182 : decode cX1_divideRest 182 = .ok (.iload 7, 2) := by decide +kernel
theorem dX1_divideRest_184 : decode cX1_divideRest 184 = .ok (.aload_n 0, 1) := by decide +kernel
theorem dX1_divideRest_185 : decode cX1_divideRest 185 = .ok (.getfield 13, 3) := by decide +kernel
theorem dX1_divideRest_188 : decode cX1_divideRest 188 = .ok (.arraylength, 1) := by decide +kernel
theorem dX1_divideRest_189 : decode cX1_divideRest 189 = .ok (.if_icmp .ge 40, 3) := by decide +kernel
theorem dX1_divideRest_192 : decode cX1_divideRest 192 = .ok (.aload_n 0, 1) := by decide +kernel
theorem dX1_divideRest_193 : decode cX1_divideRest 193 = .ok (.getfield 13, 3) := by decide +kernel
theorem dX1_divideRest_196 : decode cX1_divideRest 196 = .ok (.iload 7, 2) := by decide +kernel
theorem dX1_divideRest_198 : decode cX1_divideRest 198 = .ok (.iload 7, 2) := by decide +kernel
theorem dX1_divideRest_200 : decode cX1_divideRest 200 = .ok (.iload 4, 2) := by decide +kernel
theorem dX1_divideRest_202 : decode cX1_divideRest 202 = .ok (.iadd, 1) := by decide +kernel
theorem dX1_divideRest_203 : decode cX1_divideRest 203 = .ok (.iload 6, 2) := by decide +kernel
theorem dX1_divideRest_205 : decode cX1_divideRest 205 = .ok (.if_icmp .gt 16, 3) := by decide +kernel
theorem dX1_divideRest_208 : decode cX1_divideRest 208 = .ok (.aload_n 0, 1) := by decide +kernel
theorem dX1_divideRest_209 : decode cX1_divideRest 209 = .ok (.getfield 16, 3) := by decide +kernel
theorem dX1_divideRest_212 : decode cX1_divideRest 212 = .ok (.iload 7, 2) := by decide +kernel
theorem dX1_divideRest_214 : decode cX1_divideRest 214 = .ok (.iload 4, 2) := by decide +kernel
theorem dX1_divideRest_216 : decode cX1_divideRest 216 = .ok (.iadd, 1) := by decide +kernel
theorem dX1_divideRest_217 : decode cX1_divideRest 217 = .ok (.iaload, 1) := by decide +kernel
theorem dX1_divideRest_218 : decode cX1_divideRest 218 = .ok (.goto 4, 3) := by decide +kernel
theorem dX1_divideRest_221 : decode cX1_divideRest 221 = .ok (.iconst 0, 1) := by decide +kernel
theorem dX1_divideRest_222 : decode cX1_divideRest 222 = .ok (.iastore, 1) := by decide +kernel
theorem dX1_divideRest_223 : decode cX1_divideRest 223 = .ok (.iinc 7 1, 3) := by decide +kernel
theorem dX1_divideRest_226 : decode cX1_divideRest 226 = .ok (.goto (-44), 3) := by decide +kernel
theorem dX1_divideRest_229 : decode cX1_divideRest 229 = .ok (.iconst 1, 1) := by decide +kernel
theorem dX1_divideRest_230 : decode cX1_divideRest 230 = .ok (.ireturn, 1) := by decide +kernel
theorem dX1_addFactor_0 : decode cX1_addFactor 0 = .ok (.aload_n 0, 1) := by decide +kernel
theorem dX1_addFactor_1 : decode cX1_addFactor 1 = .ok (.getfield 64, 3) := by decide +kernel
theorem dX1_addFactor_4 : decode cX1_addFactor 4 = .ok (.aload_n 0, 1) := by decide +kernel
theorem dX1_addFactor_5 : decode cX1_addFactor 5 = .ok (.getfield 21, 3) := by decide +kernel
theorem dX1_addFactor_8 : decode cX1_addFactor 8 = .ok (.arraylength, 1) := by decide +kernel
theorem dX1_addFactor_9 : decode cX1_addFactor 9 = .ok (.if_icmp .lt 4, 3) := by decide +kernel
theorem dX1_addFactor_12 : decode cX1_addFactor 12 = .ok (.return_, 1) := by decide +kernel
theorem dX1_addFactor_13 : decode cX1_addFactor 13 = .ok (.aload_n 0, 1) := by decide +kernel
theorem dX1_addFactor_14 : decode cX1_addFactor 14 = .ok (.getfield 21, 3) := by decide +kernel
theorem dX1_addFactor_17 : decode cX1_addFactor 17 = .ok (.aload_n 0, 1) := by decide +kernel
theorem dX1_addFactor_18 : decode cX1_addFactor 18 = .ok (.getfield 64, 3) := by decide +kernel
theorem dX1_addFactor_21 : decode cX1_addFactor 21 = .ok (.aaload, 1) := by decide +kernel
theorem dX1_addFactor_22 : decode cX1_addFactor 22 = .ok (.astore 5, 2) := by decide +kernel
theorem dX1_addFactor_24 : decode cX1_addFactor 24 = .ok (.aload 5, 2) := by decide +kernel
theorem dX1_addFactor_26 : decode cX1_addFactor 26 = .ok (.iload_n 1, 1) := by decide +kernel
theorem dX1_addFactor_27 : decode cX1_addFactor 27 = .ok (.iload_n 2, 1) := by decide +kernel
theorem dX1_addFactor_28 : decode cX1_addFactor 28 = .ok (.iload_n 3, 1) := by decide +kernel
theorem dX1_addFactor_29 : decode cX1_addFactor 29 = .ok (.iload 4, 2) := by decide +kernel
theorem dX1_addFactor_31 : decode cX1_addFactor 31 = .ok (.invokevirtual 173, 3) := by decide +kernel
theorem dX1_addFactor_34 : decode cX1_addFactor 34 = .ok (.aload_n 0, 1) := by decide +kernel
theorem dX1_addFactor_35 : decode cX1_addFactor 35 = .ok (.getfield 64, 3) := by decide +kernel
theorem dX1_addFactor_38 : decode cX1_addFactor 38 = .ok (.istore 6, 2) := by decide +kernel
theorem dX1_addFactor_40 : decode cX1_addFactor 40 = .ok (.iload 6, 2) := by decide +kernel
theorem dX1_addFactor_42 : decode cX1_addFactor 42 = .ok (.ifCond .le 42, 3) := by decide +kernel
theorem dX1_addFactor_45 : decode cX1_addFactor 45 = .ok (.aload 5, 2) := by decide +kernel
theorem dX1_addFactor_47 : decode cX1_addFactor 47 = .ok (.aload_n 0, 1) := by decide +kernel
theorem dX1_addFactor_48 : decode cX1_addFactor 48 = .ok (.getfield 21, 3) := by decide +kernel
theorem dX1_addFactor_51 : decode cX1_addFactor 51 = .ok (.iload 6, 2) := by decide +kernel
theorem dX1_addFactor_53 : decode cX1_addFactor 53 = .ok (.iconst 1, 1) := by decide +kernel
theorem dX1_addFactor_54 : decode cX1_addFactor 54 = .ok (.isub, 1) := by decide +kernel
theorem dX1_addFactor_55 : decode cX1_addFactor 55 = .ok (.aaload, 1) := by decide +kernel
theorem dX1_addFactor_56 : decode cX1_addFactor 56 = .ok (.invokevirtual 176, 3) := by decide +kernel
theorem dX1_addFactor_59 : decode cX1_addFactor 59 = .ok (.ifCond .eq 25, 3) := by decide +kernel
theorem dX1_addFactor_62 : decode cX1_addFactor 62 = .ok (.aload_n 0, 1) := by decide +kernel
theorem dX1_addFactor_63 : decode cX1_addFactor 63 = .ok (.getfield 21, 3) := by decide +kernel
theorem dX1_addFactor_66 : decode cX1_addFactor 66 = .ok (.iload 6, 2) := by decide +kernel
theorem dX1_addFactor_68 : decode cX1_addFactor 68 = .ok (.aload_n 0, 1) := by decide +kernel
theorem dX1_addFactor_69 : decode cX1_addFactor 69 = .ok (.getfield 21, 3) := by decide +kernel
theorem dX1_addFactor_72 : decode cX1_addFactor 72 = .ok (.iload 6, 2) := by decide +kernel
theorem dX1_addFactor_74 : decode cX1_addFactor 74 = .ok (.iconst 1, 1) := by decide +kernel
theorem dX1_addFactor_75 : decode cX1_addFactor 75 = .ok (.isub, 1) := by decide +kernel
theorem dX1_addFactor_76 : decode cX1_addFactor 76 = .ok (.aaload, 1) := by decide +kernel
theorem dX1_addFactor_77 : decode cX1_addFactor 77 = .ok (.aastore, 1) := by decide +kernel
theorem dX1_addFactor_78 : decode cX1_addFactor 78 = .ok (.iinc 6 (-1), 3) := by decide +kernel
theorem dX1_addFactor_81 : decode cX1_addFactor 81 = .ok (.goto (-41), 3) := by decide +kernel
theorem dX1_addFactor_84 : decode cX1_addFactor 84 = .ok (.aload_n 0, 1) := by decide +kernel
theorem dX1_addFactor_85 : decode cX1_addFactor 85 = .ok (.getfield 21, 3) := by decide +kernel
theorem dX1_addFactor_88 : decode cX1_addFactor 88 = .ok (.iload 6, 2) := by decide +kernel
theorem dX1_addFactor_90 : decode cX1_addFactor 90 = .ok (.aload 5, 2) := by decide +kernel
theorem dX1_addFactor_92 : decode cX1_addFactor 92 = .ok (.aastore, 1) := by decide +kernel
theorem dX1_addFactor_93 : decode cX1_addFactor 93 = .ok (.aload_n 0, 1) := by decide +kernel
theorem dX1_addFactor_94 : decode cX1_addFactor 94 = .ok (.dup, 1) := by decide +kernel
theorem dX1_addFactor_95 : decode cX1_addFactor 95 = .ok (.getfield 64, 3) := by decide +kernel
theorem dX1_addFactor_98 : decode cX1_addFactor 98 = .ok (.iconst 1, 1) := by decide +kernel
theorem dX1_addFactor_99 : decode cX1_addFactor 99 = .ok (.iadd, 1) := by decide +kernel
theorem dX1_addFactor_100 : decode cX1_addFactor 100 = .ok (.putfield 64, 3) := by decide +kernel
theorem dX1_addFactor_103 : decode cX1_addFactor 103 = .ok (.return_, 1) := by decide +kernel
theorem dX1_degreeOf_0 : decode cX1_degreeOf 0 = .ok (.aload_n 0, 1) := by decide +kernel
theorem dX1_degreeOf_1 : decode cX1_degreeOf 1 = .ok (.arraylength, 1) := by decide +kernel
theorem dX1_degreeOf_2 : decode cX1_degreeOf 2 = .ok (.iconst 1, 1) := by decide +kernel
theorem dX1_degreeOf_3 : decode cX1_degreeOf 3 = .ok (.isub, 1) := by decide +kernel
theorem dX1_degreeOf_4 : decode cX1_degreeOf 4 = .ok (.istore_n 1, 1) := by decide +kernel
theorem dX1_degreeOf_5 : decode cX1_degreeOf 5 = .ok (.iload_n 1, 1) := by decide +kernel
theorem dX1_degreeOf_6 : decode cX1_degreeOf 6 = .ok (.ifCond .lt 15, 3) := by decide +kernel
theorem dX1_degreeOf_9 : decode cX1_degreeOf 9 = .ok (.aload_n 0, 1) := by decide +kernel
theorem dX1_degreeOf_10 : decode cX1_degreeOf 10 = .ok (.iload_n 1, 1) := by decide +kernel
theorem dX1_degreeOf_11 : decode cX1_degreeOf 11 = .ok (.iaload, 1) := by decide +kernel
theorem dX1_degreeOf_12 : decode cX1_degreeOf 12 = .ok (.ifCond .ne 9, 3) := by decide +kernel
theorem dX1_degreeOf_15 : decode cX1_degreeOf 15 = .ok (.iinc 1 (-1), 3) := by decide +kernel
theorem dX1_degreeOf_18 : decode cX1_degreeOf 18 = .ok (.goto (-13), 3) := by decide +kernel
theorem dX1_degreeOf_21 : decode cX1_degreeOf 21 = .ok (.iload_n 1, 1) := by decide +kernel
theorem dX1_degreeOf_22 : decode cX1_degreeOf 22 = .ok (.ireturn, 1) := by decide +kernel
theorem dX1_commonDivisor_0 : decode cX1_commonDivisor 0 = .ok (.iload_n 0, 1) := by decide +kernel
theorem dX1_commonDivisor_1 : decode cX1_commonDivisor 1 = .ok (.invokestatic 180, 3) := by decide +kernel
theorem dX1_commonDivisor_4 : decode cX1_commonDivisor 4 = .ok (.istore_n 2, 1) := by decide +kernel
theorem dX1_commonDivisor_5 : decode cX1_commonDivisor 5 = .ok (.iload_n 1, 1) := by decide +kernel
theorem dX1_commonDivisor_6 : decode cX1_commonDivisor 6 = .ok (.invokestatic 180, 3) := by decide +kernel
theorem dX1_commonDivisor_9 : decode cX1_commonDivisor 9 = .ok (.istore_n 3, 1) := by decide +kernel
theorem dX1_commonDivisor_10 : decode cX1_commonDivisor 10 = .ok (.iconst 0, 1) := by decide +kernel
theorem dX1_commonDivisor_11 : decode cX1_commonDivisor 11 = .ok (.istore 4, 2) := by decide +kernel
theorem dX1_commonDivisor_13 : decode cX1_commonDivisor 13 = .ok (.iload 4, 2) := by decide +kernel
theorem dX1_commonDivisor_15 : decode cX1_commonDivisor 15 = .ok (.bipush 100, 2) := by decide +kernel
theorem dX1_commonDivisor_17 : decode cX1_commonDivisor 17 = .ok (.if_icmp .ge 23, 3) := by decide +kernel
theorem dX1_commonDivisor_20 : decode cX1_commonDivisor 20 = .ok (.iload_n 3, 1) := by decide +kernel
theorem dX1_commonDivisor_21 : decode cX1_commonDivisor 21 = .ok (.ifCond .eq 19, 3) := by decide +kernel
theorem dX1_commonDivisor_24 : decode cX1_commonDivisor 24 = .ok (.iload_n 2, 1) := by decide +kernel
theorem dX1_commonDivisor_25 : decode cX1_commonDivisor 25 = .ok (.iload_n 3, 1) := by decide +kernel
theorem dX1_commonDivisor_26 : decode cX1_commonDivisor 26 = .ok (.irem, 1) := by decide +kernel
theorem dX1_commonDivisor_27 : decode cX1_commonDivisor 27 = .ok (.istore 5, 2) := by decide +kernel
theorem dX1_commonDivisor_29 : decode cX1_commonDivisor 29 = .ok (.iload_n 3, 1) := by decide +kernel
theorem dX1_commonDivisor_30 : decode cX1_commonDivisor 30 = .ok (.istore_n 2, 1) := by decide +kernel
theorem dX1_commonDivisor_31 : decode cX1_commonDivisor 31 = .ok (.iload 5, 2) := by decide +kernel
theorem dX1_commonDivisor_33 : decode cX1_commonDivisor 33 = .ok (.istore_n 3, 1) := by decide +kernel
theorem dX1_commonDivisor_34 : decode cX1_commonDivisor 34 = .ok (.iinc 4 1, 3) := by decide +kernel
theorem dX1_commonDivisor_37 : decode cX1_commonDivisor 37 = .ok (.goto (-24), 3) := by decide +kernel
theorem dX1_commonDivisor_40 : decode cX1_commonDivisor 40 = .ok (.iload_n 2, 1) := by decide +kernel
theorem dX1_commonDivisor_41 : decode cX1_commonDivisor 41 = .ok (.ireturn, 1) := by decide +kernel
theorem dX1_greatestSquareDividing_0 : decode cX1_greatestSquareDividing 0 = .ok (.iload_n 0, 1) := by decide +kernel
theorem dX1_greatestSquareDividing_1 : decode cX1_greatestSquareDividing 1 = .ok (.ifCond .ge 8, 3) := by decide +kernel
theorem dX1_greatestSquareDividing_4 : decode cX1_greatestSquareDividing 4 = .ok (.iload_n 0, 1) := by decide +kernel
theorem dX1_greatestSquareDividing_5 : decode cX1_greatestSquareDividing 5 = .ok (.ineg, 1) := by decide +kernel
theorem dX1_greatestSquareDividing_6 : decode cX1_greatestSquareDividing 6 = .ok (.goto 4, 3) := by decide +kernel
theorem dX1_greatestSquareDividing_9 : decode cX1_greatestSquareDividing 9 = .ok (.iload_n 0, 1) := by decide +kernel
theorem dX1_greatestSquareDividing_10 : decode cX1_greatestSquareDividing 10 = .ok (.istore_n 1, 1) := by decide +kernel
theorem dX1_greatestSquareDividing_11 : decode cX1_greatestSquareDividing 11 = .ok (.iconst 0, 1) := by decide +kernel
theorem dX1_greatestSquareDividing_12 : decode cX1_greatestSquareDividing 12 = .ok (.istore_n 2, 1) := by decide +kernel
theorem dX1_greatestSquareDividing_13 : decode cX1_greatestSquareDividing 13 = .ok (.iconst 1, 1) := by decide +kernel
theorem dX1_greatestSquareDividing_14 : decode cX1_greatestSquareDividing 14 = .ok (.istore_n 3, 1) := by decide +kernel
theorem dX1_greatestSquareDividing_15 : decode cX1_greatestSquareDividing 15 = .ok (.iload_n 3, 1) := by decide +kernel
theorem dX1_greatestSquareDividing_16 : decode cX1_greatestSquareDividing 16 = .ok (.sipush 1000, 3) := by decide +kernel
theorem dX1_greatestSquareDividing_19 : decode cX1_greatestSquareDividing 19 = .ok (.if_icmp .gt 26, 3) := by decide +kernel
theorem dX1_greatestSquareDividing_22 : decode cX1_greatestSquareDividing 22 = .ok (.iload_n 3, 1) := by decide +kernel
theorem dX1_greatestSquareDividing_23 : decode cX1_greatestSquareDividing 23 = .ok (.iload_n 3, 1) := by decide +kernel
theorem dX1_greatestSquareDividing_24 : decode cX1_greatestSquareDividing 24 = .ok (.imul, 1) := by decide +kernel
theorem dX1_greatestSquareDividing_25 : decode cX1_greatestSquareDividing 25 = .ok (.iload_n 1, 1) := by decide +kernel
theorem dX1_greatestSquareDividing_26 : decode cX1_greatestSquareDividing 26 = .ok (.if_icmp .gt 19, 3) := by decide +kernel
theorem dX1_greatestSquareDividing_29 : decode cX1_greatestSquareDividing 29 = .ok (.iload_n 1, 1) := by decide +kernel
theorem dX1_greatestSquareDividing_30 : decode cX1_greatestSquareDividing 30 = .ok (.iload_n 3, 1) := by decide +kernel
theorem dX1_greatestSquareDividing_31 : decode cX1_greatestSquareDividing 31 = .ok (.iload_n 3, 1) := by decide +kernel
theorem dX1_greatestSquareDividing_32 : decode cX1_greatestSquareDividing 32 = .ok (.imul, 1) := by decide +kernel
theorem dX1_greatestSquareDividing_33 : decode cX1_greatestSquareDividing 33 = .ok (.irem, 1) := by decide +kernel
theorem dX1_greatestSquareDividing_34 : decode cX1_greatestSquareDividing 34 = .ok (.ifCond .ne 5, 3) := by decide +kernel
theorem dX1_greatestSquareDividing_37 : decode cX1_greatestSquareDividing 37 = .ok (.iload_n 3, 1) := by decide +kernel
theorem dX1_greatestSquareDividing_38 : decode cX1_greatestSquareDividing 38 = .ok (.istore_n 2, 1) := by decide +kernel
theorem dX1_greatestSquareDividing_39 : decode cX1_greatestSquareDividing 39 = .ok (.iinc 3 1, 3) := by decide +kernel
theorem dX1_greatestSquareDividing_42 : decode cX1_greatestSquareDividing 42 = .ok (.goto (-27), 3) := by decide +kernel
theorem dX1_greatestSquareDividing_45 : decode cX1_greatestSquareDividing 45 = .ok (.iload_n 2, 1) := by decide +kernel
theorem dX1_greatestSquareDividing_46 : decode cX1_greatestSquareDividing 46 = .ok (.ireturn, 1) := by decide +kernel
theorem dX1_wholeRoot_0 : decode cX1_wholeRoot 0 = .ok (.iconst 0, 1) := by decide +kernel
theorem dX1_wholeRoot_1 : decode cX1_wholeRoot 1 = .ok (.istore_n 1, 1) := by decide +kernel
theorem dX1_wholeRoot_2 : decode cX1_wholeRoot 2 = .ok (.iload_n 1, 1) := by decide +kernel
theorem dX1_wholeRoot_3 : decode cX1_wholeRoot 3 = .ok (.sipush 1000, 3) := by decide +kernel
theorem dX1_wholeRoot_6 : decode cX1_wholeRoot 6 = .ok (.if_icmp .ge 20, 3) := by decide +kernel
theorem dX1_wholeRoot_9 : decode cX1_wholeRoot 9 = .ok (.iload_n 1, 1) := by decide +kernel
theorem dX1_wholeRoot_10 : decode cX1_wholeRoot 10 = .ok (.iconst 1, 1) := by decide +kernel
theorem dX1_wholeRoot_11 : decode cX1_wholeRoot 11 = .ok (.iadd, 1) := by decide +kernel
theorem dX1_wholeRoot_12 : decode cX1_wholeRoot 12 = .ok (.iload_n 1, 1) := by decide +kernel
theorem dX1_wholeRoot_13 : decode cX1_wholeRoot 13 = .ok (.iconst 1, 1) := by decide +kernel
theorem dX1_wholeRoot_14 : decode cX1_wholeRoot 14 = .ok (.iadd, 1) := by decide +kernel
theorem dX1_wholeRoot_15 : decode cX1_wholeRoot 15 = .ok (.imul, 1) := by decide +kernel
theorem dX1_wholeRoot_16 : decode cX1_wholeRoot 16 = .ok (.iload_n 0, 1) := by decide +kernel
theorem dX1_wholeRoot_17 : decode cX1_wholeRoot 17 = .ok (.if_icmp .gt 9, 3) := by decide +kernel
theorem dX1_wholeRoot_20 : decode cX1_wholeRoot 20 = .ok (.iinc 1 1, 3) := by decide +kernel
theorem dX1_wholeRoot_23 : decode cX1_wholeRoot 23 = .ok (.goto (-21), 3) := by decide +kernel
theorem dX1_wholeRoot_26 : decode cX1_wholeRoot 26 = .ok (.iload_n 1, 1) := by decide +kernel
theorem dX1_wholeRoot_27 : decode cX1_wholeRoot 27 = .ok (.ireturn, 1) := by decide +kernel
theorem dX1_signOfSum_0 : decode cX1_signOfSum 0 = .ok (.lload_n 2, 1) := by decide +kernel
theorem dX1_signOfSum_1 : decode cX1_signOfSum 1 = .ok (.lload 4, 2) := by decide +kernel
theorem dX1_signOfSum_3 : decode cX1_signOfSum 3 = .ok (.lload 6, 2) := by decide +kernel
theorem dX1_signOfSum_5 : decode cX1_signOfSum 5 = .ok (.lload 8, 2) := by decide +kernel
theorem dX1_signOfSum_7 : decode cX1_signOfSum 7 = .ok (.invokestatic 183, 3) := by decide +kernel
theorem dX1_signOfSum_10 : decode cX1_signOfSum 10 = .ok (.i2l, 1) := by decide +kernel
theorem dX1_signOfSum_11 : decode cX1_signOfSum 11 = .ok (.lstore 10, 2) := by decide +kernel
theorem dX1_signOfSum_13 : decode cX1_signOfSum 13 = .ok (.lload_n 0, 1) := by decide +kernel
theorem dX1_signOfSum_14 : decode cX1_signOfSum 14 = .ok (.invokestatic 187, 3) := by decide +kernel
theorem dX1_signOfSum_17 : decode cX1_signOfSum 17 = .ok (.lload 10, 2) := by decide +kernel
theorem dX1_signOfSum_19 : decode cX1_signOfSum 19 = .ok (.lload_n 2, 1) := by decide +kernel
theorem dX1_signOfSum_20 : decode cX1_signOfSum 20 = .ok (.lload_n 2, 1) := by decide +kernel
theorem dX1_signOfSum_21 : decode cX1_signOfSum 21 = .ok (.lmul, 1) := by decide +kernel
theorem dX1_signOfSum_22 : decode cX1_signOfSum 22 = .ok (.lload 4, 2) := by decide +kernel
theorem dX1_signOfSum_24 : decode cX1_signOfSum 24 = .ok (.lmul, 1) := by decide +kernel
theorem dX1_signOfSum_25 : decode cX1_signOfSum 25 = .ok (.lload 6, 2) := by decide +kernel
theorem dX1_signOfSum_27 : decode cX1_signOfSum 27 = .ok (.lload 6, 2) := by decide +kernel
theorem dX1_signOfSum_29 : decode cX1_signOfSum 29 = .ok (.lmul, 1) := by decide +kernel
theorem dX1_signOfSum_30 : decode cX1_signOfSum 30 = .ok (.lload 8, 2) := by decide +kernel
theorem dX1_signOfSum_32 : decode cX1_signOfSum 32 = .ok (.lmul, 1) := by decide +kernel
theorem dX1_signOfSum_33 : decode cX1_signOfSum 33 = .ok (.ladd, 1) := by decide +kernel
theorem dX1_signOfSum_34 : decode cX1_signOfSum 34 = .ok (.lmul, 1) := by decide +kernel
theorem dX1_signOfSum_35 : decode cX1_signOfSum 35 = .ok (.ladd, 1) := by decide +kernel
theorem dX1_signOfSum_36 : decode cX1_signOfSum 36 = .ok (.lstore 12, 2) := by decide +kernel
theorem dX1_signOfSum_38 : decode cX1_signOfSum 38 = .ok (.lload 12, 2) := by decide +kernel
theorem dX1_signOfSum_40 : decode cX1_signOfSum 40 = .ok (.lconst 1, 1) := by decide +kernel
theorem dX1_signOfSum_41 : decode cX1_signOfSum 41 = .ok (.ldc2_w 191, 3) := by decide +kernel
theorem dX1_signOfSum_44 : decode cX1_signOfSum 44 = .ok (.lload 10, 2) := by decide +kernel
theorem dX1_signOfSum_46 : decode cX1_signOfSum 46 = .ok (.lmul, 1) := by decide +kernel
theorem dX1_signOfSum_47 : decode cX1_signOfSum 47 = .ok (.lload_n 2, 1) := by decide +kernel
theorem dX1_signOfSum_48 : decode cX1_signOfSum 48 = .ok (.lmul, 1) := by decide +kernel
theorem dX1_signOfSum_49 : decode cX1_signOfSum 49 = .ok (.lload 6, 2) := by decide +kernel
theorem dX1_signOfSum_51 : decode cX1_signOfSum 51 = .ok (.lmul, 1) := by decide +kernel
theorem dX1_signOfSum_52 : decode cX1_signOfSum 52 = .ok (.lload 4, 2) := by decide +kernel
theorem dX1_signOfSum_54 : decode cX1_signOfSum 54 = .ok (.lload 8, 2) := by decide +kernel
theorem dX1_signOfSum_56 : decode cX1_signOfSum 56 = .ok (.lmul, 1) := by decide +kernel
theorem dX1_signOfSum_57 : decode cX1_signOfSum 57 = .ok (.invokestatic 183, 3) := by decide +kernel
theorem dX1_signOfSum_60 : decode cX1_signOfSum 60 = .ok (.ireturn, 1) := by decide +kernel
theorem dX1_signOfRoots_0 : decode cX1_signOfRoots 0 = .ok (.lload_n 0, 1) := by decide +kernel
theorem dX1_signOfRoots_1 : decode cX1_signOfRoots 1 = .ok (.invokestatic 187, 3) := by decide +kernel
theorem dX1_signOfRoots_4 : decode cX1_signOfRoots 4 = .ok (.lload_n 2, 1) := by decide +kernel
theorem dX1_signOfRoots_5 : decode cX1_signOfRoots 5 = .ok (.lmul, 1) := by decide +kernel
theorem dX1_signOfRoots_6 : decode cX1_signOfRoots 6 = .ok (.lload 4, 2) := by decide +kernel
theorem dX1_signOfRoots_8 : decode cX1_signOfRoots 8 = .ok (.invokestatic 187, 3) := by decide +kernel
theorem dX1_signOfRoots_11 : decode cX1_signOfRoots 11 = .ok (.lload 6, 2) := by decide +kernel
theorem dX1_signOfRoots_13 : decode cX1_signOfRoots 13 = .ok (.lmul, 1) := by decide +kernel
theorem dX1_signOfRoots_14 : decode cX1_signOfRoots 14 = .ok (.ladd, 1) := by decide +kernel
theorem dX1_signOfRoots_15 : decode cX1_signOfRoots 15 = .ok (.lstore 8, 2) := by decide +kernel
theorem dX1_signOfRoots_17 : decode cX1_signOfRoots 17 = .ok (.lload 8, 2) := by decide +kernel
theorem dX1_signOfRoots_19 : decode cX1_signOfRoots 19 = .ok (.lconst 0, 1) := by decide +kernel
theorem dX1_signOfRoots_20 : decode cX1_signOfRoots 20 = .ok (.lcmp, 1) := by decide +kernel
theorem dX1_signOfRoots_21 : decode cX1_signOfRoots 21 = .ok (.ifCond .ge 7, 3) := by decide +kernel
theorem dX1_signOfRoots_24 : decode cX1_signOfRoots 24 = .ok (.iconst (-1), 1) := by decide +kernel
theorem dX1_signOfRoots_25 : decode cX1_signOfRoots 25 = .ok (.goto 15, 3) := by decide +kernel
theorem dX1_signOfRoots_28 : decode cX1_signOfRoots 28 = .ok (.lload 8, 2) := by decide +kernel
theorem dX1_signOfRoots_30 : decode cX1_signOfRoots 30 = .ok (.lconst 0, 1) := by decide +kernel
theorem dX1_signOfRoots_31 : decode cX1_signOfRoots 31 = .ok (.lcmp, 1) := by decide +kernel
theorem dX1_signOfRoots_32 : decode cX1_signOfRoots 32 = .ok (.ifCond .le 7, 3) := by decide +kernel
theorem dX1_signOfRoots_35 : decode cX1_signOfRoots 35 = .ok (.iconst 1, 1) := by decide +kernel
theorem dX1_signOfRoots_36 : decode cX1_signOfRoots 36 = .ok (.goto 4, 3) := by decide +kernel
theorem dX1_signOfRoots_39 : decode cX1_signOfRoots 39 = .ok (.iconst 0, 1) := by decide +kernel
theorem dX1_signOfRoots_40 : decode cX1_signOfRoots 40 = .ok (.ireturn, 1) := by decide +kernel
theorem dX1_signedSquare_0 : decode cX1_signedSquare 0 = .ok (.lload_n 0, 1) := by decide +kernel
theorem dX1_signedSquare_1 : decode cX1_signedSquare 1 = .ok (.lconst 0, 1) := by decide +kernel
theorem dX1_signedSquare_2 : decode cX1_signedSquare 2 = .ok (.lcmp, 1) := by decide +kernel
theorem dX1_signedSquare_3 : decode cX1_signedSquare 3 = .ok (.ifCond .ge 10, 3) := by decide +kernel
theorem dX1_signedSquare_6 : decode cX1_signedSquare 6 = .ok (.lload_n 0, 1) := by decide +kernel
theorem dX1_signedSquare_7 : decode cX1_signedSquare 7 = .ok (.lneg, 1) := by decide +kernel
theorem dX1_signedSquare_8 : decode cX1_signedSquare 8 = .ok (.lload_n 0, 1) := by decide +kernel
theorem dX1_signedSquare_9 : decode cX1_signedSquare 9 = .ok (.lmul, 1) := by decide +kernel
theorem dX1_signedSquare_10 : decode cX1_signedSquare 10 = .ok (.goto 6, 3) := by decide +kernel
theorem dX1_signedSquare_13 : decode cX1_signedSquare 13 = .ok (.lload_n 0, 1) := by decide +kernel
theorem dX1_signedSquare_14 : decode cX1_signedSquare 14 = .ok (.lload_n 0, 1) := by decide +kernel
theorem dX1_signedSquare_15 : decode cX1_signedSquare 15 = .ok (.lmul, 1) := by decide +kernel
theorem dX1_signedSquare_16 : decode cX1_signedSquare 16 = .ok (.lreturn, 1) := by decide +kernel
theorem dX0_init_0 : decode cX0_init 0 = .ok (.aload_n 0, 1) := by decide +kernel
theorem dX0_init_1 : decode cX0_init 1 = .ok (.invokespecial 1, 3) := by decide +kernel
theorem dX0_init_4 : decode cX0_init 4 = .ok (.return_, 1) := by decide +kernel
theorem dX0_become_0 : decode cX0_become 0 = .ok (.aload_n 0, 1) := by decide +kernel
theorem dX0_become_1 : decode cX0_become 1 = .ok (.iload_n 1, 1) := by decide +kernel
theorem dX0_become_2 : decode cX0_become 2 = .ok (.putfield 7, 3) := by decide +kernel
theorem dX0_become_5 : decode cX0_become 5 = .ok (.aload_n 0, 1) := by decide +kernel
theorem dX0_become_6 : decode cX0_become 6 = .ok (.iload_n 2, 1) := by decide +kernel
theorem dX0_become_7 : decode cX0_become 7 = .ok (.putfield 13, 3) := by decide +kernel
theorem dX0_become_10 : decode cX0_become 10 = .ok (.aload_n 0, 1) := by decide +kernel
theorem dX0_become_11 : decode cX0_become 11 = .ok (.iload_n 3, 1) := by decide +kernel
theorem dX0_become_12 : decode cX0_become 12 = .ok (.putfield 16, 3) := by decide +kernel
theorem dX0_become_15 : decode cX0_become 15 = .ok (.aload_n 0, 1) := by decide +kernel
theorem dX0_become_16 : decode cX0_become 16 = .ok (.iload 4, 2) := by decide +kernel
theorem dX0_become_18 : decode cX0_become 18 = .ok (.putfield 19, 3) := by decide +kernel
theorem dX0_become_21 : decode cX0_become 21 = .ok (.aload_n 0, 1) := by decide +kernel
theorem dX0_become_22 : decode cX0_become 22 = .ok (.getfield 7, 3) := by decide +kernel
theorem dX0_become_25 : decode cX0_become 25 = .ok (.ifCond .ne 7, 3) := by decide +kernel
theorem dX0_become_28 : decode cX0_become 28 = .ok (.iconst 0, 1) := by decide +kernel
theorem dX0_become_29 : decode cX0_become 29 = .ok (.goto 24, 3) := by decide +kernel
theorem dX0_become_32 : decode cX0_become 32 = .ok (.aload_n 0, 1) := by decide +kernel
theorem dX0_become_33 : decode cX0_become 33 = .ok (.getfield 13, 3) := by decide +kernel
theorem dX0_become_36 : decode cX0_become 36 = .ok (.aload_n 0, 1) := by decide +kernel
theorem dX0_become_37 : decode cX0_become 37 = .ok (.getfield 13, 3) := by decide +kernel
theorem dX0_become_40 : decode cX0_become 40 = .ok (.imul, 1) := by decide +kernel
theorem dX0_become_41 : decode cX0_become 41 = .ok (.iconst 4, 1) := by decide +kernel
theorem dX0_become_42 : decode cX0_become 42 = .ok (.aload_n 0, 1) := by decide +kernel
theorem dX0_become_43 : decode cX0_become 43 = .ok (.getfield 7, 3) := by decide +kernel
theorem dX0_become_46 : decode cX0_become 46 = .ok (.imul, 1) := by decide +kernel
theorem dX0_become_47 : decode cX0_become 47 = .ok (.aload_n 0, 1) := by decide +kernel
theorem dX0_become_48 : decode cX0_become 48 = .ok (.getfield 16, 3) := by decide +kernel
theorem dX0_become_51 : decode cX0_become 51 = .ok (.imul, 1) := by decide +kernel
theorem dX0_become_52 : decode cX0_become 52 = .ok (.isub, 1) := by decide +kernel
theorem dX0_become_53 : decode cX0_become 53 = .ok (.istore 5, 2) := by decide +kernel
theorem dX0_become_55 : decode cX0_become 55 = .ok (.aload_n 0, 1) := by decide +kernel
theorem dX0_become_56 : decode cX0_become 56 = .ok (.iload 5, 2) := by decide +kernel
theorem dX0_become_58 : decode cX0_become 58 = .ok (.invokestatic 22, 3) := by decide +kernel
theorem dX0_become_61 : decode cX0_become 61 = .ok (.putfield 28, 3) := by decide +kernel
theorem dX0_become_64 : decode cX0_become 64 = .ok (.aload_n 0, 1) := by decide +kernel
theorem dX0_become_65 : decode cX0_become 65 = .ok (.aload_n 0, 1) := by decide +kernel
theorem dX0_become_66 : decode cX0_become 66 = .ok (.getfield 28, 3) := by decide +kernel
theorem dX0_become_69 : decode cX0_become 69 = .ok (.ifCond .ne 7, 3) := by decide +kernel
theorem dX0_become_72 : decode cX0_become 72 = .ok (.iconst 0, 1) := by decide +kernel
theorem dX0_become_73 : decode cX0_become 73 = .ok (.goto 15, 3) := by decide +kernel
theorem dX0_become_76 : decode cX0_become 76 = .ok (.iload 5, 2) := by decide +kernel
theorem dX0_become_78 : decode cX0_become 78 = .ok (.aload_n 0, 1) := by decide +kernel
theorem dX0_become_79 : decode cX0_become 79 = .ok (.getfield 28, 3) := by decide +kernel
theorem dX0_become_82 : decode cX0_become 82 = .ok (.aload_n 0, 1) := by decide +kernel
theorem dX0_become_83 : decode cX0_become 83 = .ok (.getfield 28, 3) := by decide +kernel
theorem dX0_become_86 : decode cX0_become 86 = .ok (.imul, 1) := by decide +kernel
theorem dX0_become_87 : decode cX0_become 87 = .ok (.idiv, 1) := by decide +kernel
theorem dX0_become_88 : decode cX0_become 88 = .ok (.putfield 31, 3) := by decide +kernel
theorem dX0_become_91 : decode cX0_become 91 = .ok (.return_, 1) := by decide +kernel
theorem dX0_isLinear_0 : decode cX0_isLinear 0 = .ok (.aload_n 0, 1) := by decide +kernel
theorem dX0_isLinear_1 : decode cX0_isLinear 1 = .ok (.getfield 7, 3) := by decide +kernel
theorem dX0_isLinear_4 : decode cX0_isLinear 4 = .ok (.ifCond .ne 7, 3) := by decide +kernel
theorem dX0_isLinear_7 : decode cX0_isLinear 7 = .ok (.iconst 1, 1) := by decide +kernel
theorem dX0_isLinear_8 : decode cX0_isLinear 8 = .ok (.goto 4, 3) := by decide +kernel
theorem dX0_isLinear_11 : decode cX0_isLinear 11 = .ok (.iconst 0, 1) := by decide +kernel
theorem dX0_isLinear_12 : decode cX0_isLinear 12 = .ok (.ireturn, 1) := by decide +kernel
theorem dX0_isReal_0 : decode cX0_isReal 0 = .ok (.aload_n 0, 1) := by decide +kernel
theorem dX0_isReal_1 : decode cX0_isReal 1 = .ok (.getfield 31, 3) := by decide +kernel
theorem dX0_isReal_4 : decode cX0_isReal 4 = .ok (.ifCond .lt 7, 3) := by decide +kernel
theorem dX0_isReal_7 : decode cX0_isReal 7 = .ok (.iconst 1, 1) := by decide +kernel
theorem dX0_isReal_8 : decode cX0_isReal 8 = .ok (.goto 4, 3) := by decide +kernel
theorem dX0_isReal_11 : decode cX0_isReal 11 = .ok (.iconst 0, 1) := by decide +kernel
theorem dX0_isReal_12 : decode cX0_isReal 12 = .ok (.ireturn, 1) := by decide +kernel
theorem dX0_middle_0 : decode cX0_middle 0 = .ok (.aload_n 0, 1) := by decide +kernel
theorem dX0_middle_1 : decode cX0_middle 1 = .ok (.getfield 7, 3) := by decide +kernel
theorem dX0_middle_4 : decode cX0_middle 4 = .ok (.ifCond .ne 11, 3) := by decide +kernel
theorem dX0_middle_7 : decode cX0_middle 7 = .ok (.aload_n 0, 1) := by decide +kernel
theorem dX0_middle_8 : decode cX0_middle 8 = .ok (.getfield 16, 3) := by decide +kernel
theorem dX0_middle_11 : decode cX0_middle 11 = .ok (.ineg, 1) := by decide +kernel
theorem dX0_middle_12 : decode cX0_middle 12 = .ok (.goto 8, 3) := by decide +kernel
theorem dX0_middle_15 : decode cX0_middle 15 = .ok (.aload_n 0, 1) := by decide +kernel
theorem dX0_middle_16 : decode cX0_middle 16 = .ok (.getfield 13, 3) := by decide +kernel
theorem dX0_middle_19 : decode cX0_middle 19 = .ok (.ineg, 1) := by decide +kernel
theorem dX0_middle_20 : decode cX0_middle 20 = .ok (.ireturn, 1) := by decide +kernel
theorem dX0_under_0 : decode cX0_under 0 = .ok (.aload_n 0, 1) := by decide +kernel
theorem dX0_under_1 : decode cX0_under 1 = .ok (.getfield 28, 3) := by decide +kernel
theorem dX0_under_4 : decode cX0_under 4 = .ok (.aload_n 0, 1) := by decide +kernel
theorem dX0_under_5 : decode cX0_under 5 = .ok (.getfield 28, 3) := by decide +kernel
theorem dX0_under_8 : decode cX0_under 8 = .ok (.imul, 1) := by decide +kernel
theorem dX0_under_9 : decode cX0_under 9 = .ok (.aload_n 0, 1) := by decide +kernel
theorem dX0_under_10 : decode cX0_under 10 = .ok (.getfield 31, 3) := by decide +kernel
theorem dX0_under_13 : decode cX0_under 13 = .ok (.imul, 1) := by decide +kernel
theorem dX0_under_14 : decode cX0_under 14 = .ok (.ireturn, 1) := by decide +kernel
theorem dX0_below_0 : decode cX0_below 0 = .ok (.aload_n 0, 1) := by decide +kernel
theorem dX0_below_1 : decode cX0_below 1 = .ok (.getfield 7, 3) := by decide +kernel
theorem dX0_below_4 : decode cX0_below 4 = .ok (.ifCond .ne 10, 3) := by decide +kernel
theorem dX0_below_7 : decode cX0_below 7 = .ok (.aload_n 0, 1) := by decide +kernel
theorem dX0_below_8 : decode cX0_below 8 = .ok (.getfield 13, 3) := by decide +kernel
theorem dX0_below_11 : decode cX0_below 11 = .ok (.goto 9, 3) := by decide +kernel
theorem dX0_below_14 : decode cX0_below 14 = .ok (.iconst 2, 1) := by decide +kernel
theorem dX0_below_15 : decode cX0_below 15 = .ok (.aload_n 0, 1) := by decide +kernel
theorem dX0_below_16 : decode cX0_below 16 = .ok (.getfield 7, 3) := by decide +kernel
theorem dX0_below_19 : decode cX0_below 19 = .ok (.imul, 1) := by decide +kernel
theorem dX0_below_20 : decode cX0_below 20 = .ok (.ireturn, 1) := by decide +kernel
theorem dX0_standsBefore_0 : decode cX0_standsBefore 0 = .ok (.aload_n 0, 1) := by decide +kernel
theorem dX0_standsBefore_1 : decode cX0_standsBefore 1 = .ok (.invokevirtual 34, 3) := by decide +kernel
theorem dX0_standsBefore_4 : decode cX0_standsBefore 4 = .ok (.aload_n 1, 1) := by decide +kernel
theorem dX0_standsBefore_5 : decode cX0_standsBefore 5 = .ok (.invokevirtual 34, 3) := by decide +kernel
theorem dX0_standsBefore_8 : decode cX0_standsBefore 8 = .ok (.if_icmp .eq 8, 3) := by decide +kernel
theorem dX0_standsBefore_11 : decode cX0_standsBefore 11 = .ok (.aload_n 0, 1) := by decide +kernel
theorem dX0_standsBefore_12 : decode cX0_standsBefore 12 = .ok (.invokevirtual 34, 3) := by decide +kernel
theorem dX0_standsBefore_15 : decode cX0_standsBefore 15 = .ok (.ireturn, 1) := by decide +kernel
theorem dX0_standsBefore_16 : decode cX0_standsBefore 16 = .ok (.aload_n 0, 1) := by decide +kernel
theorem dX0_standsBefore_17 : decode cX0_standsBefore 17 = .ok (.invokevirtual 34, 3) := by decide +kernel
theorem dX0_standsBefore_20 : decode cX0_standsBefore 20 = .ok (.ifCond .eq 30, 3) := by decide +kernel
theorem dX0_standsBefore_23 : decode cX0_standsBefore 23 = .ok (.aload_n 0, 1) := by decide +kernel
theorem dX0_standsBefore_24 : decode cX0_standsBefore 24 = .ok (.invokevirtual 38, 3) := by decide +kernel
theorem dX0_standsBefore_27 : decode cX0_standsBefore 27 = .ok (.aload_n 1, 1) := by decide +kernel
theorem dX0_standsBefore_28 : decode cX0_standsBefore 28 = .ok (.invokevirtual 42, 3) := by decide +kernel
theorem dX0_standsBefore_31 : decode cX0_standsBefore 31 = .ok (.imul, 1) := by decide +kernel
theorem dX0_standsBefore_32 : decode cX0_standsBefore 32 = .ok (.aload_n 1, 1) := by decide +kernel
theorem dX0_standsBefore_33 : decode cX0_standsBefore 33 = .ok (.invokevirtual 38, 3) := by decide +kernel
theorem dX0_standsBefore_36 : decode cX0_standsBefore 36 = .ok (.aload_n 0, 1) := by decide +kernel
theorem dX0_standsBefore_37 : decode cX0_standsBefore 37 = .ok (.invokevirtual 42, 3) := by decide +kernel
theorem dX0_standsBefore_40 : decode cX0_standsBefore 40 = .ok (.imul, 1) := by decide +kernel
theorem dX0_standsBefore_41 : decode cX0_standsBefore 41 = .ok (.if_icmp .ge 7, 3) := by decide +kernel
theorem dX0_standsBefore_44 : decode cX0_standsBefore 44 = .ok (.iconst 1, 1) := by decide +kernel
theorem dX0_standsBefore_45 : decode cX0_standsBefore 45 = .ok (.goto 4, 3) := by decide +kernel
theorem dX0_standsBefore_48 : decode cX0_standsBefore 48 = .ok (.iconst 0, 1) := by decide +kernel
theorem dX0_standsBefore_49 : decode cX0_standsBefore 49 = .ok (.ireturn, 1) := by decide +kernel
theorem dX0_standsBefore_50 : decode cX0_standsBefore 50 = .ok (.aload_n 0, 1) := by decide +kernel
theorem dX0_standsBefore_51 : decode cX0_standsBefore 51 = .ok (.getfield 7, 3) := by decide +kernel
theorem dX0_standsBefore_54 : decode cX0_standsBefore 54 = .ok (.aload_n 1, 1) := by decide +kernel
theorem dX0_standsBefore_55 : decode cX0_standsBefore 55 = .ok (.getfield 7, 3) := by decide +kernel
theorem dX0_standsBefore_58 : decode cX0_standsBefore 58 = .ok (.if_icmp .eq 20, 3) := by decide +kernel
theorem dX0_standsBefore_61 : decode cX0_standsBefore 61 = .ok (.aload_n 0, 1) := by decide +kernel
theorem dX0_standsBefore_62 : decode cX0_standsBefore 62 = .ok (.getfield 7, 3) := by decide +kernel
theorem dX0_standsBefore_65 : decode cX0_standsBefore 65 = .ok (.aload_n 1, 1) := by decide +kernel
theorem dX0_standsBefore_66 : decode cX0_standsBefore 66 = .ok (.getfield 7, 3) := by decide +kernel
theorem dX0_standsBefore_69 : decode cX0_standsBefore 69 = .ok (.if_icmp .ge 7, 3) := by decide +kernel
theorem dX0_standsBefore_72 : decode cX0_standsBefore 72 = .ok (.iconst 1, 1) := by decide +kernel
theorem dX0_standsBefore_73 : decode cX0_standsBefore 73 = .ok (.goto 4, 3) := by decide +kernel
theorem dX0_standsBefore_76 : decode cX0_standsBefore 76 = .ok (.iconst 0, 1) := by decide +kernel
theorem dX0_standsBefore_77 : decode cX0_standsBefore 77 = .ok (.ireturn, 1) := by decide +kernel
theorem dX0_standsBefore_78 : decode cX0_standsBefore 78 = .ok (.aload_n 0, 1) := by decide +kernel
theorem dX0_standsBefore_79 : decode cX0_standsBefore 79 = .ok (.getfield 13, 3) := by decide +kernel
theorem dX0_standsBefore_82 : decode cX0_standsBefore 82 = .ok (.aload_n 1, 1) := by decide +kernel
theorem dX0_standsBefore_83 : decode cX0_standsBefore 83 = .ok (.getfield 13, 3) := by decide +kernel
theorem dX0_standsBefore_86 : decode cX0_standsBefore 86 = .ok (.if_icmp .eq 22, 3) := by decide +kernel
theorem dX0_standsBefore_89 : decode cX0_standsBefore 89 = .ok (.aload_n 0, 1) := by decide +kernel
theorem dX0_standsBefore_90 : decode cX0_standsBefore 90 = .ok (.getfield 13, 3) := by decide +kernel
theorem dX0_standsBefore_93 : decode cX0_standsBefore 93 = .ok (.aload_n 1, 1) := by decide +kernel
theorem dX0_standsBefore_94 : decode cX0_standsBefore 94 = .ok (.getfield 13, 3) := by decide +kernel
theorem dX0_standsBefore_97 : decode cX0_standsBefore 97 = .ok (.if_icmp .ge 7, 3) := by decide +kernel
theorem dX0_standsBefore_100 : decode cX0_standsBefore 100 = .ok (.iconst 1, 1) := by decide +kernel
theorem dX0_standsBefore_101 : decode cX0_standsBefore 101 = .ok (.goto 23, 3) := by decide +kernel
theorem dX0_standsBefore_104 : decode cX0_standsBefore 104 = .ok (.iconst 0, 1) := by decide +kernel
theorem dX0_standsBefore_105 : decode cX0_standsBefore 105 = .ok (.goto 19, 3) := by decide +kernel
theorem dX0_standsBefore_108 : decode cX0_standsBefore 108 = .ok (.aload_n 0, 1) := by decide +kernel
theorem dX0_standsBefore_109 : decode cX0_standsBefore 109 = .ok (.getfield 16, 3) := by decide +kernel
theorem dX0_standsBefore_112 : decode cX0_standsBefore 112 = .ok (.aload_n 1, 1) := by decide +kernel
theorem dX0_standsBefore_113 : decode cX0_standsBefore 113 = .ok (.getfield 16, 3) := by decide +kernel
theorem dX0_standsBefore_116 : decode cX0_standsBefore 116 = .ok (.if_icmp .ge 7, 3) := by decide +kernel
theorem dX0_standsBefore_119 : decode cX0_standsBefore 119 = .ok (.iconst 1, 1) := by decide +kernel
theorem dX0_standsBefore_120 : decode cX0_standsBefore 120 = .ok (.goto 4, 3) := by decide +kernel
theorem dX0_standsBefore_123 : decode cX0_standsBefore 123 = .ok (.iconst 0, 1) := by decide +kernel
theorem dX0_standsBefore_124 : decode cX0_standsBefore 124 = .ok (.ireturn, 1) := by decide +kernel
